/-! the private methods, each with a general post; then sample, both sides at one answer -/
theorem hp_one : ¬ (1 : Int32) = 0 := by decide
theorem hp_u {post : Int32 → Prop} {f : Int32} {a : Nat → Int32} {x : Int32} (n : Nat) (hx : x = nI n) (h : n < 16) (hp : post (a n &&& 255)) : wpX_unsigned post (f, a) x := by
  subst hx
  unfold wpX_unsigned
  dsimp only
  rw [nI_clamp (n := n) (by omega)]
  exact ⟨vp_in_nI h (by omega), hp⟩
theorem hp_p {post : Int32 → Prop} {f : Int32} {a : Nat → Int32} {x : Int32} (n : Nat) (hx : x = nI n) (h : n < 16) (hp : post (a n &&& 255)) : wpY_pixel post (f, a) x := by
  subst hx
  unfold wpY_pixel
  dsimp only
  rw [nI_clamp (n := n) (by omega)]
  exact br_f (nI_pos (by omega)) (br_t (nI_le (b := 15) (by omega) (by decide)) ⟨vp_in_nI h (by omega), hp⟩)
theorem hp_two {post : Int32 → Prop} {f : Int32} {a : Nat → Int32} {x y : Int32} (n m : Nat) (hx : x = nI n) (hy : y = nI m) (hn : n < 16) (hm : m < 16) (hp : post ((((a n &&& 255) + (a m &&& 255) + 1) - f) >>> ((1 : Int32) &&& 31))) : wpX_meanOfTwo post (f, a) x y := by
  unfold wpX_meanOfTwo
  dsimp only
  refine hp_u n hx hn ?_
  refine hp_u m hy hm ?_
  exact hp
theorem hp_mean4 {post : Int32 → Prop} {f : Int32} {a : Nat → Int32} (n : Nat) (hn : n + 9 < 16) (hp : post (((((a n &&& 255) + (a (n + 1) &&& 255)) + ((a (n + 8) &&& 255) + (a (n + 9) &&& 255)) + 2) - f) >>> ((2 : Int32) &&& 31))) : wpX_meanOfFour post (f, a) (nI n) := by
  unfold wpX_meanOfFour
  dsimp only
  refine hp_u n rfl (by omega) ?_
  refine hp_u (n + 1) (nI_1 n) (by omega) ?_
  refine nm_e ?_
  refine hp_u (n + 8) (hp_8 n) (by omega) ?_
  refine hp_u (n + 9) (hp_81 n) (by omega) ?_
  refine nm_e ?_
  exact hp
/-- at a place within the range there is one answer, and both sides come to it -/
theorem hp_sample (f : Int32) (a : Nat → Int32) {i j : Nat} (hi : i ≤ 14) (hj : j ≤ 2) : ∃ r : Int32, (∀ post : Int32 → Prop, post r → wpX_sample post (f, a) (nI i) (nI j)) ∧ (∀ post : Int32 → Prop, post r → wpY_sample post (f, a) (nI i) (nI j)) := by
  have a0 : ¬ nI i < 0 := nI_pos (by omega)
  have a14 : ¬ (14 : Int32) < nI i := nI_nlt (a := 14) hi (by decide)
  have b0 : ¬ nI j < 0 := nI_pos (by omega)
  have b2 : nI j ≤ (2 : Int32) := nI_le (b := 2) hj (by decide)
  have ex := hp_ix hi hj
  by_cases c : nI i &&& 1 = 0
  · by_cases d : nI j &&& 1 = 0
    · have h0 : j / 2 * 8 + i / 2 < 16 := by omega
      generalize j / 2 * 8 + i / 2 = n at ex h0
      refine ⟨a n &&& 255, fun post hp => ?_, fun post hp => ?_⟩
      · exact br_f a0 (br_f a14 (br_f b0 (br_t b2 (nm_r ex (br_t c (br_t d (br_t rfl (br_t rfl (br_t rfl (hp_u n rfl h0 hp))))))))))
      · exact br_f a0 (br_f a14 (br_f b0 (br_t b2 (nm_r ex (br_t c (br_t d (br_t rfl (br_t rfl (br_t rfl (hp_p n rfl h0 hp))))))))))
    · have hjo := hp_odd (i := j) (by omega) d
      have h0 : j / 2 * 8 + i / 2 + 8 < 16 := by omega
      generalize j / 2 * 8 + i / 2 = n at ex h0
      refine ⟨(((a n &&& 255) + (a (n + 8) &&& 255) + 1) - f) >>> ((1 : Int32) &&& 31), fun post hp => ?_, fun post hp => ?_⟩
      · exact br_f a0 (br_f a14 (br_f b0 (br_t b2 (nm_r ex (br_t c (br_f d (br_t rfl (br_t rfl (br_f hp_one (hp_two n (n + 8) rfl (hp_8 n) (by omega) h0 hp))))))))))
      · exact br_f a0 (br_f a14 (br_f b0 (br_t b2 (nm_r ex (br_t c (br_f d (br_t rfl (br_t rfl (br_f hp_one (hp_p n rfl (by omega) (hp_p (n + 8) (hp_8 n) h0 hp)))))))))))
  · have hio := hp_odd hi c
    by_cases d : nI j &&& 1 = 0
    · have h0 : j / 2 * 8 + i / 2 + 1 < 16 := by omega
      generalize j / 2 * 8 + i / 2 = n at ex h0
      refine ⟨(((a n &&& 255) + (a (n + 1) &&& 255) + 1) - f) >>> ((1 : Int32) &&& 31), fun post hp => ?_, fun post hp => ?_⟩
      · exact br_f a0 (br_f a14 (br_f b0 (br_t b2 (nm_r ex (br_f c (br_t d (br_f hp_one (br_t rfl (br_f hp_one (hp_two n (n + 1) rfl (nI_1 n) (by omega) h0 hp))))))))))
      · exact br_f a0 (br_f a14 (br_f b0 (br_t b2 (nm_r ex (br_f c (br_t d (br_f hp_one (br_t rfl (br_f hp_one (hp_p n rfl (by omega) (hp_p (n + 1) (nI_1 n) h0 hp)))))))))))
    · have hjo := hp_odd (i := j) (by omega) d
      have h0 : j / 2 * 8 + i / 2 + 9 < 16 := by omega
      generalize j / 2 * 8 + i / 2 = n at ex h0
      refine ⟨((((a n &&& 255) + (a (n + 1) &&& 255)) + ((a (n + 8) &&& 255) + (a (n + 9) &&& 255)) + 2) - f) >>> ((2 : Int32) &&& 31), fun post hp => ?_, fun post hp => ?_⟩
      · exact br_f a0 (br_f a14 (br_f b0 (br_t b2 (nm_r ex (br_f c (br_f d (br_f hp_one (br_f hp_one (hp_mean4 n h0 hp)))))))))
      · rw [← hp_four] at hp
        exact br_f a0 (br_f a14 (br_f b0 (br_t b2 (nm_r ex (br_f c (br_f d (br_f hp_one (br_f hp_one (hp_p n rfl (by omega) (hp_p (n + 1) (nI_1 n) (by omega) (hp_p (n + 8) (hp_8 n) (by omega) (hp_p (n + 9) (hp_9 n) h0 hp))))))))))))
