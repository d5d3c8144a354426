section
/-! numbers below 2^31: the index of a sample, its bounds (the rows pk_ are the kit's rows to paste) -/
theorem pk_mul (a b : Nat) : nI a * nI b = nI (a * b) := (Int32.ofNat_mul a b).symm
theorem pk_tn {n : Nat} (h : n < 2 ^ 32) : (nI n).toBitVec.toNat = n := Nat.mod_eq_of_lt h
theorem pk_and (x : Int32) {m : Int32} (k : Nat) (hm : m.toBitVec.toNat = 2 ^ k - 1) : x &&& m = nI (x.toBitVec.toNat % 2 ^ k) := by
  apply Int32.toBitVec_inj.mp
  apply BitVec.eq_of_toNat_eq
  rw [Int32.toBitVec_and, BitVec.toNat_and, hm, Nat.and_two_pow_sub_one_eq_mod]
  show _ = (BitVec.ofNat 32 _).toNat
  rw [BitVec.toNat_ofNat]
  exact (Nat.mod_eq_of_lt (Nat.lt_of_le_of_lt (Nat.mod_le _ _) x.toBitVec.isLt)).symm
theorem pk_andN {n : Nat} (h : n < 2 ^ 32) {m : Int32} (k : Nat) (hm : m.toBitVec.toNat = 2 ^ k - 1) : nI n &&& m = nI (n % 2 ^ k) := by
  rw [pk_and _ k hm, pk_tn h]
theorem pk_shr (a s : Int32) (k : Nat) (hs : (s.toBitVec.smod 32).toNat = k) : (a >>> s).toInt = a.toInt >>> k := by
  show (a.toBitVec.sshiftRight (s.toBitVec.smod 32).toNat).toInt = _
  rw [hs, BitVec.toInt_sshiftRight]
  rfl
theorem pk_shrN {n : Nat} (h : n < 2 ^ 31) (s : Int32) (k : Nat) (hs : (s.toBitVec.smod 32).toNat = k) : nI n >>> s = nI (n / 2 ^ k) := by
  apply Int32.toInt_inj.mp
  have h2 : n / 2 ^ k ≤ n := Nat.div_le_self _ _
  rw [pk_shr _ _ k hs, nI_toInt h, nI_toInt (by omega), Int.shiftRight_eq_div_pow]
  rfl
/-- the sample at half columns i, half lines j: its cell -/
theorem hp_ix {i j : Nat} (hi : i ≤ 14) (hj : j ≤ 2) : (nI j >>> ((1 : Int32) &&& 31)) * 8 + (nI i >>> ((1 : Int32) &&& 31)) = nI (j / 2 * 8 + i / 2) := by
  rw [pk_shrN (n := j) (by omega) _ 1 (by decide), pk_shrN (n := i) (by omega) _ 1 (by decide), show (8 : Int32) = nI 8 from by decide +kernel, pk_mul, nI_add]
theorem hp_and1 {i : Nat} (hi : i ≤ 14) : nI i &&& 1 = nI (i % 2) := pk_andN (by omega) 1 (by decide)
theorem hp_odd {i : Nat} (hi : i ≤ 14) (h : ¬ nI i &&& 1 = 0) : i % 2 = 1 := by
  rw [hp_and1 hi] at h
  have h2 : i % 2 ≠ 0 := fun z => h (by rw [z]; exact nI_0)
  omega
theorem hp_8 (n : Nat) : nI n + 8 = nI (n + 8) := by
  rw [show (8 : Int32) = nI 8 from by decide +kernel, nI_add]
theorem hp_9 (n : Nat) : nI n + 9 = nI (n + 9) := by
  rw [show (9 : Int32) = nI 9 from by decide +kernel, nI_add]
theorem hp_81 (n : Nat) : nI n + 8 + 1 = nI (n + 9) := by
  rw [hp_8, nI_1]
/-- the sum of four, in either order -/
theorem hp_four (p q s t r : Int32) : p + q + s + t + 2 - r = p + q + (s + t) + 2 - r := by
  rw [Int32.add_assoc (p + q) s t]
/-- the range of a cell's number -/
theorem hp_cell {x : Int32} (h0 : ¬ x < 0) (h : x < 16) : ∃ j : Nat, j < 16 ∧ x = nI j := by
  obtain ⟨j, hj, rfl⟩ := nI_of h0
  rw [show (16 : Int32) = nI 16 from by decide +kernel, nI_ltI hj (by omega)] at h
  exact ⟨j, h, rfl⟩
theorem hp_n15 {x : Int32} (h : (16 : Int32) ≤ x) : ¬ x ≤ 15 := by
  rw [Int32.le_iff_toInt_le, show (16 : Int32).toInt = 16 from by decide] at h
  rw [Int32.le_iff_toInt_le, show (15 : Int32).toInt = 15 from by decide]
  omega
end
section
/-! the private methods, each with a general post; then sample, both sides at one answer -/
theorem hp_one : ¬ (1 : Int32) = 0 := by decide
theorem hp_u {post : Int32 → Prop} {f : Int32} {a : Nat → Int32} {x : Int32} (n : Nat) (hx : x = nI n) (h : n < 16) (hp : post (a n &&& 255)) : wpX_unsigned post (f, a) x := by
  subst hx
  unfold wpX_unsigned
  dsimp only
  rw [nI_clamp (n := n) (by omega)]
  exact ⟨vp_in_nI h (by omega), hp⟩
theorem hp_p {post : Int32 → Prop} {f : Int32} {a : Nat → Int32} {x : Int32} (n : Nat) (hx : x = nI n) (h : n < 16) (hp : post (a n &&& 255)) : wpY_pixel post (f, a) x := by
  subst hx
  unfold wpY_pixel
  dsimp only
  rw [nI_clamp (n := n) (by omega)]
  exact br_f (nI_pos (by omega)) (br_t (nI_le (b := 15) (by omega) (by decide)) ⟨vp_in_nI h (by omega), hp⟩)
theorem hp_two {post : Int32 → Prop} {f : Int32} {a : Nat → Int32} {x y : Int32} (n m : Nat) (hx : x = nI n) (hy : y = nI m) (hn : n < 16) (hm : m < 16) (hp : post ((((a n &&& 255) + (a m &&& 255) + 1) - f) >>> ((1 : Int32) &&& 31))) : wpX_meanOfTwo post (f, a) x y := by
  unfold wpX_meanOfTwo
  dsimp only
  refine hp_u n hx hn ?_
  refine hp_u m hy hm ?_
  exact hp
theorem hp_mean4 {post : Int32 → Prop} {f : Int32} {a : Nat → Int32} (n : Nat) (hn : n + 9 < 16) (hp : post (((((a n &&& 255) + (a (n + 1) &&& 255)) + ((a (n + 8) &&& 255) + (a (n + 9) &&& 255)) + 2) - f) >>> ((2 : Int32) &&& 31))) : wpX_meanOfFour post (f, a) (nI n) := by
  unfold wpX_meanOfFour
  dsimp only
  refine hp_u n rfl (by omega) ?_
  refine hp_u (n + 1) (nI_1 n) (by omega) ?_
  refine nm_e ?_
  refine hp_u (n + 8) (hp_8 n) (by omega) ?_
  refine hp_u (n + 9) (hp_81 n) (by omega) ?_
  refine nm_e ?_
  exact hp
/-- at a place within the range there is one answer, and both sides come to it -/
theorem hp_sample (f : Int32) (a : Nat → Int32) {i j : Nat} (hi : i ≤ 14) (hj : j ≤ 2) : ∃ r : Int32, (∀ post : Int32 → Prop, post r → wpX_sample post (f, a) (nI i) (nI j)) ∧ (∀ post : Int32 → Prop, post r → wpY_sample post (f, a) (nI i) (nI j)) := by
  have a0 : ¬ nI i < 0 := nI_pos (by omega)
  have a14 : ¬ (14 : Int32) < nI i := nI_nlt (a := 14) hi (by decide)
  have b0 : ¬ nI j < 0 := nI_pos (by omega)
  have b2 : nI j ≤ (2 : Int32) := nI_le (b := 2) hj (by decide)
  have ex := hp_ix hi hj
  by_cases c : nI i &&& 1 = 0
  · by_cases d : nI j &&& 1 = 0
    · have h0 : j / 2 * 8 + i / 2 < 16 := by omega
      generalize j / 2 * 8 + i / 2 = n at ex h0
      refine ⟨a n &&& 255, fun post hp => ?_, fun post hp => ?_⟩
      · exact br_f a0 (br_f a14 (br_f b0 (br_t b2 (nm_r ex (br_t c (br_t d (br_t rfl (br_t rfl (br_t rfl (hp_u n rfl h0 hp))))))))))
      · exact br_f a0 (br_f a14 (br_f b0 (br_t b2 (nm_r ex (br_t c (br_t d (br_t rfl (br_t rfl (br_t rfl (hp_p n rfl h0 hp))))))))))
    · have hjo := hp_odd (i := j) (by omega) d
      have h0 : j / 2 * 8 + i / 2 + 8 < 16 := by omega
      generalize j / 2 * 8 + i / 2 = n at ex h0
      refine ⟨(((a n &&& 255) + (a (n + 8) &&& 255) + 1) - f) >>> ((1 : Int32) &&& 31), fun post hp => ?_, fun post hp => ?_⟩
      · exact br_f a0 (br_f a14 (br_f b0 (br_t b2 (nm_r ex (br_t c (br_f d (br_t rfl (br_t rfl (br_f hp_one (hp_two n (n + 8) rfl (hp_8 n) (by omega) h0 hp))))))))))
      · exact br_f a0 (br_f a14 (br_f b0 (br_t b2 (nm_r ex (br_t c (br_f d (br_t rfl (br_t rfl (br_f hp_one (hp_p n rfl (by omega) (hp_p (n + 8) (hp_8 n) h0 hp)))))))))))
  · have hio := hp_odd hi c
    by_cases d : nI j &&& 1 = 0
    · have h0 : j / 2 * 8 + i / 2 + 1 < 16 := by omega
      generalize j / 2 * 8 + i / 2 = n at ex h0
      refine ⟨(((a n &&& 255) + (a (n + 1) &&& 255) + 1) - f) >>> ((1 : Int32) &&& 31), fun post hp => ?_, fun post hp => ?_⟩
      · exact br_f a0 (br_f a14 (br_f b0 (br_t b2 (nm_r ex (br_f c (br_t d (br_f hp_one (br_t rfl (br_f hp_one (hp_two n (n + 1) rfl (nI_1 n) (by omega) h0 hp))))))))))
      · exact br_f a0 (br_f a14 (br_f b0 (br_t b2 (nm_r ex (br_f c (br_t d (br_f hp_one (br_t rfl (br_f hp_one (hp_p n rfl (by omega) (hp_p (n + 1) (nI_1 n) h0 hp)))))))))))
    · have hjo := hp_odd (i := j) (by omega) d
      have h0 : j / 2 * 8 + i / 2 + 9 < 16 := by omega
      generalize j / 2 * 8 + i / 2 = n at ex h0
      refine ⟨((((a n &&& 255) + (a (n + 1) &&& 255)) + ((a (n + 8) &&& 255) + (a (n + 9) &&& 255)) + 2) - f) >>> ((2 : Int32) &&& 31), fun post hp => ?_, fun post hp => ?_⟩
      · exact br_f a0 (br_f a14 (br_f b0 (br_t b2 (nm_r ex (br_f c (br_f d (br_f hp_one (br_f hp_one (hp_mean4 n h0 hp)))))))))
      · rw [← hp_four] at hp
        exact br_f a0 (br_f a14 (br_f b0 (br_t b2 (nm_r ex (br_f c (br_f d (br_f hp_one (br_f hp_one (hp_p n rfl (by omega) (hp_p (n + 1) (nI_1 n) (by omega) (hp_p (n + 8) (hp_8 n) (by omega) (hp_p (n + 9) (hp_9 n) h0 hp))))))))))))
end
section
/-- the two states are the same: the rounding bit, the sixteen bytes -/
def i_Rel (_ : Nat) (u : SX) (v : SY) : Prop := u = v
theorem i_up {k : Nat} {u : SX} {v : SY} (h : i_Rel k u v) : i_Rel (k + 3) u v := h
theorem i_vc0 : wpX_init (fun u => wpY_init (fun v => i_Rel 0 u v)) := rfl
theorem i_vc_setPixel {k : Nat} {u : SX} {v : SY} (I : i_Rel k u v) (hk : k + 3 ≤ 1536) (v1 : Int32) (v2 : Int32) : wpX_setPixel (fun r u' => wpY_setPixel (fun r' v' => r' = r ∧ i_Rel (k + 3) u' v') v v1 v2) u v1 v2 := by
  cases I
  obtain ⟨f, a⟩ := u
  unfold wpX_setPixel wpY_setPixel
  dsimp only
  by_cases h0 : v1 < 0
  · exact br_t h0 (br_t rfl (br_t h0 ⟨rfl, rfl⟩))
  · by_cases h16 : (16 : Int32) ≤ v1
    · exact br_f h0 (br_t h16 (br_t rfl (br_f h0 (br_f (hp_n15 h16) ⟨rfl, rfl⟩))))
    · obtain ⟨j, hj, rfl⟩ := hp_cell h0 (Int32.not_le.mp h16)
      have hin : vp_in (nI j) 16 := vp_in_nI hj (by omega)
      have h15 : nI j ≤ (15 : Int32) := nI_le (b := 15) (by omega) (by decide)
      refine br_f h0 (br_f h16 (br_f hp_one ?_))
      refine hp_u j rfl hj ?_
      refine ⟨hin, fun b eb => ?_⟩
      refine br_f h0 (br_t h15 ⟨hin, fun x ex => ⟨hin, fun c ec => ⟨?_, ?_⟩⟩⟩)
      · rw [ex, nI_clamp (n := j) (by omega)]
      · subst eb
        subst ec
        exact rfl
theorem i_vc_setRounding {k : Nat} {u : SX} {v : SY} (I : i_Rel k u v) (hk : k + 3 ≤ 1536) (v1 : Int32) : wpX_setRounding (fun r u' => wpY_setRounding (fun r' v' => r' = r ∧ i_Rel (k + 3) u' v') v v1) u v1 := by
  cases I
  obtain ⟨f, a⟩ := u
  unfold wpX_setRounding wpY_setRounding
  dsimp only
  intro x ex y ey
  subst ex
  subst ey
  exact ⟨rfl, rfl⟩
theorem i_vc_sample {k : Nat} {u : SX} {v : SY} (I : i_Rel k u v) (hk : k + 3 ≤ 1536) (v1 : Int32) (v2 : Int32) : wpX_sample (fun r => wpY_sample (fun r' => r' = r ∧ i_Rel (k + 3) u v) v v1 v2) u v1 v2 := by
  cases I
  obtain ⟨f, a⟩ := u
  by_cases a0 : v1 < 0
  · exact br_t a0 (br_t a0 ⟨rfl, rfl⟩)
  · by_cases a14 : (14 : Int32) < v1
    · exact br_f a0 (br_t a14 (br_f a0 (br_t a14 ⟨rfl, rfl⟩)))
    · by_cases b0 : v2 < 0
      · exact br_f a0 (br_f a14 (br_t b0 (br_f a0 (br_f a14 (br_t b0 ⟨rfl, rfl⟩)))))
      · by_cases b2 : v2 ≤ (2 : Int32)
        · obtain ⟨i, hi, rfl⟩ := nI_of2 (M := 14) (n := 14) (by decide) a0 (Int32.not_lt.mp a14)
          obtain ⟨j, hj, rfl⟩ := nI_of2 (M := 2) (n := 2) (by decide) b0 b2
          obtain ⟨r, hX, hY⟩ := hp_sample f a hi hj
          exact hX _ (hY _ ⟨rfl, rfl⟩)
        · exact br_f a0 (br_f a14 (br_f b0 (br_f b2 (br_f a0 (br_f a14 (br_f b0 (br_f b2 ⟨rfl, rfl⟩)))))))
theorem i_vc_pixel {k : Nat} {u : SX} {v : SY} (I : i_Rel k u v) (hk : k + 3 ≤ 1536) (v1 : Int32) : wpX_pixel (fun r => wpY_pixel (fun r' => r' = r ∧ i_Rel (k + 3) u v) v v1) u v1 := by
  cases I
  obtain ⟨f, a⟩ := u
  by_cases h0 : v1 < 0
  · exact br_t h0 (br_t rfl (br_t h0 ⟨rfl, rfl⟩))
  · by_cases h16 : (16 : Int32) ≤ v1
    · exact br_f h0 (br_t h16 (br_t rfl (br_f h0 (br_f (hp_n15 h16) ⟨rfl, rfl⟩))))
    · obtain ⟨j, hj, rfl⟩ := hp_cell h0 (Int32.not_le.mp h16)
      exact br_f h0 (br_f h16 (br_f hp_one (hp_u j rfl hj (hp_p j rfl hj ⟨rfl, rfl⟩))))
end
