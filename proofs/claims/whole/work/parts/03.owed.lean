/-- the two states are the same: the rounding bit, the sixteen bytes -/
def i_Rel (_ : Nat) (u : SX) (v : SY) : Prop := u = v
theorem i_up {k : Nat} {u : SX} {v : SY} (h : i_Rel k u v) : i_Rel (k + 3) u v := h
theorem i_vc0 : wpX_init (fun u => wpY_init (fun v => i_Rel 0 u v)) := rfl
theorem i_vc_setPixel {k : Nat} {u : SX} {v : SY} (I : i_Rel k u v) (hk : k + 3 ≤ 1536) (v1 : Int32) (v2 : Int32) : wpX_setPixel (fun r u' => wpY_setPixel (fun r' v' => r' = r ∧ i_Rel (k + 3) u' v') v v1 v2) u v1 v2 := by
  cases I
  obtain ⟨f, a⟩ := u
  unfold wpX_setPixel wpY_setPixel
  dsimp only
  by_cases h0 : v1 < 0
  · exact br_t h0 (br_t rfl (br_t h0 ⟨rfl, rfl⟩))
  · by_cases h16 : (16 : Int32) ≤ v1
    · exact br_f h0 (br_t h16 (br_t rfl (br_f h0 (br_f (hp_n15 h16) ⟨rfl, rfl⟩))))
    · obtain ⟨j, hj, rfl⟩ := hp_cell h0 (Int32.not_le.mp h16)
      have hin : vp_in (nI j) 16 := vp_in_nI hj (by omega)
      have h15 : nI j ≤ (15 : Int32) := nI_le (b := 15) (by omega) (by decide)
      refine br_f h0 (br_f h16 (br_f hp_one ?_))
      refine hp_u j rfl hj ?_
      refine ⟨hin, fun b eb => ?_⟩
      refine br_f h0 (br_t h15 ⟨hin, fun x ex => ⟨hin, fun c ec => ⟨?_, ?_⟩⟩⟩)
      · rw [ex, nI_clamp (n := j) (by omega)]
      · subst eb
        subst ec
        exact rfl
theorem i_vc_setRounding {k : Nat} {u : SX} {v : SY} (I : i_Rel k u v) (hk : k + 3 ≤ 1536) (v1 : Int32) : wpX_setRounding (fun r u' => wpY_setRounding (fun r' v' => r' = r ∧ i_Rel (k + 3) u' v') v v1) u v1 := by
  cases I
  obtain ⟨f, a⟩ := u
  unfold wpX_setRounding wpY_setRounding
  dsimp only
  intro x ex y ey
  subst ex
  subst ey
  exact ⟨rfl, rfl⟩
theorem i_vc_sample {k : Nat} {u : SX} {v : SY} (I : i_Rel k u v) (hk : k + 3 ≤ 1536) (v1 : Int32) (v2 : Int32) : wpX_sample (fun r => wpY_sample (fun r' => r' = r ∧ i_Rel (k + 3) u v) v v1 v2) u v1 v2 := by
  cases I
  obtain ⟨f, a⟩ := u
  by_cases a0 : v1 < 0
  · exact br_t a0 (br_t a0 ⟨rfl, rfl⟩)
  · by_cases a14 : (14 : Int32) < v1
    · exact br_f a0 (br_t a14 (br_f a0 (br_t a14 ⟨rfl, rfl⟩)))
    · by_cases b0 : v2 < 0
      · exact br_f a0 (br_f a14 (br_t b0 (br_f a0 (br_f a14 (br_t b0 ⟨rfl, rfl⟩)))))
      · by_cases b2 : v2 ≤ (2 : Int32)
        · obtain ⟨i, hi, rfl⟩ := nI_of2 (M := 14) (n := 14) (by decide) a0 (Int32.not_lt.mp a14)
          obtain ⟨j, hj, rfl⟩ := nI_of2 (M := 2) (n := 2) (by decide) b0 b2
          obtain ⟨r, hX, hY⟩ := hp_sample f a hi hj
          exact hX _ (hY _ ⟨rfl, rfl⟩)
        · exact br_f a0 (br_f a14 (br_f b0 (br_f b2 (br_f a0 (br_f a14 (br_f b0 (br_f b2 ⟨rfl, rfl⟩)))))))
theorem i_vc_pixel {k : Nat} {u : SX} {v : SY} (I : i_Rel k u v) (hk : k + 3 ≤ 1536) (v1 : Int32) : wpX_pixel (fun r => wpY_pixel (fun r' => r' = r ∧ i_Rel (k + 3) u v) v v1) u v1 := by
  cases I
  obtain ⟨f, a⟩ := u
  by_cases h0 : v1 < 0
  · exact br_t h0 (br_t rfl (br_t h0 ⟨rfl, rfl⟩))
  · by_cases h16 : (16 : Int32) ≤ v1
    · exact br_f h0 (br_t h16 (br_t rfl (br_f h0 (br_f (hp_n15 h16) ⟨rfl, rfl⟩))))
    · obtain ⟨j, hj, rfl⟩ := hp_cell h0 (Int32.not_le.mp h16)
      exact br_f h0 (br_f h16 (br_f hp_one (hp_u j rfl hj (hp_p j rfl hj ⟨rfl, rfl⟩))))
