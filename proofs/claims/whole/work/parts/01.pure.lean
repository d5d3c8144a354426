/-! numbers below 2^31: the index of a sample, its bounds (the rows pk_ are the kit's rows to paste) -/
theorem pk_mul (a b : Nat) : nI a * nI b = nI (a * b) := (Int32.ofNat_mul a b).symm
theorem pk_tn {n : Nat} (h : n < 2 ^ 32) : (nI n).toBitVec.toNat = n := Nat.mod_eq_of_lt h
theorem pk_and (x : Int32) {m : Int32} (k : Nat) (hm : m.toBitVec.toNat = 2 ^ k - 1) : x &&& m = nI (x.toBitVec.toNat % 2 ^ k) := by
  apply Int32.toBitVec_inj.mp
  apply BitVec.eq_of_toNat_eq
  rw [Int32.toBitVec_and, BitVec.toNat_and, hm, Nat.and_two_pow_sub_one_eq_mod]
  show _ = (BitVec.ofNat 32 _).toNat
  rw [BitVec.toNat_ofNat]
  exact (Nat.mod_eq_of_lt (Nat.lt_of_le_of_lt (Nat.mod_le _ _) x.toBitVec.isLt)).symm
theorem pk_andN {n : Nat} (h : n < 2 ^ 32) {m : Int32} (k : Nat) (hm : m.toBitVec.toNat = 2 ^ k - 1) : nI n &&& m = nI (n % 2 ^ k) := by
  rw [pk_and _ k hm, pk_tn h]
theorem pk_shr (a s : Int32) (k : Nat) (hs : (s.toBitVec.smod 32).toNat = k) : (a >>> s).toInt = a.toInt >>> k := by
  show (a.toBitVec.sshiftRight (s.toBitVec.smod 32).toNat).toInt = _
  rw [hs, BitVec.toInt_sshiftRight]
  rfl
theorem pk_shrN {n : Nat} (h : n < 2 ^ 31) (s : Int32) (k : Nat) (hs : (s.toBitVec.smod 32).toNat = k) : nI n >>> s = nI (n / 2 ^ k) := by
  apply Int32.toInt_inj.mp
  have h2 : n / 2 ^ k ≤ n := Nat.div_le_self _ _
  rw [pk_shr _ _ k hs, nI_toInt h, nI_toInt (by omega), Int.shiftRight_eq_div_pow]
  rfl
/-- the sample at half columns i, half lines j: its cell -/
theorem hp_ix {i j : Nat} (hi : i ≤ 14) (hj : j ≤ 2) : (nI j >>> ((1 : Int32) &&& 31)) * 8 + (nI i >>> ((1 : Int32) &&& 31)) = nI (j / 2 * 8 + i / 2) := by
  rw [pk_shrN (n := j) (by omega) _ 1 (by decide), pk_shrN (n := i) (by omega) _ 1 (by decide), show (8 : Int32) = nI 8 from by decide +kernel, pk_mul, nI_add]
theorem hp_and1 {i : Nat} (hi : i ≤ 14) : nI i &&& 1 = nI (i % 2) := pk_andN (by omega) 1 (by decide)
theorem hp_odd {i : Nat} (hi : i ≤ 14) (h : ¬ nI i &&& 1 = 0) : i % 2 = 1 := by
  rw [hp_and1 hi] at h
  have h2 : i % 2 ≠ 0 := fun z => h (by rw [z]; exact nI_0)
  omega
theorem hp_8 (n : Nat) : nI n + 8 = nI (n + 8) := by
  rw [show (8 : Int32) = nI 8 from by decide +kernel, nI_add]
theorem hp_9 (n : Nat) : nI n + 9 = nI (n + 9) := by
  rw [show (9 : Int32) = nI 9 from by decide +kernel, nI_add]
theorem hp_81 (n : Nat) : nI n + 8 + 1 = nI (n + 9) := by
  rw [hp_8, nI_1]
/-- the sum of four, in either order -/
theorem hp_four (p q s t r : Int32) : p + q + s + t + 2 - r = p + q + (s + t) + 2 - r := by
  rw [Int32.add_assoc (p + q) s t]
/-- the range of a cell's number -/
theorem hp_cell {x : Int32} (h0 : ¬ x < 0) (h : x < 16) : ∃ j : Nat, j < 16 ∧ x = nI j := by
  obtain ⟨j, hj, rfl⟩ := nI_of h0
  rw [show (16 : Int32) = nI 16 from by decide +kernel, nI_ltI hj (by omega)] at h
  exact ⟨j, h, rfl⟩
theorem hp_n15 {x : Int32} (h : (16 : Int32) ≤ x) : ¬ x ≤ 15 := by
  rw [Int32.le_iff_toInt_le, show (16 : Int32).toInt = 16 from by decide] at h
  rw [Int32.le_iff_toInt_le, show (15 : Int32).toInt = 15 from by decide]
  omega
