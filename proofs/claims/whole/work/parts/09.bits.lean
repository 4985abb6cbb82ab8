/-! rows pasted from the kit's PURE-ROWS -/
theorem pk_sub {a b : Nat} (h : b ≤ a) : nI a - nI b = nI (a - b) := by
  obtain ⟨c, rfl⟩ : ∃ c, a = c + b := ⟨a - b, by omega⟩
  rw [← nI_add, Int32.add_sub_cancel, Nat.add_sub_cancel]
theorem pk_m1 (n : Nat) : nI (n + 1) + (-1) = nI n := by
  rw [← nI_1, Int32.add_assoc, show (1 : Int32) + (-1) = 0 from rfl, Int32.add_zero]
theorem pk_mul (a b : Nat) : nI a * nI b = nI (a * b) := (Int32.ofNat_mul a b).symm
theorem pk_ix (x : Int32) {n : Nat} (hn : n < 2 ^ 31) : x < 0 ∨ nI n ≤ x ∨ ∃ j : Nat, j < n ∧ x = nI j := by
  by_cases h : x < 0
  · exact Or.inl h
  · obtain ⟨j, hj, rfl⟩ := nI_of h
    by_cases h2 : j < n
    · exact Or.inr (Or.inr ⟨j, h2, rfl⟩)
    · exact Or.inr (Or.inl (nI_le (by omega) hj))
theorem pk_tn {n : Nat} (h : n < 2 ^ 32) : (nI n).toBitVec.toNat = n := Nat.mod_eq_of_lt h
theorem pk_and (x : Int32) {m : Int32} (k : Nat) (hm : m.toBitVec.toNat = 2 ^ k - 1) : x &&& m = nI (x.toBitVec.toNat % 2 ^ k) := by
  apply Int32.toBitVec_inj.mp
  apply BitVec.eq_of_toNat_eq
  rw [Int32.toBitVec_and, BitVec.toNat_and, hm, Nat.and_two_pow_sub_one_eq_mod]
  show _ = (BitVec.ofNat 32 _).toNat
  rw [BitVec.toNat_ofNat]
  exact (Nat.mod_eq_of_lt (Nat.lt_of_le_of_lt (Nat.mod_le _ _) x.toBitVec.isLt)).symm
theorem pk_andN {n : Nat} (h : n < 2 ^ 32) {m : Int32} (k : Nat) (hm : m.toBitVec.toNat = 2 ^ k - 1) : nI n &&& m = nI (n % 2 ^ k) := by
  rw [pk_and _ k hm, pk_tn h]
theorem pk_shl (a s : Int32) (k : Nat) (hs : (s.toBitVec.smod 32).toNat = k) : (a <<< s).toBitVec.toNat = a.toBitVec.toNat * 2 ^ k % 2 ^ 32 := by
  show (a.toBitVec <<< (s.toBitVec.smod 32).toNat).toNat = _
  rw [hs, BitVec.toNat_shiftLeft, Nat.shiftLeft_eq]
theorem pk_shlN {n : Nat} (s : Int32) (k : Nat) (hs : (s.toBitVec.smod 32).toNat = k) (h : n * 2 ^ k < 2 ^ 32) : nI n <<< s = nI (n * 2 ^ k) := by
  apply Int32.toBitVec_inj.mp
  apply BitVec.eq_of_toNat_eq
  have hn : n < 2 ^ 32 := Nat.lt_of_le_of_lt (Nat.le_mul_of_pos_right n (Nat.two_pow_pos k)) h
  rw [pk_shl _ _ k hs, pk_tn hn, pk_tn h, Nat.mod_eq_of_lt h]
theorem pk_shr (a s : Int32) (k : Nat) (hs : (s.toBitVec.smod 32).toNat = k) : (a >>> s).toInt = a.toInt >>> k := by
  show (a.toBitVec.sshiftRight (s.toBitVec.smod 32).toNat).toInt = _
  rw [hs, BitVec.toInt_sshiftRight]
  rfl
theorem pk_shrN {n : Nat} (h : n < 2 ^ 31) (s : Int32) (k : Nat) (hs : (s.toBitVec.smod 32).toNat = k) : nI n >>> s = nI (n / 2 ^ k) := by
  apply Int32.toInt_inj.mp
  have h2 : n / 2 ^ k ≤ n := Nat.div_le_self _ _
  rw [pk_shr _ _ k hs, nI_toInt h, nI_toInt (by omega), Int.shiftRight_eq_div_pow]
  rfl
theorem pk_div {a d : Nat} (ha : a < 2 ^ 31) (h0 : 0 < d) (hd : d < 2 ^ 31) : nI a / nI d = nI (a / d) := by
  apply Int32.toInt_inj.mp
  rw [lg_idiv_nonneg (by rw [nI_toInt ha]; omega) (by rw [nI_toInt hd]; omega), nI_toInt ha, nI_toInt hd, nI_toInt (Nat.lt_of_le_of_lt (Nat.div_le_self a d) ha)]
  first | rfl | exact (Int.natCast_ediv _ _).symm
/-! ===== sets of jobs as bits ===== -/
def sj_ad (p j : Nat) : Nat := p ||| 2 ^ j
def sj_cl (p j : Nat) : Nat := p &&& (31 - 2 ^ j)
theorem sj_bit : ∀ p, p < 32 → ∀ j, j < 5 → (((nI p &&& ((1 : Int32) <<< (nI j &&& 31))) = 0) ↔ p.testBit j = false) := by decide +kernel
theorem sj_ad1 : ∀ p, p < 32 → ∀ j, j < 5 → (nI p ||| ((1 : Int32) <<< (nI j &&& 31))) = nI (sj_ad p j) ∧ sj_ad p j < 32 := by decide +kernel
theorem sj_ad2 : ∀ p, p < 32 → ∀ j, j < 5 → ∀ k, k < 5 → (sj_ad p j).testBit k = (p.testBit k || decide (k = j)) := by decide +kernel
theorem sj_cl1 : ∀ p, p < 32 → ∀ j, j < 5 → (nI p &&& (((1 : Int32) <<< (nI j &&& 31)) ^^^ (-1))) = nI (sj_cl p j) ∧ sj_cl p j < 32 := by decide +kernel
theorem sj_cl2 : ∀ p, p < 32 → ∀ j, j < 5 → ∀ k, k < 5 → (sj_cl p j).testBit k = (p.testBit k && !(decide (k = j))) := by decide +kernel
theorem sj_adcl : ∀ p, p < 32 → ∀ j, j < 5 → p.testBit j = true → sj_ad (sj_cl p j) j = p := by decide +kernel
theorem sj_clad : ∀ p, p < 32 → ∀ j, j < 5 → p.testBit j = false → sj_cl (sj_ad p j) j = p := by decide +kernel
theorem sj_sh1 : ∀ p, p < 32 → ∀ j, j < 5 → (((nI p >>> (nI j &&& 31)) &&& 1) = 1 ↔ p.testBit j = true) := by decide +kernel
theorem sj_1sh : ∀ j, j < 5 → ((1 : Int32) <<< (nI j &&& 31)) = nI (2 ^ j) ∧ 2 ^ j < 32 := by decide +kernel
theorem sj_2j : ∀ j, j < 5 → ∀ k, k < 5 → (2 ^ j).testBit k = decide (k = j) := by decide +kernel
theorem sj_and (a b : Nat) : nI a &&& nI b = nI (a &&& b) := by
  apply Int32.toBitVec_inj.1
  show BitVec.ofNat 32 a &&& BitVec.ofNat 32 b = BitVec.ofNat 32 (a &&& b)
  apply BitVec.eq_of_getLsbD_eq
  intro i hi
  simp [hi]
theorem sj_or (a b : Nat) : nI a ||| nI b = nI (a ||| b) := by
  apply Int32.toBitVec_inj.1
  show BitVec.ofNat 32 a ||| BitVec.ofNat 32 b = BitVec.ofNat 32 (a ||| b)
  apply BitVec.eq_of_getLsbD_eq
  intro i hi
  simp [hi]
theorem sj_or32 : ∀ p, p < 32 → ∀ q, q < 32 → p ||| q < 32 := by decide +kernel
theorem sj_and32 : ∀ p, p < 32 → ∀ q, q < 32 → p &&& q < 32 := by decide +kernel
/-- a set that meets another -/
theorem sj_meet : ∀ p, p < 32 → ∀ q, q < 32 → ((nI p &&& nI q) = 0 ↔ ∀ k, k < 5 → ¬ (p.testBit k = true ∧ q.testBit k = true)) := by decide +kernel
theorem sj_bx : ∀ p, p < 32 → ∀ q, q < 32 → (∀ k, k < 5 → p.testBit k = q.testBit k) → p = q := by decide +kernel
theorem sj_nz : ∀ p, p < 32 → (p = 0 ↔ ∀ k, k < 5 → p.testBit k = false) := by decide +kernel
/-! ===== the code's digits as the reference reads them ===== -/
theorem sj_s2 : ∀ j, j < 5 → (((2 : Int32) * nI j &&& 31).toBitVec.smod 32).toNat = 2 * j := by decide +kernel
theorem sj_24 : ∀ j, j < 5 → 2 ^ (2 * j) = 4 ^ j := by decide +kernel
/-! ===== small sums ===== -/
theorem sj_addI {a b : Int32} (h1 : -100000 ≤ a.toInt) (h2 : a.toInt ≤ 100000) (h3 : -100000 ≤ b.toInt) (h4 : b.toInt ≤ 100000) : (a + b).toInt = a.toInt + b.toInt := by
  rw [Int32.toInt_add]
  exact Int.bmod_eq_of_le (by omega) (by omega)
theorem sj_subI {a b : Int32} (h1 : -100000 ≤ a.toInt) (h2 : a.toInt ≤ 100000) (h3 : -100000 ≤ b.toInt) (h4 : b.toInt ≤ 100000) : (a - b).toInt = a.toInt - b.toInt := by
  rw [Int32.toInt_sub]
  exact Int.bmod_eq_of_le (by omega) (by omega)
theorem sj_ltI {a b : Int32} : a < b ↔ a.toInt < b.toInt := Int32.lt_iff_toInt_lt
theorem sj_leI {a b : Int32} : a ≤ b ↔ a.toInt ≤ b.toInt := Int32.le_iff_toInt_le
theorem sj_inI {a b : Int32} : a = b ↔ a.toInt = b.toInt := Int32.toInt_inj.symm
theorem sj_i0 : (0 : Int32).toInt = 0 := by decide
theorem sj_im1 : (-1 : Int32).toInt = -1 := by decide
