/-! ===== sets of jobs as bits ===== -/
def sj_ad (p j : Nat) : Nat := p ||| 2 ^ j
def sj_cl (p j : Nat) : Nat := p &&& (31 - 2 ^ j)
theorem sj_bit : ∀ p, p < 32 → ∀ j, j < 5 → (((nI p &&& ((1 : Int32) <<< (nI j &&& 31))) = 0) ↔ p.testBit j = false) := by decide +kernel
theorem sj_ad1 : ∀ p, p < 32 → ∀ j, j < 5 → (nI p ||| ((1 : Int32) <<< (nI j &&& 31))) = nI (sj_ad p j) ∧ sj_ad p j < 32 := by decide +kernel
theorem sj_ad2 : ∀ p, p < 32 → ∀ j, j < 5 → ∀ k, k < 5 → (sj_ad p j).testBit k = (p.testBit k || decide (k = j)) := by decide +kernel
theorem sj_cl1 : ∀ p, p < 32 → ∀ j, j < 5 → (nI p &&& (((1 : Int32) <<< (nI j &&& 31)) ^^^ (-1))) = nI (sj_cl p j) ∧ sj_cl p j < 32 := by decide +kernel
theorem sj_cl2 : ∀ p, p < 32 → ∀ j, j < 5 → ∀ k, k < 5 → (sj_cl p j).testBit k = (p.testBit k && !(decide (k = j))) := by decide +kernel
theorem sj_adcl : ∀ p, p < 32 → ∀ j, j < 5 → p.testBit j = true → sj_ad (sj_cl p j) j = p := by decide +kernel
theorem sj_clad : ∀ p, p < 32 → ∀ j, j < 5 → p.testBit j = false → sj_cl (sj_ad p j) j = p := by decide +kernel
theorem sj_sh1 : ∀ p, p < 32 → ∀ j, j < 5 → (((nI p >>> (nI j &&& 31)) &&& 1) = 1 ↔ p.testBit j = true) := by decide +kernel
theorem sj_1sh : ∀ j, j < 5 → ((1 : Int32) <<< (nI j &&& 31)) = nI (2 ^ j) ∧ 2 ^ j < 32 := by decide +kernel
theorem sj_2j : ∀ j, j < 5 → ∀ k, k < 5 → (2 ^ j).testBit k = decide (k = j) := by decide +kernel
theorem sj_and (a b : Nat) : nI a &&& nI b = nI (a &&& b) := by
  apply Int32.toBitVec_inj.1
  show BitVec.ofNat 32 a &&& BitVec.ofNat 32 b = BitVec.ofNat 32 (a &&& b)
  apply BitVec.eq_of_getLsbD_eq
  intro i hi
  simp [hi]
theorem sj_or (a b : Nat) : nI a ||| nI b = nI (a ||| b) := by
  apply Int32.toBitVec_inj.1
  show BitVec.ofNat 32 a ||| BitVec.ofNat 32 b = BitVec.ofNat 32 (a ||| b)
  apply BitVec.eq_of_getLsbD_eq
  intro i hi
  simp [hi]
theorem sj_or32 : ∀ p, p < 32 → ∀ q, q < 32 → p ||| q < 32 := by decide +kernel
theorem sj_and32 : ∀ p, p < 32 → ∀ q, q < 32 → p &&& q < 32 := by decide +kernel
/-- a set that meets another -/
theorem sj_meet : ∀ p, p < 32 → ∀ q, q < 32 → ((nI p &&& nI q) = 0 ↔ ∀ k, k < 5 → ¬ (p.testBit k = true ∧ q.testBit k = true)) := by decide +kernel
theorem sj_bx : ∀ p, p < 32 → ∀ q, q < 32 → (∀ k, k < 5 → p.testBit k = q.testBit k) → p = q := by decide +kernel
theorem sj_nz : ∀ p, p < 32 → (p = 0 ↔ ∀ k, k < 5 → p.testBit k = false) := by decide +kernel
/-! ===== the code's digits as the reference reads them ===== -/
theorem sj_s2 : ∀ j, j < 5 → (((2 : Int32) * nI j &&& 31).toBitVec.smod 32).toNat = 2 * j := by decide +kernel
theorem sj_24 : ∀ j, j < 5 → 2 ^ (2 * j) = 4 ^ j := by decide +kernel
/-! ===== small sums ===== -/
theorem sj_addI {a b : Int32} (h1 : -100000 ≤ a.toInt) (h2 : a.toInt ≤ 100000) (h3 : -100000 ≤ b.toInt) (h4 : b.toInt ≤ 100000) : (a + b).toInt = a.toInt + b.toInt := by
  rw [Int32.toInt_add]
  exact Int.bmod_eq_of_le (by omega) (by omega)
theorem sj_subI {a b : Int32} (h1 : -100000 ≤ a.toInt) (h2 : a.toInt ≤ 100000) (h3 : -100000 ≤ b.toInt) (h4 : b.toInt ≤ 100000) : (a - b).toInt = a.toInt - b.toInt := by
  rw [Int32.toInt_sub]
  exact Int.bmod_eq_of_le (by omega) (by omega)
theorem sj_ltI {a b : Int32} : a < b ↔ a.toInt < b.toInt := Int32.lt_iff_toInt_lt
theorem sj_leI {a b : Int32} : a ≤ b ↔ a.toInt ≤ b.toInt := Int32.le_iff_toInt_le
theorem sj_inI {a b : Int32} : a = b ↔ a.toInt = b.toInt := Int32.toInt_inj.symm
theorem sj_i0 : (0 : Int32).toInt = 0 := by decide
theorem sj_im1 : (-1 : Int32).toInt = -1 := by decide
