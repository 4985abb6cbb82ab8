/-! ===== codes: two bits a job; sums over five jobs ===== -/
def sj_dg (s j : Nat) : Nat := s / 4 ^ j % 4
theorem sj_lt5 {P : Nat → Prop} (h0 : P 0) (h1 : P 1) (h2 : P 2) (h3 : P 3) (h4 : P 4) : ∀ j, j < 5 → P j := by
  intro j hj
  match j, hj with
  | 0, _ => exact h0
  | 1, _ => exact h1
  | 2, _ => exact h2
  | 3, _ => exact h3
  | 4, _ => exact h4
  | n + 5, h => exact absurd h (by omega)
theorem sj_c5 {j : Nat} (hj : j < 5) : j = 0 ∨ j = 1 ∨ j = 2 ∨ j = 3 ∨ j = 4 := by omega
theorem sj_dg0 (s : Nat) : sj_dg s 0 = s % 4 := by unfold sj_dg; rw [Nat.pow_zero, Nat.div_one]
theorem sj_dg1 (s : Nat) : sj_dg s 1 = s / 4 % 4 := rfl
theorem sj_dg2 (s : Nat) : sj_dg s 2 = s / 16 % 4 := rfl
theorem sj_dg3 (s : Nat) : sj_dg s 3 = s / 64 % 4 := rfl
theorem sj_dg4 (s : Nat) : sj_dg s 4 = s / 256 % 4 := rfl
theorem sj_p0 : (4 : Nat) ^ 0 = 1 := rfl
theorem sj_p1 : (4 : Nat) ^ 1 = 4 := rfl
theorem sj_p2 : (4 : Nat) ^ 2 = 16 := rfl
theorem sj_p3 : (4 : Nat) ^ 3 = 64 := rfl
theorem sj_p4 : (4 : Nat) ^ 4 = 256 := rfl
theorem sj_dgz (j : Nat) : sj_dg 0 j = 0 := by unfold sj_dg; rw [Nat.zero_div]
theorem sj_dg3' (s j : Nat) : sj_dg s j ≤ 3 := by
  have h : sj_dg s j < 4 := Nat.mod_lt _ (by omega)
  omega
/-- one unit more for job j -/
theorem sj_bump {s j : Nat} (hj : j < 5) (h : sj_dg s j < 3) : ∀ i, i < 5 → sj_dg (s + 4 ^ j) i = if i = j then sj_dg s i + 1 else sj_dg s i := by
  intro i hi
  rcases sj_c5 hj with rfl | rfl | rfl | rfl | rfl <;> rcases sj_c5 hi with rfl | rfl | rfl | rfl | rfl <;>
    simp only [sj_dg0, sj_dg1, sj_dg2, sj_dg3, sj_dg4, sj_p0, sj_p1, sj_p2, sj_p3, sj_p4] at h ⊢ <;> simp <;> omega
theorem sj_bumpS {s j : Nat} (hj : j < 5) (h : sj_dg s j < 3) : sj_dg (s + 4 ^ j) j = sj_dg s j + 1 := by rw [sj_bump hj h j hj, if_pos rfl]
theorem sj_bumpO {s j i : Nat} (hj : j < 5) (h : sj_dg s j < 3) (hi : i < 5) (e : i ≠ j) : sj_dg (s + 4 ^ j) i = sj_dg s i := by rw [sj_bump hj h i hi, if_neg e]
theorem sj_lt1024 {s j : Nat} (hj : j < 5) (h : sj_dg s j < 3) (b : s < 1024) : s + 4 ^ j < 1024 := by
  rcases sj_c5 hj with rfl | rfl | rfl | rfl | rfl <;>
    simp only [sj_dg0, sj_dg1, sj_dg2, sj_dg3, sj_dg4, sj_p0, sj_p1, sj_p2, sj_p3, sj_p4] at h ⊢ <;> omega
def sj_S (f : Nat → Nat) : Nat := f 0 + f 1 + f 2 + f 3 + f 4
theorem sj_Sle {f g : Nat → Nat} (h : ∀ i, i < 5 → f i ≤ g i) : sj_S f ≤ sj_S g := by
  have h0 := h 0 (by omega)
  have h1 := h 1 (by omega)
  have h2 := h 2 (by omega)
  have h3 := h 3 (by omega)
  have h4 := h 4 (by omega)
  unfold sj_S
  omega
theorem sj_Slt {f g : Nat → Nat} {j : Nat} (h : ∀ i, i < 5 → f i ≤ g i) (hj : j < 5) (hs : f j < g j) : sj_S f < sj_S g := by
  have h0 := h 0 (by omega)
  have h1 := h 1 (by omega)
  have h2 := h 2 (by omega)
  have h3 := h 3 (by omega)
  have h4 := h 4 (by omega)
  unfold sj_S
  rcases sj_c5 hj with rfl | rfl | rfl | rfl | rfl <;> omega
theorem sj_Seq {f g : Nat → Nat} (h : ∀ i, i < 5 → f i = g i) : sj_S f = sj_S g := by
  unfold sj_S
  rw [h 0 (by omega), h 1 (by omega), h 2 (by omega), h 3 (by omega), h 4 (by omega)]
theorem sj_Sinc {f g : Nat → Nat} {j : Nat} (hj : j < 5) (ho : ∀ i, i < 5 → i ≠ j → g i = f i) (hs : g j = f j + 1) : sj_S g = sj_S f + 1 := by
  unfold sj_S
  rcases sj_c5 hj with rfl | rfl | rfl | rfl | rfl
  · rw [hs, ho 1 (by omega) (by omega), ho 2 (by omega) (by omega), ho 3 (by omega) (by omega), ho 4 (by omega) (by omega)]; omega
  · rw [hs, ho 0 (by omega) (by omega), ho 2 (by omega) (by omega), ho 3 (by omega) (by omega), ho 4 (by omega) (by omega)]; omega
  · rw [hs, ho 0 (by omega) (by omega), ho 1 (by omega) (by omega), ho 3 (by omega) (by omega), ho 4 (by omega) (by omega)]; omega
  · rw [hs, ho 0 (by omega) (by omega), ho 1 (by omega) (by omega), ho 2 (by omega) (by omega), ho 4 (by omega) (by omega)]; omega
  · rw [hs, ho 0 (by omega) (by omega), ho 1 (by omega) (by omega), ho 2 (by omega) (by omega), ho 3 (by omega) (by omega)]; omega
/-- the code of all work -/
def sj_x (H : Nat → Bool) (L : Nat → Nat) (j : Nat) : Nat := if H j = true then L j else 0
def sj_fc (H : Nat → Bool) (L : Nat → Nat) : Nat := sj_x H L 0 + sj_x H L 1 * 4 + sj_x H L 2 * 16 + sj_x H L 3 * 64 + sj_x H L 4 * 256
theorem sj_xt {H : Nat → Bool} {L : Nat → Nat} {j : Nat} (h : H j = true) : sj_x H L j = L j := if_pos h
theorem sj_xf {H : Nat → Bool} {L : Nat → Nat} {j : Nat} (h : ¬ H j = true) : sj_x H L j = 0 := if_neg h
theorem sj_x3 {H : Nat → Bool} {L : Nat → Nat} (hL : ∀ j, j < 5 → H j = true → 1 ≤ L j ∧ L j ≤ 3) {j : Nat} (hj : j < 5) : sj_x H L j ≤ 3 := by
  by_cases h : H j = true
  · rw [sj_xt h]; exact (hL j hj h).2
  · rw [sj_xf h]; omega
theorem sj_dec {x0 x1 x2 x3 x4 : Nat} (h0 : x0 ≤ 3) (h1 : x1 ≤ 3) (h2 : x2 ≤ 3) (h3 : x3 ≤ 3) (h4 : x4 ≤ 3) : sj_dg (x0 + x1 * 4 + x2 * 16 + x3 * 64 + x4 * 256) 0 = x0 ∧ sj_dg (x0 + x1 * 4 + x2 * 16 + x3 * 64 + x4 * 256) 1 = x1 ∧ sj_dg (x0 + x1 * 4 + x2 * 16 + x3 * 64 + x4 * 256) 2 = x2 ∧ sj_dg (x0 + x1 * 4 + x2 * 16 + x3 * 64 + x4 * 256) 3 = x3 ∧ sj_dg (x0 + x1 * 4 + x2 * 16 + x3 * 64 + x4 * 256) 4 = x4 := by
  rw [sj_dg0, sj_dg1, sj_dg2, sj_dg3, sj_dg4]
  refine ⟨?_, ?_, ?_, ?_, ?_⟩ <;> omega
theorem sj_fcd {H : Nat → Bool} {L : Nat → Nat} (hL : ∀ j, j < 5 → H j = true → 1 ≤ L j ∧ L j ≤ 3) : ∀ j, j < 5 → sj_dg (sj_fc H L) j = sj_x H L j := by
  obtain ⟨a, b, c, d, e⟩ := sj_dec (sj_x3 hL (j := 0) (by omega)) (sj_x3 hL (j := 1) (by omega)) (sj_x3 hL (j := 2) (by omega)) (sj_x3 hL (j := 3) (by omega)) (sj_x3 hL (j := 4) (by omega))
  exact sj_lt5 a b c d e
theorem sj_fcl {H : Nat → Bool} {L : Nat → Nat} (hL : ∀ j, j < 5 → H j = true → 1 ≤ L j ∧ L j ≤ 3) : sj_fc H L < 1024 := by
  have h0 := sj_x3 hL (j := 0) (by omega)
  have h1 := sj_x3 hL (j := 1) (by omega)
  have h2 := sj_x3 hL (j := 2) (by omega)
  have h3 := sj_x3 hL (j := 3) (by omega)
  have h4 := sj_x3 hL (j := 4) (by omega)
  unfold sj_fc
  omega
theorem sj_sum {s : Nat} (hs : s < 1024) : s = sj_dg s 0 + sj_dg s 1 * 4 + sj_dg s 2 * 16 + sj_dg s 3 * 64 + sj_dg s 4 * 256 := by
  rw [sj_dg0, sj_dg1, sj_dg2, sj_dg3, sj_dg4]
  omega
theorem sj_ext {H : Nat → Bool} {L : Nat → Nat} {s : Nat} (hs : s < 1024) (h : ∀ j, j < 5 → sj_dg s j = sj_x H L j) : s = sj_fc H L := by
  have e := sj_sum hs
  rw [h 0 (by omega), h 1 (by omega), h 2 (by omega), h 3 (by omega), h 4 (by omega)] at e
  exact e
theorem sj_lefc {H : Nat → Bool} {L : Nat → Nat} {s : Nat} (hs : s < 1024) (h : ∀ j, j < 5 → sj_dg s j ≤ sj_x H L j) : s ≤ sj_fc H L := by
  have e := sj_sum hs
  have h0 := h 0 (by omega)
  have h1 := h 1 (by omega)
  have h2 := h 2 (by omega)
  have h3 := h 3 (by omega)
  have h4 := h 4 (by omega)
  unfold sj_fc
  omega
