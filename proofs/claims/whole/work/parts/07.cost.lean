/-! ===== numbers: what the arrays hold ===== -/
def sj_N (a : Nat → Int32) (j : Nat) : Nat := (a j).toNatClampNeg
/-- the first five cells are at most m -/
def sj_le (a : Nat → Int32) (m : Nat) : Prop := ∀ j, j < 5 → ∃ n, n ≤ m ∧ a j = nI n
theorem sj_Ne {a : Nat → Int32} {m : Nat} (h : sj_le a m) (hm : m < 2 ^ 31) {j : Nat} (hj : j < 5) : a j = nI (sj_N a j) ∧ sj_N a j ≤ m := by
  obtain ⟨n, hn, e⟩ := h j hj
  have q : sj_N a j = n := by unfold sj_N; rw [e, nI_clamp (by omega)]
  rw [q]
  exact ⟨e, hn⟩
theorem sj_NI {a : Nat → Int32} {j n : Nat} (e : a j = nI n) (hn : n < 2 ^ 31) : sj_N a j = n := by unfold sj_N; rw [e, nI_clamp hn]
theorem sj_us {f : Nat → Int32} {k : Nat} {x : Int32} : upd f k x k = x := if_pos rfl
theorem sj_un {f : Nat → Int32} {k j : Nat} {x : Int32} (h : j ≠ k) : upd f k x j = f j := if_neg h
theorem sj_leU {a : Nat → Int32} {m k n : Nat} (h : sj_le a m) (hn : n ≤ m) : sj_le (upd a k (nI n)) m := by
  intro j hj
  by_cases e : j = k
  · subst e; exact ⟨n, hn, sj_us⟩
  · rw [sj_un e]; exact h j hj
theorem sj_le0 (m : Nat) : sj_le (fun _ => 0) m := fun _ _ => ⟨0, Nat.zero_le _, rfl⟩
theorem sj_leW {a : Nat → Int32} {m m' : Nat} (h : sj_le a m) (hm : m ≤ m') : sj_le a m' := fun j hj => by
  obtain ⟨n, hn, e⟩ := h j hj
  exact ⟨n, by omega, e⟩
/-! ===== the cost of a job ===== -/
def sj_c32 (k d w t : Int32) : Int32 := if k = 1 then w * (t - d) else if t - d ≤ 0 then 0 else if k = 0 then w * (t - d) else if k = 2 then 20 * w else 1000
def sj_cost (k d w t : Nat) : Int := if k = 1 then (w : Int) * ((t : Int) - d) else if (t : Int) - d ≤ 0 then 0 else if k = 0 then (w : Int) * ((t : Int) - d) else if k = 2 then 20 * (w : Int) else 1000
theorem sj_cmul {d w t : Nat} (hd : d ≤ 30) (hw : w ≤ 5) (ht : t ≤ 60) : (nI w * (nI t - nI d)).toInt = (w : Int) * ((t : Int) - d) := by
  have e1 : (nI t - nI d).toInt = (t : Int) - d := by
    rw [Int32.toInt_sub, nI_toInt (by omega), nI_toInt (by omega)]
    exact Int.bmod_eq_of_le (by omega) (by omega)
  rw [Int32.toInt_mul, e1, nI_toInt (by omega)]
  have c : w = 0 ∨ w = 1 ∨ w = 2 ∨ w = 3 ∨ w = 4 ∨ w = 5 := by omega
  rcases c with rfl | rfl | rfl | rfl | rfl | rfl <;> exact Int.bmod_eq_of_le (by omega) (by omega)
theorem sj_c20 : ∀ w, w ≤ 5 → ((20 : Int32) * nI w).toInt = 20 * (w : Int) := by
  intro w hw
  have c : w = 0 ∨ w = 1 ∨ w = 2 ∨ w = 3 ∨ w = 4 ∨ w = 5 := by omega
  rcases c with rfl | rfl | rfl | rfl | rfl | rfl <;> decide
theorem sj_cI {k d w t : Nat} (hk : k ≤ 3) (hd : d ≤ 30) (hw : w ≤ 5) (ht : t ≤ 60) : (sj_c32 (nI k) (nI d) (nI w) (nI t)).toInt = sj_cost k d w t := by
  have e1 : (nI t - nI d).toInt = (t : Int) - d := by
    rw [Int32.toInt_sub, nI_toInt (by omega), nI_toInt (by omega)]
    exact Int.bmod_eq_of_le (by omega) (by omega)
  have z : (0 : Int32).toInt = 0 := by decide
  have c1 : (nI k = 1) ↔ k = 1 := nI_eq (b := 1) (by omega) (by omega)
  have c0 : (nI k = 0) ↔ k = 0 := nI_eq (b := 0) (by omega) (by omega)
  have c2 : (nI k = 2) ↔ k = 2 := nI_eq (b := 2) (by omega) (by omega)
  have cl : (nI t - nI d ≤ 0) ↔ (t : Int) - d ≤ 0 := by rw [Int32.le_iff_toInt_le, e1, z]
  unfold sj_c32 sj_cost
  by_cases h1 : k = 1
  · rw [if_pos (c1.mpr h1), if_pos h1]; exact sj_cmul hd hw ht
  · rw [if_neg (fun q => h1 (c1.mp q)), if_neg h1]
    by_cases h2 : (t : Int) - d ≤ 0
    · rw [if_pos (cl.mpr h2), if_pos h2]; exact z
    · rw [if_neg (fun q => h2 (cl.mp q)), if_neg h2]
      by_cases h3 : k = 0
      · rw [if_pos (c0.mpr h3), if_pos h3]; exact sj_cmul hd hw ht
      · rw [if_neg (fun q => h3 (c0.mp q)), if_neg h3]
        by_cases h4 : k = 2
        · rw [if_pos (c2.mpr h4), if_pos h4]; exact sj_c20 w hw
        · rw [if_neg (fun q => h4 (c2.mp q)), if_neg h4]; decide
theorem sj_cmono {k d w t : Nat} (hw : w ≤ 5) : sj_cost k d w t ≤ sj_cost k d w (t + 1) := by
  unfold sj_cost
  have c : w = 0 ∨ w = 1 ∨ w = 2 ∨ w = 3 ∨ w = 4 ∨ w = 5 := by omega
  rcases c with rfl | rfl | rfl | rfl | rfl | rfl <;> (repeat' split) <;> omega
theorem sj_cmonoL {k d w : Nat} (hw : w ≤ 5) {t T : Nat} (h : t ≤ T) : sj_cost k d w t ≤ sj_cost k d w T := by
  induction T with
  | zero =>
    obtain rfl : t = 0 := by omega
    exact Int.le_refl _
  | succ T ih =>
    by_cases e : t = T + 1
    · subst e; exact Int.le_refl _
    · exact Int.le_trans (ih (by omega)) (sj_cmono hw)
theorem sj_cr {k d w t : Nat} (hd : d ≤ 30) (hw : w ≤ 5) (ht : t ≤ 60) : -150 ≤ sj_cost k d w t ∧ sj_cost k d w t ≤ 1000 := by
  unfold sj_cost
  have c : w = 0 ∨ w = 1 ∨ w = 2 ∨ w = 3 ∨ w = 4 ∨ w = 5 := by omega
  rcases c with rfl | rfl | rfl | rfl | rfl | rfl <;> (repeat' split) <;> omega
/-- what a last time tells -/
theorem sj_dl {k d w D : Nat} {b : Int} (hw : w ≤ 5) (h0 : D = 0 ∨ sj_cost k d w D ≤ b) (h1 : ∀ t, D < t → t ≤ 33 → ¬ sj_cost k d w t ≤ b) :
    ∀ t, t < 33 → (sj_cost k d w (t + 1) ≤ b ↔ (t : Int) + 1 ≤ (D : Int)) := by
  intro t ht
  constructor
  · intro c
    rcases Nat.lt_or_ge D (t + 1) with z | z
    · exact absurd c (h1 (t + 1) z (by omega))
    · omega
  · intro c
    have q : t + 1 ≤ D := by omega
    rcases h0 with e | e
    · omega
    · exact Int.le_trans (sj_cmonoL hw q) e
/-! ===== the instance that a state holds ===== -/
def sj_A (p : Nat) (af : Nat → Int32) (i j : Nat) : Bool := p.testBit i && (p.testBit j && (sj_N af i).testBit j)
def sj_K (kin due wt : Nat → Int32) (b : Int) (j t : Nat) : Prop := sj_cost (sj_N kin j) (sj_N due j) (sj_N wt j) t ≤ b
def sj_G (p : Nat) (rel len kin due wt af : Nat → Int32) (M : Nat → Nat → Prop) (b : Int) (t s : Nat) : Prop :=
  sj_rc p.testBit (sj_N len) (sj_N rel) (sj_A p af) M (sj_K kin due wt b) t s
def sj_Fu (p : Nat) (len : Nat → Int32) : Nat := sj_fc p.testBit (sj_N len)
def sj_M0 (_ _ : Nat) : Prop := True
/-- the bounds of all that is held -/
def sj_bnd (p : Nat) (rel len kin due wt : Nat → Int32) : Prop :=
  p < 32 ∧ sj_le rel 18 ∧ sj_le len 3 ∧ sj_le kin 3 ∧ sj_le due 30 ∧ sj_le wt 5 ∧ (∀ j, j < 5 → p.testBit j = true → 1 ≤ sj_N len j)
theorem sj_At {p : Nat} {af : Nat → Int32} {i j : Nat} (h : sj_A p af i j = true) : p.testBit i = true ∧ p.testBit j = true ∧ (sj_N af i).testBit j = true := by
  unfold sj_A at h
  simp at h
  exact ⟨h.1, h.2.1, h.2.2⟩
theorem sj_hL {p : Nat} {rel len kin due wt : Nat → Int32} (h : sj_bnd p rel len kin due wt) : ∀ j, j < 5 → p.testBit j = true → 1 ≤ sj_N len j ∧ sj_N len j ≤ 3 :=
  fun j hj q => ⟨h.2.2.2.2.2.2 j hj q, (sj_Ne h.2.2.1 (by omega) hj).2⟩
