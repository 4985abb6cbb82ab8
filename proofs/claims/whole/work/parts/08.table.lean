/-! ===== the table of the reference ===== -/
def sj_T (be : Nat → Int32) (Q : Int → Nat → Prop) : Prop :=
  ∀ x, x < 1024 → (-2000 ≤ (be x).toInt ∧ (be x).toInt ≤ 9999) ∧ ∀ b : Int, -2000 ≤ b → b ≤ 9998 → ((be x).toInt ≤ b ↔ Q b x)
theorem sj_Te {be : Nat → Int32} {Q Q' : Int → Nat → Prop} (h : sj_T be Q) (e : ∀ b x, x < 1024 → -2000 ≤ b → b ≤ 9998 → (Q b x ↔ Q' b x)) : sj_T be Q' :=
  fun x hx => ⟨(h x hx).1, fun b b1 b2 => ((h x hx).2 b b1 b2).trans (e b x hx b1 b2)⟩
theorem sj_Tput {be : Nat → Int32} {Q : Int → Nat → Prop} (h : sj_T be Q) {to : Nat} (ht : to < 1024) {c : Int32} (c1 : -2000 ≤ c.toInt) (c2 : c.toInt ≤ 9999) {N : Int → Prop}
    (hc : ∀ b : Int, -2000 ≤ b → b ≤ 9998 → (c.toInt ≤ b ↔ N b)) {v : Int32} (hv : (c < be to → v = c) ∧ (¬ c < be to → v = be to)) : sj_T (upd be to v) (fun b x => Q b x ∨ (x = to ∧ N b)) := by
  intro x hx
  obtain ⟨⟨h1, h2⟩, h3⟩ := h x hx
  by_cases e : x = to
  · subst e
    rw [sj_us]
    have lt : (c < be x) ↔ c.toInt < (be x).toInt := Int32.lt_iff_toInt_lt
    by_cases q : c < be x
    · rw [hv.1 q]
      have q' := lt.mp q
      refine ⟨⟨c1, c2⟩, fun b b1 b2 => ?_⟩
      rw [hc b b1 b2]
      constructor
      · exact fun z => Or.inr ⟨rfl, z⟩
      · rintro (z | ⟨-, z⟩)
        · have := (h3 b b1 b2).mpr z
          exact (hc b b1 b2).mp (by omega)
        · exact z
    · rw [hv.2 q]
      have q' : ¬ c.toInt < (be x).toInt := fun z => q (lt.mpr z)
      refine ⟨⟨h1, h2⟩, fun b b1 b2 => ?_⟩
      rw [h3 b b1 b2]
      constructor
      · exact fun z => Or.inl z
      · rintro (z | ⟨-, z⟩)
        · exact z
        · have := (hc b b1 b2).mpr z
          exact (h3 b b1 b2).mp (by omega)
  · rw [sj_un e]
    refine ⟨⟨h1, h2⟩, fun b b1 b2 => ?_⟩
    rw [h3 b b1 b2]
    constructor
    · exact fun z => Or.inl z
    · rintro (z | ⟨z, -⟩)
      · exact z
      · exact absurd z e
/-- codes from c on have had their turn at unit t -/
def sj_Q (H : Nat → Bool) (L R : Nat → Nat) (A : Nat → Nat → Bool) (M : Nat → Nat → Prop) (K : Int → Nat → Nat → Prop) (t c : Nat) (b : Int) (x : Nat) : Prop :=
  sj_rc H L R A M (K b) t x ∨ ∃ j s', c ≤ s' ∧ sj_ok H L R A M (K b) t s' j ∧ sj_rc H L R A M (K b) t s' ∧ x = s' + 4 ^ j
def sj_Qj (H : Nat → Bool) (L R : Nat → Nat) (A : Nat → Nat → Bool) (M : Nat → Nat → Prop) (K : Int → Nat → Nat → Prop) (t s n : Nat) (b : Int) (x : Nat) : Prop :=
  sj_Q H L R A M K t (s + 1) b x ∨ ∃ j, j < n ∧ sj_ok H L R A M (K b) t s j ∧ sj_rc H L R A M (K b) t s ∧ x = s + 4 ^ j
section
variable {H : Nat → Bool} {L R : Nat → Nat} {A : Nat → Nat → Bool} {M : Nat → Nat → Prop} {K : Int → Nat → Nat → Prop}
theorem sj_Qs (hL : ∀ j, j < 5 → H j = true → 1 ≤ L j ∧ L j ≤ 3) {t : Nat} (b : Int) (x : Nat) : sj_rc H L R A M (K b) t x ↔ sj_Q H L R A M K t (sj_fc H L + 1) b x := by
  constructor
  · exact fun h => Or.inl h
  · rintro (h | ⟨j, s', hs, -, h, -⟩)
    · exact h
    · obtain ⟨b1, b2⟩ := sj_bd hL t s' h
      have := sj_lefc b1 b2
      omega
theorem sj_Qe {t : Nat} (b : Int) (x : Nat) : sj_Q H L R A M K t 0 b x ↔ sj_rc H L R A M (K b) (t + 1) x := by
  constructor
  · rintro (h | ⟨j, s', -, ho, h, e⟩)
    · exact Or.inl h
    · exact Or.inr ⟨j, s', ho, h, e⟩
  · rintro (h | ⟨j, s', ho, h, e⟩)
    · exact Or.inl h
    · exact Or.inr ⟨j, s', Nat.zero_le _, ho, h, e⟩
theorem sj_Qx {t s c : Nat} (b : Int) (hs : s ≤ c) : sj_Q H L R A M K t c b s ↔ sj_rc H L R A M (K b) t s := by
  constructor
  · rintro (h | ⟨j, s', hc, -, -, e⟩)
    · exact h
    · have : 0 < 4 ^ j := Nat.pow_pos (by omega)
      omega
  · exact fun h => Or.inl h
theorem sj_Qj0 {t s : Nat} (b : Int) (x : Nat) : sj_Q H L R A M K t (s + 1) b x ↔ sj_Qj H L R A M K t s 0 b x := by
  constructor
  · exact fun h => Or.inl h
  · rintro (h | ⟨j, hj, -⟩)
    · exact h
    · omega
theorem sj_Qj5 {t s : Nat} (b : Int) (x : Nat) : sj_Qj H L R A M K t s 5 b x ↔ sj_Q H L R A M K t s b x := by
  constructor
  · rintro ((h | ⟨j, s', hc, ho, h, e⟩) | ⟨j, -, ho, h, e⟩)
    · exact Or.inl h
    · exact Or.inr ⟨j, s', by omega, ho, h, e⟩
    · exact Or.inr ⟨j, s, Nat.le_refl _, ho, h, e⟩
  · rintro (h | ⟨j, s', hc, ho, h, e⟩)
    · exact Or.inl (Or.inl h)
    · by_cases q : s' = s
      · subst q
        exact Or.inr ⟨j, ho.1, ho, h, e⟩
      · exact Or.inl (Or.inr ⟨j, s', by omega, ho, h, e⟩)
/-- a code that isn't reached has no turn -/
theorem sj_Qn {t s : Nat} (b : Int) (x : Nat) (n : ¬ sj_rc H L R A M (K b) t s) : sj_Q H L R A M K t (s + 1) b x ↔ sj_Q H L R A M K t s b x := by
  constructor
  · rintro (h | ⟨j, s', hc, ho, h, e⟩)
    · exact Or.inl h
    · exact Or.inr ⟨j, s', by omega, ho, h, e⟩
  · rintro (h | ⟨j, s', hc, ho, h, e⟩)
    · exact Or.inl h
    · by_cases q : s' = s
      · subst q
        exact absurd h n
      · exact Or.inr ⟨j, s', by omega, ho, h, e⟩
theorem sj_Qjx {t s n : Nat} (b : Int) : sj_Qj H L R A M K t s n b s ↔ sj_rc H L R A M (K b) t s := by
  constructor
  · rintro (h | ⟨j, -, -, -, e⟩)
    · exact (sj_Qx b (by omega)).mp h
    · have : 0 < 4 ^ j := Nat.pow_pos (by omega)
      omega
  · exact fun h => Or.inl (Or.inl h)
/-- job j has its turn -/
theorem sj_Qjs {t s j : Nat} (b : Int) (x : Nat) : (sj_Qj H L R A M K t s j b x ∨ (x = s + 4 ^ j ∧ (sj_ok H L R A M (K b) t s j ∧ sj_rc H L R A M (K b) t s))) ↔ sj_Qj H L R A M K t s (j + 1) b x := by
  constructor
  · rintro ((h | ⟨i, hi, ho, h, e⟩) | ⟨e, ho, h⟩)
    · exact Or.inl h
    · exact Or.inr ⟨i, by omega, ho, h, e⟩
    · exact Or.inr ⟨j, by omega, ho, h, e⟩
  · rintro (h | ⟨i, hi, ho, h, e⟩)
    · exact Or.inl (Or.inl h)
    · by_cases q : i = j
      · subst q
        exact Or.inr ⟨e, ho, h⟩
      · exact Or.inl (Or.inr ⟨i, by omega, ho, h, e⟩)
theorem sj_Qjn {t s j : Nat} (b : Int) (x : Nat) (n : ¬ sj_ok H L R A M (K b) t s j) : sj_Qj H L R A M K t s j b x ↔ sj_Qj H L R A M K t s (j + 1) b x := by
  rw [← sj_Qjs]
  constructor
  · exact fun h => Or.inl h
  · rintro (h | ⟨-, ho, -⟩)
    · exact h
    · exact absurd ho n
end
/-- the first time that holds -/
def sj_FD (fd : Int32) (t : Nat) (Z : Nat → Prop) : Prop := (fd = -1 ∧ ∀ d, d ≤ t → ¬ Z d) ∨ ∃ d, d ≤ t ∧ fd = nI d ∧ Z d ∧ ∀ e, e < d → ¬ Z e
section
variable {H : Nat → Bool} {L R : Nat → Nat} {A : Nat → Nat → Bool} {M K : Nat → Nat → Prop}
/-- whoever can't finish isn't done -/
theorem sj_nofin (hL : ∀ j, j < 5 → H j = true → 1 ≤ L j ∧ L j ≤ 3) : ∀ t s, (∀ j u, j < 5 → H j = true → u < t → ¬ K j (u + 1)) → sj_rc H L R A M K t s → ∀ j, j < 5 → H j = true → sj_dg s j < L j := by
  intro t
  induction t with
  | zero =>
    intro s _ h j hj hH
    have h : s = 0 := h
    subst h
    have := hL j hj hH
    rw [sj_dgz]
    omega
  | succ t ih =>
    intro s hK h j hj hH
    have hK' : ∀ j u, j < 5 → H j = true → u < t → ¬ K j (u + 1) := fun j u hj hH hu => hK j u hj hH (by omega)
    rcases h with h | ⟨k, s', ⟨hk, hHk, h1, h2, h3, h4, h5⟩, h, rfl⟩
    · exact ih s hK' h j hj hH
    · have i0 := ih s' hK' h j hj hH
      have hl := hL k hk hHk
      by_cases e : j = k
      · subst e
        rw [sj_bumpS hk (by omega)]
        rcases Nat.lt_or_ge (sj_dg s' j + 1) (L j) with z | z
        · exact z
        · exact absurd (h5 (by omega)) (hK j t hj hH (by omega))
      · rw [sj_bumpO hk (by omega) hj e]
        exact i0
end
