section
/-! ===== codes: two bits a job; sums over five jobs ===== -/
def sj_dg (s j : Nat) : Nat := s / 4 ^ j % 4
theorem sj_lt5 {P : Nat → Prop} (h0 : P 0) (h1 : P 1) (h2 : P 2) (h3 : P 3) (h4 : P 4) : ∀ j, j < 5 → P j := by
  intro j hj
  match j, hj with
  | 0, _ => exact h0
  | 1, _ => exact h1
  | 2, _ => exact h2
  | 3, _ => exact h3
  | 4, _ => exact h4
  | n + 5, h => exact absurd h (by omega)
theorem sj_c5 {j : Nat} (hj : j < 5) : j = 0 ∨ j = 1 ∨ j = 2 ∨ j = 3 ∨ j = 4 := by omega
theorem sj_dg0 (s : Nat) : sj_dg s 0 = s % 4 := by unfold sj_dg; rw [Nat.pow_zero, Nat.div_one]
theorem sj_dg1 (s : Nat) : sj_dg s 1 = s / 4 % 4 := rfl
theorem sj_dg2 (s : Nat) : sj_dg s 2 = s / 16 % 4 := rfl
theorem sj_dg3 (s : Nat) : sj_dg s 3 = s / 64 % 4 := rfl
theorem sj_dg4 (s : Nat) : sj_dg s 4 = s / 256 % 4 := rfl
theorem sj_p0 : (4 : Nat) ^ 0 = 1 := rfl
theorem sj_p1 : (4 : Nat) ^ 1 = 4 := rfl
theorem sj_p2 : (4 : Nat) ^ 2 = 16 := rfl
theorem sj_p3 : (4 : Nat) ^ 3 = 64 := rfl
theorem sj_p4 : (4 : Nat) ^ 4 = 256 := rfl
theorem sj_dgz (j : Nat) : sj_dg 0 j = 0 := by unfold sj_dg; rw [Nat.zero_div]
theorem sj_dg3' (s j : Nat) : sj_dg s j ≤ 3 := by
  have h : sj_dg s j < 4 := Nat.mod_lt _ (by omega)
  omega
/-- one unit more for job j -/
theorem sj_bump {s j : Nat} (hj : j < 5) (h : sj_dg s j < 3) : ∀ i, i < 5 → sj_dg (s + 4 ^ j) i = if i = j then sj_dg s i + 1 else sj_dg s i := by
  intro i hi
  rcases sj_c5 hj with rfl | rfl | rfl | rfl | rfl <;> rcases sj_c5 hi with rfl | rfl | rfl | rfl | rfl <;>
    simp only [sj_dg0, sj_dg1, sj_dg2, sj_dg3, sj_dg4, sj_p0, sj_p1, sj_p2, sj_p3, sj_p4] at h ⊢ <;> simp <;> omega
theorem sj_bumpS {s j : Nat} (hj : j < 5) (h : sj_dg s j < 3) : sj_dg (s + 4 ^ j) j = sj_dg s j + 1 := by rw [sj_bump hj h j hj, if_pos rfl]
theorem sj_bumpO {s j i : Nat} (hj : j < 5) (h : sj_dg s j < 3) (hi : i < 5) (e : i ≠ j) : sj_dg (s + 4 ^ j) i = sj_dg s i := by rw [sj_bump hj h i hi, if_neg e]
theorem sj_lt1024 {s j : Nat} (hj : j < 5) (h : sj_dg s j < 3) (b : s < 1024) : s + 4 ^ j < 1024 := by
  rcases sj_c5 hj with rfl | rfl | rfl | rfl | rfl <;>
    simp only [sj_dg0, sj_dg1, sj_dg2, sj_dg3, sj_dg4, sj_p0, sj_p1, sj_p2, sj_p3, sj_p4] at h ⊢ <;> omega
def sj_S (f : Nat → Nat) : Nat := f 0 + f 1 + f 2 + f 3 + f 4
theorem sj_Sle {f g : Nat → Nat} (h : ∀ i, i < 5 → f i ≤ g i) : sj_S f ≤ sj_S g := by
  have h0 := h 0 (by omega)
  have h1 := h 1 (by omega)
  have h2 := h 2 (by omega)
  have h3 := h 3 (by omega)
  have h4 := h 4 (by omega)
  unfold sj_S
  omega
theorem sj_Slt {f g : Nat → Nat} {j : Nat} (h : ∀ i, i < 5 → f i ≤ g i) (hj : j < 5) (hs : f j < g j) : sj_S f < sj_S g := by
  have h0 := h 0 (by omega)
  have h1 := h 1 (by omega)
  have h2 := h 2 (by omega)
  have h3 := h 3 (by omega)
  have h4 := h 4 (by omega)
  unfold sj_S
  rcases sj_c5 hj with rfl | rfl | rfl | rfl | rfl <;> omega
theorem sj_Seq {f g : Nat → Nat} (h : ∀ i, i < 5 → f i = g i) : sj_S f = sj_S g := by
  unfold sj_S
  rw [h 0 (by omega), h 1 (by omega), h 2 (by omega), h 3 (by omega), h 4 (by omega)]
theorem sj_Sinc {f g : Nat → Nat} {j : Nat} (hj : j < 5) (ho : ∀ i, i < 5 → i ≠ j → g i = f i) (hs : g j = f j + 1) : sj_S g = sj_S f + 1 := by
  unfold sj_S
  rcases sj_c5 hj with rfl | rfl | rfl | rfl | rfl
  · rw [hs, ho 1 (by omega) (by omega), ho 2 (by omega) (by omega), ho 3 (by omega) (by omega), ho 4 (by omega) (by omega)]; omega
  · rw [hs, ho 0 (by omega) (by omega), ho 2 (by omega) (by omega), ho 3 (by omega) (by omega), ho 4 (by omega) (by omega)]; omega
  · rw [hs, ho 0 (by omega) (by omega), ho 1 (by omega) (by omega), ho 3 (by omega) (by omega), ho 4 (by omega) (by omega)]; omega
  · rw [hs, ho 0 (by omega) (by omega), ho 1 (by omega) (by omega), ho 2 (by omega) (by omega), ho 4 (by omega) (by omega)]; omega
  · rw [hs, ho 0 (by omega) (by omega), ho 1 (by omega) (by omega), ho 2 (by omega) (by omega), ho 3 (by omega) (by omega)]; omega
/-- the code of all work -/
def sj_x (H : Nat → Bool) (L : Nat → Nat) (j : Nat) : Nat := if H j = true then L j else 0
def sj_fc (H : Nat → Bool) (L : Nat → Nat) : Nat := sj_x H L 0 + sj_x H L 1 * 4 + sj_x H L 2 * 16 + sj_x H L 3 * 64 + sj_x H L 4 * 256
theorem sj_xt {H : Nat → Bool} {L : Nat → Nat} {j : Nat} (h : H j = true) : sj_x H L j = L j := if_pos h
theorem sj_xf {H : Nat → Bool} {L : Nat → Nat} {j : Nat} (h : ¬ H j = true) : sj_x H L j = 0 := if_neg h
theorem sj_x3 {H : Nat → Bool} {L : Nat → Nat} (hL : ∀ j, j < 5 → H j = true → 1 ≤ L j ∧ L j ≤ 3) {j : Nat} (hj : j < 5) : sj_x H L j ≤ 3 := by
  by_cases h : H j = true
  · rw [sj_xt h]; exact (hL j hj h).2
  · rw [sj_xf h]; omega
theorem sj_dec {x0 x1 x2 x3 x4 : Nat} (h0 : x0 ≤ 3) (h1 : x1 ≤ 3) (h2 : x2 ≤ 3) (h3 : x3 ≤ 3) (h4 : x4 ≤ 3) : sj_dg (x0 + x1 * 4 + x2 * 16 + x3 * 64 + x4 * 256) 0 = x0 ∧ sj_dg (x0 + x1 * 4 + x2 * 16 + x3 * 64 + x4 * 256) 1 = x1 ∧ sj_dg (x0 + x1 * 4 + x2 * 16 + x3 * 64 + x4 * 256) 2 = x2 ∧ sj_dg (x0 + x1 * 4 + x2 * 16 + x3 * 64 + x4 * 256) 3 = x3 ∧ sj_dg (x0 + x1 * 4 + x2 * 16 + x3 * 64 + x4 * 256) 4 = x4 := by
  rw [sj_dg0, sj_dg1, sj_dg2, sj_dg3, sj_dg4]
  refine ⟨?_, ?_, ?_, ?_, ?_⟩ <;> omega
theorem sj_fcd {H : Nat → Bool} {L : Nat → Nat} (hL : ∀ j, j < 5 → H j = true → 1 ≤ L j ∧ L j ≤ 3) : ∀ j, j < 5 → sj_dg (sj_fc H L) j = sj_x H L j := by
  obtain ⟨a, b, c, d, e⟩ := sj_dec (sj_x3 hL (j := 0) (by omega)) (sj_x3 hL (j := 1) (by omega)) (sj_x3 hL (j := 2) (by omega)) (sj_x3 hL (j := 3) (by omega)) (sj_x3 hL (j := 4) (by omega))
  exact sj_lt5 a b c d e
theorem sj_fcl {H : Nat → Bool} {L : Nat → Nat} (hL : ∀ j, j < 5 → H j = true → 1 ≤ L j ∧ L j ≤ 3) : sj_fc H L < 1024 := by
  have h0 := sj_x3 hL (j := 0) (by omega)
  have h1 := sj_x3 hL (j := 1) (by omega)
  have h2 := sj_x3 hL (j := 2) (by omega)
  have h3 := sj_x3 hL (j := 3) (by omega)
  have h4 := sj_x3 hL (j := 4) (by omega)
  unfold sj_fc
  omega
theorem sj_sum {s : Nat} (hs : s < 1024) : s = sj_dg s 0 + sj_dg s 1 * 4 + sj_dg s 2 * 16 + sj_dg s 3 * 64 + sj_dg s 4 * 256 := by
  rw [sj_dg0, sj_dg1, sj_dg2, sj_dg3, sj_dg4]
  omega
theorem sj_ext {H : Nat → Bool} {L : Nat → Nat} {s : Nat} (hs : s < 1024) (h : ∀ j, j < 5 → sj_dg s j = sj_x H L j) : s = sj_fc H L := by
  have e := sj_sum hs
  rw [h 0 (by omega), h 1 (by omega), h 2 (by omega), h 3 (by omega), h 4 (by omega)] at e
  exact e
theorem sj_lefc {H : Nat → Bool} {L : Nat → Nat} {s : Nat} (hs : s < 1024) (h : ∀ j, j < 5 → sj_dg s j ≤ sj_x H L j) : s ≤ sj_fc H L := by
  have e := sj_sum hs
  have h0 := h 0 (by omega)
  have h1 := h 1 (by omega)
  have h2 := h 2 (by omega)
  have h3 := h 3 (by omega)
  have h4 := h 4 (by omega)
  unfold sj_fc
  omega
end
section
/-! ===== plans: what the table of the reference reaches ===== -/
section
variable (H : Nat → Bool) (L R : Nat → Nat) (A : Nat → Nat → Bool) (M K : Nat → Nat → Prop)
def sj_ok (t s j : Nat) : Prop :=
  j < 5 ∧ H j = true ∧ sj_dg s j < L j ∧ R j ≤ t ∧ (∀ i, i < 5 → A i j = true → L i ≤ sj_dg s i) ∧ M j t ∧ (sj_dg s j + 1 = L j → K j (t + 1))
def sj_rc : Nat → Nat → Prop
  | 0 => fun s => s = 0
  | t + 1 => fun s => sj_rc t s ∨ ∃ j s', sj_ok H L R A M K t s' j ∧ sj_rc t s' ∧ s = s' + 4 ^ j
/-- a plan as its codes -/
def sj_pt (T : Nat) (σ : Nat → Nat) : Prop :=
  σ 0 = 0 ∧ ∀ t, t < T → σ (t + 1) = σ t ∨ ∃ j, sj_ok H L R A M K t (σ t) j ∧ σ (t + 1) = σ t + 4 ^ j
end
section
variable {H : Nat → Bool} {L R : Nat → Nat} {A : Nat → Nat → Bool} {M K : Nat → Nat → Prop}
theorem sj_bd (hL : ∀ j, j < 5 → H j = true → 1 ≤ L j ∧ L j ≤ 3) : ∀ t s, sj_rc H L R A M K t s → s < 1024 ∧ ∀ j, j < 5 → sj_dg s j ≤ sj_x H L j := by
  intro t
  induction t with
  | zero =>
    intro s h
    have h : s = 0 := h
    subst h
    exact ⟨by omega, fun j _ => by rw [sj_dgz]; exact Nat.zero_le _⟩
  | succ t ih =>
    intro s h
    rcases h with h | ⟨j, s', ho, h, rfl⟩
    · exact ih s h
    · obtain ⟨b, d⟩ := ih s' h
      obtain ⟨hj, hH, hd, -⟩ := ho
      have hl := hL j hj hH
      refine ⟨sj_lt1024 hj (by omega) b, fun i hi => ?_⟩
      by_cases e : i = j
      · subst e
        rw [sj_bumpS hj (by omega), sj_xt hH]
        omega
      · rw [sj_bumpO hj (by omega) hi e]
        exact d i hi
theorem sj_up1 {t s : Nat} (h : sj_rc H L R A M K t s) : sj_rc H L R A M K (t + 1) s := Or.inl h
theorem sj_upto {s : Nat} : ∀ {t T : Nat}, t ≤ T → sj_rc H L R A M K t s → sj_rc H L R A M K T s := by
  intro t T
  induction T with
  | zero =>
    intro h r
    obtain rfl : t = 0 := by omega
    exact r
  | succ T ih =>
    intro h r
    by_cases e : t = T + 1
    · subst e; exact r
    · exact Or.inl (ih (by omega) r)
theorem sj_mono {L' R' : Nat → Nat} {A' : Nat → Nat → Bool} {M' K' : Nat → Nat → Prop} (hR : ∀ j, j < 5 → H j = true → R' j ≤ R j)
    (hA : ∀ i j, i < 5 → j < 5 → H j = true → A' i j = true → A i j = true ∧ H i = true) (hM : ∀ j t, j < 5 → H j = true → M j t → M' j t)
    (hK : ∀ j t, j < 5 → H j = true → K j (t + 1) → K' j (t + 1)) (hl : ∀ j, j < 5 → H j = true → L' j = L j) : ∀ t s, sj_rc H L R A M K t s → sj_rc H L' R' A' M' K' t s := by
  intro t
  induction t with
  | zero => exact fun s h => h
  | succ t ih =>
    intro s h
    rcases h with h | ⟨j, s', ⟨hj, hH, h1, h2, h3, h4, h5⟩, h, rfl⟩
    · exact Or.inl (ih s h)
    · have e := hl j hj hH
      refine Or.inr ⟨j, s', ⟨hj, hH, by omega, Nat.le_trans (hR j hj hH) h2, fun i hi a => ?_, hM j t hj hH h4, fun z => hK j t hj hH (h5 (by omega))⟩, ih s' h, rfl⟩
      obtain ⟨a1, a2⟩ := hA i j hi hj hH a
      have := h3 i hi a1
      rw [hl i hi a2]
      exact this
theorem sj_fce {L' : Nat → Nat} (hl : ∀ j, j < 5 → H j = true → L' j = L j) : sj_fc H L' = sj_fc H L := by
  have g : ∀ j, j < 5 → sj_x H L' j = sj_x H L j := by
    intro j hj
    unfold sj_x
    by_cases h : H j = true
    · rw [if_pos h, if_pos h, hl j hj h]
    · rw [if_neg h, if_neg h]
  unfold sj_fc
  rw [g 0 (by omega), g 1 (by omega), g 2 (by omega), g 3 (by omega), g 4 (by omega)]
theorem sj_path : ∀ T s, sj_rc H L R A M K T s → ∃ σ : Nat → Nat, sj_pt H L R A M K T σ ∧ σ T = s := by
  intro T
  induction T with
  | zero =>
    intro s h
    have h : s = 0 := h
    exact ⟨fun _ => 0, ⟨rfl, fun t ht => absurd ht (by omega)⟩, h.symm⟩
  | succ T ih =>
    intro s h
    have key : ∀ s', sj_rc H L R A M K T s' → (s = s' ∨ ∃ j, sj_ok H L R A M K T s' j ∧ s = s' + 4 ^ j) → ∃ σ : Nat → Nat, sj_pt H L R A M K (T + 1) σ ∧ σ (T + 1) = s := by
      intro s' h' hs
      obtain ⟨σ, ⟨h0, hp⟩, hT⟩ := ih s' h'
      refine ⟨fun x => if x ≤ T then σ x else s, ⟨?_, ?_⟩, ?_⟩
      · show (if 0 ≤ T then σ 0 else s) = 0
        rw [if_pos (Nat.zero_le _)]
        exact h0
      · intro t ht
        show (if t + 1 ≤ T then σ (t + 1) else s) = (if t ≤ T then σ t else s) ∨ ∃ j, sj_ok H L R A M K t (if t ≤ T then σ t else s) j ∧ (if t + 1 ≤ T then σ (t + 1) else s) = (if t ≤ T then σ t else s) + 4 ^ j
        rw [if_pos (show t ≤ T by omega)]
        by_cases e : t = T
        · subst e
          rw [if_neg (by omega), hT]
          exact hs
        · rw [if_pos (by omega)]
          exact hp t (by omega)
      · show (if T + 1 ≤ T then σ (T + 1) else s) = s
        rw [if_neg (by omega)]
    rcases h with h | ⟨j, s', ho, h, e⟩
    · exact key s h (Or.inl rfl)
    · exact key s' h (Or.inr ⟨j, ho, e⟩)
theorem sj_unpath {T : Nat} {σ : Nat → Nat} (h : sj_pt H L R A M K T σ) : ∀ t, t ≤ T → sj_rc H L R A M K t (σ t) := by
  intro t
  induction t with
  | zero => exact fun _ => h.1
  | succ t ih =>
    intro ht
    have r := ih (by omega)
    rcases h.2 t (by omega) with e | ⟨j, ho, e⟩
    · rw [e]; exact Or.inl r
    · exact Or.inr ⟨j, σ t, ho, r, e⟩
/-- no unit before the start -/
theorem sj_fwd (hL : ∀ j, j < 5 → H j = true → 1 ≤ L j ∧ L j ≤ 3) (F : Nat → Nat)
    (hF : ∀ j, j < 5 → H j = true → F j ≤ R j ∨ ∃ i, i < 5 ∧ H i = true ∧ A i j = true ∧ F j ≤ F i + L i) :
    ∀ t s, sj_rc H L R A M K t s → ∀ j, j < 5 → H j = true → 0 < sj_dg s j → F j + sj_dg s j ≤ t := by
  intro t
  induction t with
  | zero =>
    intro s h j _ _ hd
    have h : s = 0 := h
    subst h
    rw [sj_dgz] at hd
    omega
  | succ t ih =>
    intro s h j hj hH hd
    rcases h with h | ⟨k, s', ⟨hk, hHk, h1, h2, h3, -⟩, h, rfl⟩
    · have := ih s h j hj hH hd
      omega
    · have hl := hL k hk hHk
      by_cases e : j = k
      · subst e
        rw [sj_bumpS hj (by omega)]
        by_cases z : sj_dg s' j = 0
        · rcases hF j hj hH with f | ⟨i, hi, hHi, a, f⟩
          · omega
          · have q := h3 i hi a
            have l := hL i hi hHi
            have := ih s' h i hi hHi (by omega)
            omega
        · have := ih s' h j hj hH (by omega)
          omega
      · rw [sj_bumpO hk (by omega) hj e] at hd ⊢
        have := ih s' h j hj hH hd
        omega
/-- whoever has begun has all before it done -/
theorem sj_pre (hL : ∀ j, j < 5 → H j = true → 1 ≤ L j ∧ L j ≤ 3) :
    ∀ t s, sj_rc H L R A M K t s → ∀ i j, i < 5 → j < 5 → A i j = true → 0 < sj_dg s j → L i ≤ sj_dg s i := by
  intro t
  induction t with
  | zero =>
    intro s h i j _ _ _ hd
    have h : s = 0 := h
    subst h
    rw [sj_dgz] at hd
    omega
  | succ t ih =>
    intro s h i j hi hj a hd
    rcases h with h | ⟨k, s', ⟨hk, hHk, h1, h2, h3, -⟩, h, rfl⟩
    · exact ih s h i j hi hj a hd
    · have hl := hL k hk hHk
      have g : L i ≤ sj_dg s' i := by
        by_cases e : j = k
        · subst e
          exact h3 i hi a
        · rw [sj_bumpO hk (by omega) hj e] at hd
          exact ih s' h i j hi hj a hd
      by_cases e : i = k
      · subst e
        rw [sj_bumpS hk (by omega)]
        omega
      · rw [sj_bumpO hk (by omega) hi e]
        exact g
/-- no unit behind the deadline -/
theorem sj_bwd (hL : ∀ j, j < 5 → H j = true → 1 ≤ L j ∧ L j ≤ 3) {T : Nat} {σ : Nat → Nat} (hσ : sj_pt H L R A M K T σ) (hT : σ T = sj_fc H L) (E D : Nat → Int)
    (hE : ∀ j, j < 5 → H j = true → D j ≤ E j ∨ ∃ k, k < 5 ∧ H k = true ∧ A j k = true ∧ E k - (L k : Int) ≤ E j)
    (hD : ∀ j t, j < 5 → H j = true → t < T → M j t → K j (t + 1) → (t : Int) + 1 ≤ D j) :
    ∀ d t, t + d = T → ∀ j, j < 5 → H j = true → sj_dg (σ t) j < L j → (t : Int) + (L j : Int) ≤ E j + (sj_dg (σ t) j : Int) := by
  intro d
  induction d with
  | zero =>
    intro t ht j hj hH hd
    have ht : t = T := ht
    subst ht
    rw [hT, sj_fcd hL j hj, sj_xt hH] at hd
    omega
  | succ d ih =>
    intro t ht j hj hH hd
    have ih' := ih (t + 1) (by omega)
    rcases hσ.2 t (by omega) with e | ⟨k, ⟨hk, hHk, h1, h2, h3, h4, h5⟩, e⟩
    · rw [e] at ih'
      have := ih' j hj hH hd
      omega
    · have hl := hL k hk hHk
      by_cases ej : j = k
      · subst ej
        by_cases z : sj_dg (σ t) j + 1 = L j
        · have hkk := h5 z
          have g : (t : Int) + 1 ≤ E j := by
            rcases hE j hj hH with f | ⟨m, hm, hHm, a, f⟩
            · have := hD j t hj hH (by omega) h4 hkk
              omega
            · have hmj : m ≠ j := by
                intro e2
                subst e2
                have := h3 m hm a
                omega
              have m0 : sj_dg (σ t) m = 0 := by
                rcases Nat.eq_zero_or_pos (sj_dg (σ t) m) with q | q
                · exact q
                · have := sj_pre hL t (σ t) (sj_unpath hσ t (by omega)) j m hj hm a q
                  omega
              have lm := hL m hm hHm
              have b : sj_dg (σ (t + 1)) m = 0 := by rw [e, sj_bumpO hk (by omega) hm hmj, m0]
              have := ih' m hm hHm (by omega)
              omega
          omega
        · have b : sj_dg (σ (t + 1)) j = sj_dg (σ t) j + 1 := by rw [e, sj_bumpS hk (by omega)]
          have := ih' j hj hH (by omega)
          omega
      · have b : sj_dg (σ (t + 1)) j = sj_dg (σ t) j := by rw [e, sj_bumpO hk (by omega) hj ej]
        have := ih' j hj hH (by omega)
        omega
/-- the work that must lie between a and d fits there -/
theorem sj_hall (hL : ∀ j, j < 5 → H j = true → 1 ≤ L j ∧ L j ≤ 3) {T : Nat} {σ : Nat → Nat} (hσ : sj_pt H L R A M K T σ) (hT : σ T = sj_fc H L) (F : Nat → Nat) (E : Nat → Int)
    (hf : ∀ t s, sj_rc H L R A M K t s → ∀ j, j < 5 → H j = true → 0 < sj_dg s j → F j + sj_dg s j ≤ t)
    (he : ∀ d t, t + d = T → ∀ j, j < 5 → H j = true → sj_dg (σ t) j < L j → (t : Int) + (L j : Int) ≤ E j + (sj_dg (σ t) j : Int))
    (a : Nat) (d : Int) (J : Nat → Bool) (hJ : ∀ j, j < 5 → J j = true → H j = true ∧ a ≤ F j ∧ E j ≤ d) :
    sj_S (fun i => if J i = true then L i else 0) = 0 ∨ ((sj_S (fun i => if J i = true then L i else 0) : Nat) : Int) + (a : Int) ≤ d := by
  have g : ∀ t, t ≤ T → sj_S (fun i => if J i = true then sj_dg (σ t) i else 0) = 0 ∨ (sj_S (fun i => if J i = true then sj_dg (σ t) i else 0) + a ≤ t ∧ ((sj_S (fun i => if J i = true then sj_dg (σ t) i else 0) : Nat) : Int) + (a : Int) ≤ d) := by
    intro t
    induction t with
    | zero =>
      intro _
      refine Or.inl ?_
      rw [hσ.1]
      unfold sj_S
      simp [sj_dgz]
    | succ t ih =>
      intro ht
      have i0 := ih (by omega)
      rcases hσ.2 t (by omega) with e | ⟨k, ⟨hk, hHk, h1, h2, h3, h4, h5⟩, e⟩
      · rw [e]
        omega
      · have hl := hL k hk hHk
        by_cases q : J k = true
        · have b : sj_S (fun i => if J i = true then sj_dg (σ (t + 1)) i else 0) = sj_S (fun i => if J i = true then sj_dg (σ t) i else 0) + 1 := by
            refine sj_Sinc hk (fun i hi ne => ?_) ?_
            · show (if J i = true then sj_dg (σ (t + 1)) i else 0) = (if J i = true then sj_dg (σ t) i else 0)
              rw [e, sj_bumpO hk (by omega) hi ne]
            · show (if J k = true then sj_dg (σ (t + 1)) k else 0) = (if J k = true then sj_dg (σ t) k else 0) + 1
              rw [if_pos q, if_pos q, e, sj_bumpS hk (by omega)]
          obtain ⟨-, ja, jd⟩ := hJ k hk q
          have f := hf (t + 1) (σ (t + 1)) (sj_unpath hσ (t + 1) ht) k hk hHk (by rw [e, sj_bumpS hk (by omega)]; omega)
          rw [e, sj_bumpS hk (by omega)] at f
          have z := he (T - t) t (by omega) k hk hHk h1
          rw [b]
          omega
        · have b : sj_S (fun i => if J i = true then sj_dg (σ (t + 1)) i else 0) = sj_S (fun i => if J i = true then sj_dg (σ t) i else 0) := by
            refine sj_Seq (fun i hi => ?_)
            by_cases ne : i = k
            · subst ne
              rw [if_neg q, if_neg q]
            · rw [e, sj_bumpO hk (by omega) hi ne]
          rw [b]
          omega
  have r := g T (Nat.le_refl T)
  have b : sj_S (fun i => if J i = true then sj_dg (σ T) i else 0) = sj_S (fun i => if J i = true then L i else 0) := by
    refine sj_Seq (fun i hi => ?_)
    by_cases q : J i = true
    · rw [if_pos q, if_pos q, hT, sj_fcd hL i hi, sj_xt (hJ i hi q).1]
    · rw [if_neg q, if_neg q]
  rw [b] at r
  omega
end
end
section
/-! ===== a plan of 34 units gives one of 33; a job taken out ===== -/
section
variable {H : Nat → Bool} {L R : Nat → Nat} {A : Nat → Nat → Bool} {M K : Nat → Nat → Prop}
theorem sj_shift (hL : ∀ j, j < 5 → H j = true → 1 ≤ L j ∧ L j ≤ 3) (hR : ∀ j, j < 5 → H j = true → R j ≤ 18)
    (hM : ∀ j t, j < 5 → H j = true → M j (t + 1) → M j t) (hK : ∀ j t, j < 5 → H j = true → K j (t + 2) → K j (t + 1))
    (h : sj_rc H L R A M K 34 (sj_fc H L)) : sj_rc H L R A M K 33 (sj_fc H L) := by
  obtain ⟨σ, hσ, hT⟩ := sj_path 34 _ h
  have ex : ∃ u, 18 ≤ u ∧ u < 34 ∧ σ (u + 1) = σ u := by
    apply Classical.byContradiction
    intro hn
    have g : ∀ k, k ≤ 16 → k ≤ sj_S (sj_dg (σ (18 + k))) := by
      intro k
      induction k with
      | zero => intro _; exact Nat.zero_le _
      | succ k ih =>
        intro hk
        have i0 := ih (by omega)
        rcases hσ.2 (18 + k) (by omega) with e | ⟨j, ⟨hj, hH, h1, -⟩, e⟩
        · exact absurd ⟨18 + k, by omega, by omega, e⟩ hn
        · have hl := hL j hj hH
          have b : sj_S (sj_dg (σ (18 + k + 1))) = sj_S (sj_dg (σ (18 + k))) + 1 := by
            refine sj_Sinc hj (fun i hi ne => ?_) ?_
            · rw [e, sj_bumpO hj (by omega) hi ne]
            · rw [e, sj_bumpS hj (by omega)]
          have b' : sj_S (sj_dg (σ (18 + (k + 1)))) = sj_S (sj_dg (σ (18 + k))) + 1 := b
          omega
    have z : 16 ≤ sj_S (sj_dg (σ 34)) := g 16 (Nat.le_refl _)
    have d0 := sj_dg3' (σ 34) 0
    have d1 := sj_dg3' (σ 34) 1
    have d2 := sj_dg3' (σ 34) 2
    have d3 := sj_dg3' (σ 34) 3
    have d4 := sj_dg3' (σ 34) 4
    unfold sj_S at z
    omega
  obtain ⟨u, hu, hu2, e⟩ := ex
  have hp : sj_pt H L R A M K 33 (fun t => if t ≤ u then σ t else σ (t + 1)) := by
    refine ⟨?_, fun t ht => ?_⟩
    · show (if 0 ≤ u then σ 0 else σ (0 + 1)) = 0
      rw [if_pos (Nat.zero_le _)]
      exact hσ.1
    · show (if t + 1 ≤ u then σ (t + 1) else σ (t + 1 + 1)) = (if t ≤ u then σ t else σ (t + 1)) ∨ ∃ j, sj_ok H L R A M K t (if t ≤ u then σ t else σ (t + 1)) j ∧ (if t + 1 ≤ u then σ (t + 1) else σ (t + 1 + 1)) = (if t ≤ u then σ t else σ (t + 1)) + 4 ^ j
      by_cases c : t + 1 ≤ u
      · rw [if_pos c, if_pos (by omega)]
        exact hσ.2 t (by omega)
      · have q : (if t ≤ u then σ t else σ (t + 1)) = σ (t + 1) := by
          by_cases c2 : t ≤ u
          · have ht2 : t = u := by omega
            subst ht2
            rw [if_pos c2, e]
          · rw [if_neg c2]
        rw [if_neg c, q]
        rcases hσ.2 (t + 1) (by omega) with e2 | ⟨j, ⟨hj, hH, h1, h2, h3, h4, h5⟩, e2⟩
        · exact Or.inl e2
        · have r := hR j hj hH
          exact Or.inr ⟨j, ⟨hj, hH, h1, by omega, h3, hM j t hj hH h4, fun z => hK j t hj hH (h5 z)⟩, e2⟩
  have r := sj_unpath hp 33 (Nat.le_refl _)
  have q : (if 33 ≤ u then σ 33 else σ (33 + 1)) = sj_fc H L := by
    by_cases c : 33 ≤ u
    · have hu3 : u = 33 := by omega
      subst hu3
      rw [if_pos c, ← e]
      exact hT
    · rw [if_neg c]
      exact hT
  have r' : sj_rc H L R A M K 33 (if 33 ≤ u then σ 33 else σ (33 + 1)) := r
  rw [q] at r'
  exact r'
end
def sj_dr (s d : Nat) : Nat := s - sj_dg s d * 4 ^ d
theorem sj_drd {s d : Nat} (hd : d < 5) : ∀ i, i < 5 → sj_dg (sj_dr s d) i = if i = d then 0 else sj_dg s i := by
  intro i hi
  unfold sj_dr
  rcases sj_c5 hd with rfl | rfl | rfl | rfl | rfl <;> rcases sj_c5 hi with rfl | rfl | rfl | rfl | rfl <;>
    simp only [sj_dg0, sj_dg1, sj_dg2, sj_dg3, sj_dg4, sj_p0, sj_p1, sj_p2, sj_p3, sj_p4] <;> simp <;> omega
theorem sj_drs {s d : Nat} (hd : d < 5) (h : sj_dg s d < 3) : sj_dr (s + 4 ^ d) d = sj_dr s d := by
  unfold sj_dr
  rw [sj_bumpS hd h, Nat.add_mul]
  omega
theorem sj_drle {s d : Nat} (hd : d < 5) : sj_dg s d * 4 ^ d ≤ s := by
  rcases sj_c5 hd with rfl | rfl | rfl | rfl | rfl <;>
    simp only [sj_dg0, sj_dg1, sj_dg2, sj_dg3, sj_dg4, sj_p0, sj_p1, sj_p2, sj_p3, sj_p4] <;> omega
theorem sj_dro {s d j : Nat} (hd : d < 5) (hj : j < 5) (h : sj_dg s j < 3) (ne : d ≠ j) : sj_dr (s + 4 ^ j) d = sj_dr s d + 4 ^ j := by
  have q := sj_drle (s := s) hd
  unfold sj_dr
  rw [sj_bumpO hj h hd ne]
  exact Nat.sub_add_comm q
section
variable {H : Nat → Bool} {L R : Nat → Nat} {A : Nat → Nat → Bool} {M K : Nat → Nat → Prop}
theorem sj_rem (hL : ∀ j, j < 5 → H j = true → 1 ≤ L j ∧ L j ≤ 3) {d : Nat} (hd : d < 5) {H' : Nat → Bool} {A' : Nat → Nat → Bool}
    (hH' : ∀ j, j < 5 → j ≠ d → H j = true → H' j = true) (hA : ∀ i j, i < 5 → j < 5 → A' i j = true → A i j = true ∧ i ≠ d) :
    ∀ t s, sj_rc H L R A M K t s → sj_rc H' L R A' M K t (sj_dr s d) := by
  intro t
  induction t with
  | zero =>
    intro s h
    have h : s = 0 := h
    subst h
    show 0 - sj_dg 0 d * 4 ^ d = 0
    omega
  | succ t ih =>
    intro s h
    rcases h with h | ⟨j, s', ⟨hj, hH, h1, h2, h3, h4, h5⟩, h, rfl⟩
    · exact Or.inl (ih s h)
    · have hl := hL j hj hH
      by_cases e : j = d
      · subst e
        rw [sj_drs hj (by omega)]
        exact Or.inl (ih s' h)
      · have q : sj_dg (sj_dr s' d) j = sj_dg s' j := by rw [sj_drd hd j hj, if_neg e]
        rw [sj_dro hd hj (by omega) (fun z => e z.symm)]
        refine Or.inr ⟨j, sj_dr s' d, ⟨hj, hH' j hj e hH, by omega, h2, fun i hi a => ?_, h4, fun z => h5 (by omega)⟩, ih s' h, rfl⟩
        obtain ⟨a1, a2⟩ := hA i j hi hj a
        rw [sj_drd hd i hi, if_neg a2]
        exact h3 i hi a1
theorem sj_drfc (hL : ∀ j, j < 5 → H j = true → 1 ≤ L j ∧ L j ≤ 3) {d : Nat} (hd : d < 5) {H' : Nat → Bool}
    (hH' : ∀ j, j < 5 → H' j = (H j && !(decide (j = d)))) : sj_dr (sj_fc H L) d = sj_fc H' L := by
  have b := sj_fcl hL
  refine sj_ext (by unfold sj_dr; omega) (fun j hj => ?_)
  rw [sj_drd hd j hj, sj_fcd hL j hj]
  by_cases e : j = d
  · subst e
    rw [if_pos rfl, sj_xf (by rw [hH' j hj]; simp)]
  · rw [if_neg e]
    unfold sj_x
    rw [hH' j hj]
    simp [e]
end
end
section
/-! ===== the most urgent first ===== -/
def sj_gi (H : Nat → Bool) (L F : Nat → Nat) (E : Nat → Int) (t s : Nat) : Prop :=
  ∀ D : Int, ∃ a : Nat, a ≤ t ∧ (∀ i, i < 5 → H i = true → E i ≤ D → F i < a → L i ≤ sj_dg s i) ∧ t ≤ a + sj_S (fun i => if (H i && decide (a ≤ F i) && decide (E i ≤ D)) = true then sj_dg s i else 0)
theorem sj_Jt {H : Nat → Bool} {F : Nat → Nat} {E : Nat → Int} {a i : Nat} {D : Int} (h1 : H i = true) (h2 : a ≤ F i) (h3 : E i ≤ D) : (H i && decide (a ≤ F i) && decide (E i ≤ D)) = true := by
  simp [h1, h2, h3]
theorem sj_Jd {H : Nat → Bool} {F : Nat → Nat} {E : Nat → Int} {a i : Nat} {D : Int} (h : (H i && decide (a ≤ F i) && decide (E i ≤ D)) = true) : H i = true ∧ a ≤ F i ∧ E i ≤ D := by
  simp at h
  exact ⟨h.1.1, h.1.2, h.2⟩
section
variable {H : Nat → Bool} {L F : Nat → Nat} {E : Nat → Int}
theorem sj_g0 : sj_gi H L F E 0 0 := fun _ => ⟨0, Nat.le_refl _, fun _ _ _ _ z => absurd z (by omega), Nat.zero_le _⟩
theorem sj_gidle {t s : Nat} (h : ∀ i, i < 5 → H i = true → F i ≤ t → L i ≤ sj_dg s i) : sj_gi H L F E (t + 1) s :=
  fun _ => ⟨t + 1, Nat.le_refl _, fun i hi hH _ z => h i hi hH (by omega), Nat.le_add_right _ _⟩
theorem sj_gstep {t s id : Nat} (g : sj_gi H L F E t s) (hid : id < 5) (hH : H id = true) (hl : L id ≤ 3) (hd : sj_dg s id < L id) (hF : F id ≤ t)
    (hm : ∀ i, i < 5 → H i = true → sj_dg s i < L i → F i ≤ t → E id ≤ E i) : sj_gi H L F E (t + 1) (s + 4 ^ id) := by
  intro D
  obtain ⟨a, ha, h1, h2⟩ := g D
  by_cases c : E id ≤ D
  · have hFa : a ≤ F id := by
      rcases Nat.lt_or_ge (F id) a with z | z
      · have := h1 id hid hH c z
        omega
      · exact z
    refine ⟨a, by omega, fun i hi hHi e f => ?_, ?_⟩
    · have := h1 i hi hHi e f
      by_cases q : i = id
      · subst q; omega
      · rw [sj_bumpO hid (by omega) hi q]; exact this
    · have b : sj_S (fun i => if (H i && decide (a ≤ F i) && decide (E i ≤ D)) = true then sj_dg (s + 4 ^ id) i else 0) = sj_S (fun i => if (H i && decide (a ≤ F i) && decide (E i ≤ D)) = true then sj_dg s i else 0) + 1 := by
        refine sj_Sinc hid (fun i hi ne => ?_) ?_
        · show (if (H i && decide (a ≤ F i) && decide (E i ≤ D)) = true then sj_dg (s + 4 ^ id) i else 0) = (if (H i && decide (a ≤ F i) && decide (E i ≤ D)) = true then sj_dg s i else 0)
          rw [sj_bumpO hid (by omega) hi ne]
        · show (if (H id && decide (a ≤ F id) && decide (E id ≤ D)) = true then sj_dg (s + 4 ^ id) id else 0) = (if (H id && decide (a ≤ F id) && decide (E id ≤ D)) = true then sj_dg s id else 0) + 1
          rw [if_pos (sj_Jt hH hFa c), if_pos (sj_Jt hH hFa c), sj_bumpS hid (by omega)]
      rw [b]
      omega
  · refine ⟨t + 1, Nat.le_refl _, fun i hi hHi e f => ?_, Nat.le_add_right _ _⟩
    have ne : i ≠ id := by
      intro q
      subst q
      exact c e
    rw [sj_bumpO hid (by omega) hi ne]
    rcases Nat.lt_or_ge (sj_dg s i) (L i) with z | z
    · have := hm i hi hHi z (by omega)
      omega
    · exact z
/-- work left too late: more work than room -/
theorem sj_gfail {t s id : Nat} (g : sj_gi H L F E t s) (hid : id < 5) (hH : H id = true) (hd : sj_dg s id < L id) (hE : E id ≤ (t : Int))
    (hb : ∀ j, j < 5 → H j = true → sj_dg s j ≤ L j)
    (hall : ∀ (a : Nat) (d : Int) (J : Nat → Bool), (∀ j, j < 5 → J j = true → H j = true ∧ a ≤ F j ∧ E j ≤ d) → sj_S (fun i => if J i = true then L i else 0) = 0 ∨ ((sj_S (fun i => if J i = true then L i else 0) : Nat) : Int) + (a : Int) ≤ d) : False := by
  obtain ⟨a, ha, h1, h2⟩ := g (E id)
  have hFa : a ≤ F id := by
    rcases Nat.lt_or_ge (F id) a with z | z
    · have := h1 id hid hH (Int.le_refl _) z
      omega
    · exact z
  have hh := hall a (E id) (fun i => H i && decide (a ≤ F i) && decide (E i ≤ E id)) (fun j _ q => sj_Jd q)
  have lt : sj_S (fun i => if (H i && decide (a ≤ F i) && decide (E i ≤ E id)) = true then sj_dg s i else 0) < sj_S (fun i => if (H i && decide (a ≤ F i) && decide (E i ≤ E id)) = true then L i else 0) := by
    refine sj_Slt (j := id) (fun i hi => ?_) hid ?_
    · show (if (H i && decide (a ≤ F i) && decide (E i ≤ E id)) = true then sj_dg s i else 0) ≤ (if (H i && decide (a ≤ F i) && decide (E i ≤ E id)) = true then L i else 0)
      by_cases q : (H i && decide (a ≤ F i) && decide (E i ≤ E id)) = true
      · rw [if_pos q, if_pos q]
        exact hb i hi (sj_Jd q).1
      · rw [if_neg q, if_neg q]
        exact Nat.le_refl _
    · show (if (H id && decide (a ≤ F id) && decide (E id ≤ E id)) = true then sj_dg s id else 0) < (if (H id && decide (a ≤ F id) && decide (E id ≤ E id)) = true then L id else 0)
      rw [if_pos (sj_Jt hH hFa (Int.le_refl _)), if_pos (sj_Jt hH hFa (Int.le_refl _))]
      exact hd
  have hh' : sj_S (fun i => if (H i && decide (a ≤ F i) && decide (E i ≤ E id)) = true then L i else 0) = 0 ∨ ((sj_S (fun i => if (H i && decide (a ≤ F i) && decide (E i ≤ E id)) = true then L i else 0) : Nat) : Int) + (a : Int) ≤ E id := hh
  omega
/-- the chosen job may have the unit -/
theorem sj_gok {R : Nat → Nat} {A : Nat → Nat → Bool} {M K : Nat → Nat → Prop} {t s id : Nat} (hL : ∀ j, j < 5 → H j = true → 1 ≤ L j ∧ L j ≤ 3)
    (hA : ∀ i j, i < 5 → j < 5 → A i j = true → H i = true ∧ F i + L i ≤ F j ∧ E i < E j)
    (hR : ∀ j, j < 5 → H j = true → R j ≤ F j) (hid : id < 5) (hH : H id = true) (hd : sj_dg s id < L id) (hF : F id ≤ t)
    (hm : ∀ i, i < 5 → H i = true → sj_dg s i < L i → F i ≤ t → E id ≤ E i) (hM : M id t) (hK : K id (t + 1)) : sj_ok H L R A M K t s id := by
  refine ⟨hid, hH, hd, Nat.le_trans (hR id hid hH) hF, fun i hi a => ?_, hM, fun _ => hK⟩
  obtain ⟨h1, h2, h3⟩ := hA i id hi hid a
  rcases Nat.lt_or_ge (sj_dg s i) (L i) with z | z
  · have l := hL i hi h1
    have := hm i hi h1 z (by omega)
    omega
  · exact z
end
/-- a least one of five -/
theorem sj_min5 (P : Nat → Prop) (v : Nat → Nat) (h : ∃ i, i < 5 ∧ P i) : ∃ i, i < 5 ∧ P i ∧ ∀ k, k < 5 → P k → v i ≤ v k := by
  obtain ⟨i, hi, hp⟩ := h
  generalize e : v i = n
  induction n using Nat.strongRecOn generalizing i with
  | ind n ih =>
    by_cases c : ∃ k, k < 5 ∧ P k ∧ v k < n
    · obtain ⟨k, hk, pk, lt⟩ := c
      exact ih (v k) lt k hk pk rfl
    · refine ⟨i, hi, hp, fun k hk pk => ?_⟩
      rcases Nat.lt_or_ge (v k) n with z | z
      · exact absurd ⟨k, hk, pk, z⟩ c
      · omega
end
section
/-! ===== values carried along links ===== -/
def sj_m2 (a b : Int) : Int := if a < b then b else a
theorem sj_m2l (a b : Int) : a ≤ sj_m2 a b := by unfold sj_m2; split <;> omega
theorem sj_m2r (a b : Int) : b ≤ sj_m2 a b := by unfold sj_m2; split <;> omega
theorem sj_m2o (a b : Int) : sj_m2 a b = a ∨ sj_m2 a b = b := by unfold sj_m2; split <;> simp
def sj_mx (b : Int) (c : Nat → Int) : Int := sj_m2 (sj_m2 (sj_m2 (sj_m2 (sj_m2 b (c 0)) (c 1)) (c 2)) (c 3)) (c 4)
theorem sj_mxb (b : Int) (c : Nat → Int) : b ≤ sj_mx b c :=
  Int.le_trans (sj_m2l _ _) (Int.le_trans (sj_m2l _ _) (Int.le_trans (sj_m2l _ _) (Int.le_trans (sj_m2l _ _) (sj_m2l _ _))))
theorem sj_mxc (b : Int) (c : Nat → Int) : ∀ i, i < 5 → c i ≤ sj_mx b c :=
  sj_lt5 (Int.le_trans (sj_m2r _ _) (Int.le_trans (sj_m2l _ _) (Int.le_trans (sj_m2l _ _) (Int.le_trans (sj_m2l _ _) (sj_m2l _ _)))))
    (Int.le_trans (sj_m2r _ _) (Int.le_trans (sj_m2l _ _) (Int.le_trans (sj_m2l _ _) (sj_m2l _ _))))
    (Int.le_trans (sj_m2r _ _) (Int.le_trans (sj_m2l _ _) (sj_m2l _ _)))
    (Int.le_trans (sj_m2r _ _) (sj_m2l _ _)) (sj_m2r _ _)
theorem sj_mxs {b x : Int} {c : Nat → Int} {i : Nat} (hi : i < 5) (h : x = b ∨ ∃ k, k < 5 ∧ x = c k) : sj_m2 x (c i) = b ∨ ∃ k, k < 5 ∧ sj_m2 x (c i) = c k := by
  rcases sj_m2o x (c i) with e | e
  · rw [e]; exact h
  · exact Or.inr ⟨i, hi, e⟩
theorem sj_mxo (b : Int) (c : Nat → Int) : sj_mx b c = b ∨ ∃ i, i < 5 ∧ sj_mx b c = c i :=
  sj_mxs (i := 4) (by omega) (sj_mxs (i := 3) (by omega) (sj_mxs (i := 2) (by omega) (sj_mxs (i := 1) (by omega) (sj_mxs (i := 0) (by omega) (Or.inl rfl)))))
theorem sj_mxe {b : Int} {c c' : Nat → Int} (h : ∀ i, i < 5 → c i = c' i) : sj_mx b c = sj_mx b c' := by
  unfold sj_mx
  rw [h 0 (by omega), h 1 (by omega), h 2 (by omega), h 3 (by omega), h 4 (by omega)]
def sj_f (A : Nat → Nat → Bool) (L : Nat → Nat) (B : Nat → Int) : Nat → Nat → Int
  | 0 => B
  | r + 1 => fun j => sj_mx (B j) (fun i => if A i j = true then sj_f A L B r i + (L i : Int) else B j)
def sj_isF (A : Nat → Nat → Bool) (L : Nat → Nat) (B F : Nat → Int) : Prop :=
  (∀ j, j < 5 → B j ≤ F j) ∧ (∀ i j, i < 5 → j < 5 → A i j = true → F i + (L i : Int) ≤ F j) ∧ (∀ j, j < 5 → F j = B j ∨ ∃ i, i < 5 ∧ A i j = true ∧ F j = F i + (L i : Int))
/-- the order of the links, at most four deep -/
def sj_ord (A : Nat → Nat → Bool) (rk : Nat → Nat) : Prop := ∀ i j, i < 5 → j < 5 → A i j = true → rk i < rk j
section
variable {A : Nat → Nat → Bool} {L : Nat → Nat} {B F : Nat → Int} {rk : Nat → Nat}
theorem sj_fst (hrk : sj_ord A rk) : ∀ r j, j < 5 → rk j ≤ r → sj_f A L B (r + 1) j = sj_f A L B r j := by
  intro r
  induction r with
  | zero =>
    intro j hj hr
    show sj_mx (B j) (fun i => if A i j = true then B i + (L i : Int) else B j) = B j
    rcases sj_mxo (B j) (fun i => if A i j = true then B i + (L i : Int) else B j) with e | ⟨i, hi, e⟩
    · exact e
    · rw [e]
      have n : ¬ A i j = true := by
        intro a
        have := hrk i j hi hj a
        omega
      exact if_neg n
  | succ r ih =>
    intro j hj hr
    show sj_mx (B j) (fun i => if A i j = true then sj_f A L B (r + 1) i + (L i : Int) else B j) = sj_mx (B j) (fun i => if A i j = true then sj_f A L B r i + (L i : Int) else B j)
    refine sj_mxe (fun i hi => ?_)
    show (if A i j = true then sj_f A L B (r + 1) i + (L i : Int) else B j) = (if A i j = true then sj_f A L B r i + (L i : Int) else B j)
    by_cases a : A i j = true
    · have := hrk i j hi hj a
      rw [if_pos a, if_pos a, ih i hi (by omega)]
    · rw [if_neg a, if_neg a]
theorem sj_Fex (hrk : sj_ord A rk) (h4 : ∀ j, j < 5 → rk j ≤ 4) : sj_isF A L B (sj_f A L B 4) := by
  have e : ∀ j, j < 5 → sj_f A L B 4 j = sj_mx (B j) (fun i => if A i j = true then sj_f A L B 4 i + (L i : Int) else B j) := fun j hj => (sj_fst hrk 4 j hj (h4 j hj)).symm
  refine ⟨fun j hj => ?_, fun i j hi hj a => ?_, fun j hj => ?_⟩
  · rw [e j hj]; exact sj_mxb _ _
  · rw [e j hj]
    have := sj_mxc (B j) (fun i => if A i j = true then sj_f A L B 4 i + (L i : Int) else B j) i hi
    rw [if_pos a] at this
    exact this
  · rcases sj_mxo (B j) (fun i => if A i j = true then sj_f A L B 4 i + (L i : Int) else B j) with q | ⟨i, hi, q⟩
    · exact Or.inl ((e j hj).trans q)
    · by_cases a : A i j = true
      · exact Or.inr ⟨i, hi, a, (e j hj).trans (q.trans (if_pos a))⟩
      · exact Or.inl ((e j hj).trans (q.trans (if_neg a)))
theorem sj_fup {U : Int} (hB : ∀ j, j < 5 → B j ≤ U) (hL : ∀ i j, i < 5 → j < 5 → A i j = true → L i ≤ 3) : ∀ (r j : Nat), j < 5 → sj_f A L B r j ≤ U + 3 * (r : Int) := by
  intro r
  induction r with
  | zero =>
    intro j hj
    have := hB j hj
    show B j ≤ _
    omega
  | succ r ih =>
    intro j hj
    have b := hB j hj
    rcases sj_mxo (B j) (fun i => if A i j = true then sj_f A L B r i + (L i : Int) else B j) with e | ⟨i, hi, e⟩
    · show sj_mx (B j) (fun i => if A i j = true then sj_f A L B r i + (L i : Int) else B j) ≤ _
      rw [e]
      omega
    · show sj_mx (B j) (fun i => if A i j = true then sj_f A L B r i + (L i : Int) else B j) ≤ _
      rw [e]
      show (if A i j = true then sj_f A L B r i + (L i : Int) else B j) ≤ _
      by_cases a : A i j = true
      · have := ih i hi
        have l := hL i j hi hj a
        rw [if_pos a]
        omega
      · rw [if_neg a]
        omega
end
/-- the same in naturals -/
theorem sj_Fnat {A : Nat → Nat → Bool} {L R : Nat → Nat} {rk : Nat → Nat} (hrk : sj_ord A rk) (h4 : ∀ j, j < 5 → rk j ≤ 4) {U : Nat} (hR : ∀ j, j < 5 → R j ≤ U) (hL : ∀ i j, i < 5 → j < 5 → A i j = true → L i ≤ 3) :
    ∃ F : Nat → Nat, sj_isF A L (fun j => (R j : Int)) (fun j => (F j : Int)) ∧ ∀ j, j < 5 → F j ≤ U + 12 := by
  have h := sj_Fex (L := L) (B := fun j => (R j : Int)) hrk h4
  have up := sj_fup (A := A) (L := L) (B := fun j => (R j : Int)) (U := (U : Int)) (fun j hj => by have := hR j hj; show (R j : Int) ≤ (U : Int); omega) hL 4
  have e : ∀ j, j < 5 → ((sj_f A L (fun j => (R j : Int)) 4 j).toNat : Int) = sj_f A L (fun j => (R j : Int)) 4 j := by
    intro j hj
    have : (R j : Int) ≤ sj_f A L (fun j => (R j : Int)) 4 j := h.1 j hj
    omega
  refine ⟨fun j => (sj_f A L (fun j => (R j : Int)) 4 j).toNat, ⟨fun j hj => ?_, fun i j hi hj a => ?_, fun j hj => ?_⟩, fun j hj => ?_⟩
  · show (R j : Int) ≤ ((sj_f A L (fun j => (R j : Int)) 4 j).toNat : Int)
    rw [e j hj]
    exact h.1 j hj
  · show ((sj_f A L (fun j => (R j : Int)) 4 i).toNat : Int) + (L i : Int) ≤ ((sj_f A L (fun j => (R j : Int)) 4 j).toNat : Int)
    rw [e j hj, e i hi]
    exact h.2.1 i j hi hj a
  · show ((sj_f A L (fun j => (R j : Int)) 4 j).toNat : Int) = (R j : Int) ∨ ∃ i, i < 5 ∧ A i j = true ∧ ((sj_f A L (fun j => (R j : Int)) 4 j).toNat : Int) = ((sj_f A L (fun j => (R j : Int)) 4 i).toNat : Int) + (L i : Int)
    rw [e j hj]
    rcases h.2.2 j hj with q | ⟨i, hi, a, q⟩
    · exact Or.inl q
    · exact Or.inr ⟨i, hi, a, by rw [e i hi]; exact q⟩
  · have u := up j hj
    have x := e j hj
    show (sj_f A L (fun j => (R j : Int)) 4 j).toNat ≤ U + 12
    omega
/-- what holds while the links are gone through a round long: P, the links that had their turn -/
def sj_ri (A : Nat → Nat → Bool) (L : Nat → Nat) (B F : Nat → Int) (rk : Nat → Nat) (r : Nat) (P : Nat → Nat → Prop) (v : Nat → Int) : Prop :=
  (∀ j, j < 5 → B j ≤ v j ∧ v j ≤ F j) ∧ (∀ j, j < 5 → rk j < r → v j = F j) ∧ (∀ i j, i < 5 → j < 5 → A i j = true → P i j → rk j = r → F i + (L i : Int) ≤ v j)
section
variable {A : Nat → Nat → Bool} {L : Nat → Nat} {B F : Nat → Int} {rk : Nat → Nat}
theorem sj_ri0 (hF : sj_isF A L B F) (hrk : sj_ord A rk) {P : Nat → Nat → Prop} (hP : ∀ i j, ¬ P i j) {v : Nat → Int} (hv : ∀ j, j < 5 → v j = B j) : sj_ri A L B F rk 1 P v := by
  refine ⟨fun j hj => ?_, fun j hj hr => ?_, fun i j _ _ _ p => absurd p (hP i j)⟩
  · rw [hv j hj]
    exact ⟨Int.le_refl _, hF.1 j hj⟩
  · rw [hv j hj]
    rcases hF.2.2 j hj with e | ⟨i, hi, a, -⟩
    · exact e.symm
    · have := hrk i j hi hj a
      omega
theorem sj_riup (hF : sj_isF A L B F) (hrk : sj_ord A rk) {r : Nat} {P P' : Nat → Nat → Prop} {v v' : Nat → Int} {i j : Nat} (h : sj_ri A L B F rk r P v) (hi : i < 5) (hj : j < 5)
    (a : A i j = true) (lt : v j < v i + (L i : Int)) (e1 : v' j = v i + (L i : Int)) (e2 : ∀ k, k < 5 → k ≠ j → v' k = v k) (hP : ∀ x y, P' x y → P x y ∨ (x = i ∧ y = j)) : sj_ri A L B F rk r P' v' := by
  obtain ⟨h1, h2, h3⟩ := h
  have vi := h1 i hi
  have vj := h1 j hj
  have f := hF.2.1 i j hi hj a
  have nr : ¬ rk j < r := by
    intro q
    have := h2 j hj q
    omega
  have ge : ∀ k, k < 5 → v k ≤ v' k := by
    intro k hk
    by_cases e : k = j
    · subst e; omega
    · rw [e2 k hk e]; exact Int.le_refl _
  refine ⟨fun k hk => ?_, fun k hk q => ?_, fun x y hx hy axy p q => ?_⟩
  · by_cases e : k = j
    · subst e; omega
    · rw [e2 k hk e]; exact h1 k hk
  · have e : k ≠ j := by
      intro e
      subst e
      exact nr q
    rw [e2 k hk e]; exact h2 k hk q
  · rcases hP x y p with p | ⟨rfl, rfl⟩
    · exact Int.le_trans (h3 x y hx hy axy p q) (ge y hy)
    · have w := hrk x y hi hj a
      have := h2 x hi (by omega)
      omega
theorem sj_rino (hrk : sj_ord A rk) {r : Nat} {P P' : Nat → Nat → Prop} {v : Nat → Int} {i j : Nat} (h : sj_ri A L B F rk r P v) (hi : i < 5)
    (n : A i j = true → v i + (L i : Int) ≤ v j) (hP : ∀ x y, P' x y → P x y ∨ (x = i ∧ y = j)) : sj_ri A L B F rk r P' v := by
  obtain ⟨h1, h2, h3⟩ := h
  refine ⟨h1, h2, fun x y hx hy axy p q => ?_⟩
  rcases hP x y p with p | ⟨rfl, rfl⟩
  · exact h3 x y hx hy axy p q
  · have w := hrk x y hx hy axy
    have e := h2 x hx (by omega)
    have := n axy
    omega
theorem sj_ris {r : Nat} {P P' : Nat → Nat → Prop} {v : Nat → Int} (h : sj_ri A L B F rk r P v) (hP : ∀ x y, x < 5 → y < 5 → A x y = true → P' x y → P x y) : sj_ri A L B F rk r P' v :=
  ⟨h.1, h.2.1, fun x y hx hy a p q => h.2.2 x y hx hy a (hP x y hx hy a p) q⟩
theorem sj_rinx (hF : sj_isF A L B F) {r : Nat} {P P' : Nat → Nat → Prop} {v : Nat → Int} (h : sj_ri A L B F rk r P v) (hP : ∀ x y, x < 5 → y < 5 → A x y = true → P x y) (hN : ∀ x y, ¬ P' x y) : sj_ri A L B F rk (r + 1) P' v := by
  obtain ⟨h1, h2, h3⟩ := h
  refine ⟨h1, fun j hj q => ?_, fun x y _ _ _ p => absurd p (hN x y)⟩
  by_cases e : rk j < r
  · exact h2 j hj e
  · have b := h1 j hj
    rcases hF.2.2 j hj with f | ⟨i, hi, a, f⟩
    · omega
    · have := h3 i j hi hj a (hP i j hi hj a) (by omega)
      omega
theorem sj_ri5 (h4 : ∀ j, j < 5 → rk j ≤ 4) {P : Nat → Nat → Prop} {v : Nat → Int} (h : sj_ri A L B F rk 5 P v) : ∀ j, j < 5 → v j = F j :=
  fun j hj => h.2.1 j hj (by have := h4 j hj; omega)
/-- an order at most four deep -/
theorem sj_rk4 (h : sj_ord A rk) : ∃ rk' : Nat → Nat, (∀ j, j < 5 → rk' j ≤ 4) ∧ sj_ord A rk' := by
  refine ⟨fun i => sj_S (fun k => if rk k < rk i then 1 else 0), fun j hj => ?_, fun i j hi hj a => ?_⟩
  · show sj_S (fun k => if rk k < rk j then 1 else 0) ≤ 4
    have lt : sj_S (fun k => if rk k < rk j then 1 else 0) < sj_S (fun _ => 1) := by
      refine sj_Slt (j := j) (fun i _ => ?_) hj ?_
      · show (if rk i < rk j then 1 else 0) ≤ 1
        split <;> omega
      · show (if rk j < rk j then 1 else 0) < 1
        rw [if_neg (by omega)]
        omega
    have e : sj_S (fun _ => 1) = 5 := rfl
    omega
  · have w := h i j hi hj a
    show sj_S (fun k => if rk k < rk i then 1 else 0) < sj_S (fun k => if rk k < rk j then 1 else 0)
    refine sj_Slt (j := i) (fun k _ => ?_) hi ?_
    · show (if rk k < rk i then 1 else 0) ≤ (if rk k < rk j then 1 else 0)
      by_cases c : rk k < rk i
      · rw [if_pos c, if_pos (by omega)]; exact Nat.le_refl _
      · rw [if_neg c]; exact Nat.zero_le _
    · show (if rk i < rk i then 1 else 0) < (if rk i < rk j then 1 else 0)
      rw [if_neg (by omega), if_pos w]
      omega
end
/-! ===== what is reached along links ===== -/
def sj_C (A : Nat → Nat → Bool) (j k : Nat) : Prop := ∀ Q : Nat → Prop, Q j → (∀ x y, x < 5 → y < 5 → A x y = true → Q x → Q y) → Q k
section
variable {A : Nat → Nat → Bool} {rk : Nat → Nat}
theorem sj_Cs (j : Nat) : sj_C A j j := fun _ h _ => h
theorem sj_Cn {j x y : Nat} (hx : x < 5) (hy : y < 5) (a : A x y = true) (h : sj_C A j x) : sj_C A j y := fun Q h0 hc => hc x y hx hy a (h Q h0 hc)
theorem sj_Cp {j k : Nat} (h : sj_C A j k) (ne : k ≠ j) : ∃ i, i < 5 ∧ sj_C A j i ∧ A i k = true := by
  apply Classical.byContradiction
  intro n
  have := h (fun x => sj_C A j x ∧ x ≠ k) ⟨sj_Cs j, fun e => ne e.symm⟩ (fun x y hx hy a q => ⟨sj_Cn hx hy a q.1, fun e => n ⟨x, hx, q.1, e ▸ a⟩⟩)
  exact this.2 rfl
theorem sj_rknew (h : sj_ord A rk) {i j : Nat} (hn : ¬ sj_C A j i) {A' : Nat → Nat → Bool}
    (hA : ∀ x y, x < 5 → y < 5 → A' x y = true → A x y = true ∨ (x = i ∧ y = j)) : ∃ rk' : Nat → Nat, sj_ord A' rk' := by
  classical
  refine ⟨fun k => if sj_C A j k then rk k + (rk i + 1) else rk k, fun x y hx hy a => ?_⟩
  show (if sj_C A j x then rk x + (rk i + 1) else rk x) < (if sj_C A j y then rk y + (rk i + 1) else rk y)
  rcases hA x y hx hy a with a | ⟨rfl, rfl⟩
  · have w := h x y hx hy a
    by_cases c : sj_C A j x
    · rw [if_pos c, if_pos (sj_Cn hx hy a c)]; omega
    · rw [if_neg c]
      split <;> omega
  · rw [if_neg hn, if_pos (sj_Cs y)]
    omega
end
end
section
/-! ===== what the most-urgent-first walk rests on ===== -/
def sj_hl (H : Nat → Bool) (L F : Nat → Nat) (E : Nat → Int) : Prop :=
  ∀ (a : Nat) (d : Int) (J : Nat → Bool), (∀ j, j < 5 → J j = true → H j = true ∧ a ≤ F j ∧ E j ≤ d) → sj_S (fun i => if J i = true then L i else 0) = 0 ∨ ((sj_S (fun i => if J i = true then L i else 0) : Nat) : Int) + (a : Int) ≤ d
def sj_inst (H : Nat → Bool) (L R : Nat → Nat) (A : Nat → Nat → Bool) (M K : Nat → Nat → Prop) (F : Nat → Nat) (E : Nat → Int) : Prop :=
  (∀ j, j < 5 → H j = true → 1 ≤ L j ∧ L j ≤ 3) ∧ (∀ i j, i < 5 → j < 5 → A i j = true → H i = true ∧ F i + L i ≤ F j ∧ E i < E j) ∧
  (∀ j, j < 5 → H j = true → R j ≤ F j) ∧ (∀ j t : Nat, j < 5 → H j = true → t < 33 → (t : Int) + 1 ≤ E j → M j t ∧ K j (t + 1)) ∧
  (∀ j, j < 5 → H j = true → E j ≤ 33) ∧ (sj_rc H L R A M K 34 (sj_fc H L) → sj_hl H L F E)
section
variable {H : Nat → Bool} {L R : Nat → Nat} {A : Nat → Nat → Bool} {M K : Nat → Nat → Prop} {F : Nat → Nat} {E : Nat → Int}
theorem sj_mk (hL : ∀ j, j < 5 → H j = true → 1 ≤ L j ∧ L j ≤ 3) (hR : ∀ j, j < 5 → H j = true → R j ≤ 18)
    (hM : ∀ j t, j < 5 → H j = true → M j (t + 1) → M j t) (hK : ∀ j t, j < 5 → H j = true → K j (t + 2) → K j (t + 1))
    (hAH : ∀ i j, i < 5 → j < 5 → A i j = true → H i = true ∧ H j = true) (D : Nat → Int) (hD3 : ∀ j, j < 5 → D j ≤ 33)
    (hD : ∀ j t : Nat, j < 5 → H j = true → t < 33 → ((M j t ∧ K j (t + 1)) ↔ (t : Int) + 1 ≤ D j))
    (hF : sj_isF A L (fun j => (R j : Int)) (fun j => (F j : Int))) (hE : sj_isF (fun i j => A j i) L (fun j => - D j) (fun j => - E j)) : sj_inst H L R A M K F E := by
  have hED : ∀ j, j < 5 → E j ≤ D j := by
    intro j hj
    have : - D j ≤ - E j := hE.1 j hj
    omega
  refine ⟨hL, fun i j hi hj a => ?_, fun j hj hH => ?_, fun j t hj hH ht le => ?_, fun j hj _ => ?_, fun rc => ?_⟩
  · have f : (F i : Int) + (L i : Int) ≤ (F j : Int) := hF.2.1 i j hi hj a
    have e : - E j + (L j : Int) ≤ - E i := hE.2.1 j i hj hi a
    obtain ⟨a1, a2⟩ := hAH i j hi hj a
    have l := hL j hj a2
    exact ⟨a1, by omega, by omega⟩
  · have f : (R j : Int) ≤ (F j : Int) := hF.1 j hj
    omega
  · have := hED j hj
    exact (hD j t hj hH ht).mpr (by omega)
  · have := hED j hj
    have := hD3 j hj
    omega
  · obtain ⟨σ, hσ, hT⟩ := sj_path 33 _ (sj_shift hL hR hM hK rc)
    have fw := sj_fwd (M := M) (K := K) (R := R) (A := A) hL F (fun j hj hH => by
      rcases (show (F j : Int) = (R j : Int) ∨ ∃ i, i < 5 ∧ A i j = true ∧ (F j : Int) = (F i : Int) + (L i : Int) from hF.2.2 j hj) with f | ⟨i, hi, a, f⟩
      · exact Or.inl (by omega)
      · exact Or.inr ⟨i, hi, (hAH i j hi hj a).1, a, by omega⟩)
    have bw := sj_bwd hL hσ hT E D (fun j hj hH => by
      rcases (show - E j = - D j ∨ ∃ k, k < 5 ∧ A j k = true ∧ - E j = - E k + (L k : Int) from hE.2.2 j hj) with f | ⟨k, hk, a, f⟩
      · exact Or.inl (by omega)
      · exact Or.inr ⟨k, hk, (hAH j k hj hk a).2, a, by omega⟩) (fun j t hj hH ht m k => (hD j t hj hH ht).mp ⟨m, k⟩)
    exact fun a d J hJ => sj_hall hL hσ hT F E fw bw a d J hJ
/-- the walk's state at unit t -/
def sj_gw (H : Nat → Bool) (L R : Nat → Nat) (A : Nat → Nat → Bool) (M K : Nat → Nat → Prop) (F : Nat → Nat) (E : Nat → Int) (t s : Nat) : Prop :=
  sj_rc H L R A M K t s ∧ sj_gi H L F E t s
theorem sj_w0 : sj_gw H L R A M K F E 0 0 := ⟨rfl, sj_g0⟩
theorem sj_wbd (I : sj_inst H L R A M K F E) {t s : Nat} (w : sj_gw H L R A M K F E t s) : s < 1024 ∧ ∀ j, j < 5 → sj_dg s j ≤ sj_x H L j := sj_bd I.1 t s w.1
theorem sj_wbl (I : sj_inst H L R A M K F E) {t s : Nat} (w : sj_gw H L R A M K F E t s) : ∀ j, j < 5 → H j = true → sj_dg s j ≤ L j := by
  intro j hj hH
  have := (sj_wbd I w).2 j hj
  rw [sj_xt hH] at this
  exact this
theorem sj_widle {t s : Nat} (w : sj_gw H L R A M K F E t s) (h : ∀ i, i < 5 → H i = true → F i ≤ t → L i ≤ sj_dg s i) : sj_gw H L R A M K F E (t + 1) s :=
  ⟨Or.inl w.1, sj_gidle h⟩
theorem sj_wstep (I : sj_inst H L R A M K F E) {t s id : Nat} (w : sj_gw H L R A M K F E t s) (ht : t < 33) (hid : id < 5) (hH : H id = true) (hd : sj_dg s id < L id) (hF : F id ≤ t)
    (hm : ∀ i, i < 5 → H i = true → sj_dg s i < L i → F i ≤ t → E id ≤ E i) (hE : (t : Int) < E id) : sj_gw H L R A M K F E (t + 1) (s + 4 ^ id) := by
  obtain ⟨hL, hA, hR, hMK, -, -⟩ := I
  obtain ⟨m, k⟩ := hMK id t hid hH ht (by omega)
  exact ⟨Or.inr ⟨id, s, sj_gok hL hA hR hid hH hd hF hm m k, w.1, rfl⟩, sj_gstep w.2 hid hH (hL id hid hH).2 hd hF hm⟩
theorem sj_wfail (I : sj_inst H L R A M K F E) {t s id : Nat} (w : sj_gw H L R A M K F E t s) (hid : id < 5) (hH : H id = true) (hd : sj_dg s id < L id) (hE : E id ≤ (t : Int)) :
    ¬ sj_rc H L R A M K 34 (sj_fc H L) :=
  fun rc => sj_gfail w.2 hid hH hd hE (sj_wbl I w) (I.2.2.2.2.2 rc)
theorem sj_wend (I : sj_inst H L R A M K F E) {s : Nat} (w : sj_gw H L R A M K F E 33 s) : sj_rc H L R A M K 34 (sj_fc H L) ↔ ∀ j, j < 5 → sj_dg s j = sj_x H L j := by
  constructor
  · intro rc j hj
    have b := (sj_wbd I w).2 j hj
    by_cases hH : H j = true
    · rcases Nat.lt_or_ge (sj_dg s j) (L j) with z | z
      · exact absurd rc (sj_wfail I w hj hH z (I.2.2.2.2.1 j hj hH))
      · rw [sj_xt hH] at b ⊢
        omega
    · rw [sj_xf hH] at b ⊢
      omega
  · intro h
    have e := sj_ext (sj_wbd I w).1 h
    rw [← e]
    exact Or.inl w.1
/-! ===== span ===== -/
def sj_wf (H : Nat → Bool) (L F : Nat → Nat) (a : Nat) : Nat := sj_S (fun k => if (H k && decide (a ≤ F k)) = true then L k else 0)
theorem sj_spanle (hL : ∀ j, j < 5 → H j = true → 1 ≤ L j ∧ L j ≤ 3) (hAH : ∀ i j, i < 5 → j < 5 → A i j = true → H i = true ∧ H j = true)
    (hF : sj_isF A L (fun j => (R j : Int)) (fun j => (F j : Int))) {T : Nat} (rc : sj_rc H L R A M K T (sj_fc H L)) : ∀ i, i < 5 → H i = true → F i + sj_wf H L F (F i) ≤ T := by
  intro i hi hH
  obtain ⟨σ, hσ, hT⟩ := sj_path T _ rc
  have fw := sj_fwd (M := M) (K := K) (R := R) (A := A) hL F (fun j hj hH => by
      rcases (show (F j : Int) = (R j : Int) ∨ ∃ i, i < 5 ∧ A i j = true ∧ (F j : Int) = (F i : Int) + (L i : Int) from hF.2.2 j hj) with f | ⟨i, hi, a, f⟩
      · exact Or.inl (by omega)
      · exact Or.inr ⟨i, hi, (hAH i j hi hj a).1, a, by omega⟩)
  have bw := sj_bwd hL hσ hT (fun _ => (T : Int)) (fun _ => (T : Int)) (fun j hj hH => Or.inl (Int.le_refl _)) (fun j t hj hH ht m k => by omega)
  have h := sj_hall hL hσ hT F (fun _ => (T : Int)) fw bw (F i) (T : Int) (fun k => H k && decide (F i ≤ F k)) (fun j hj q => by
    simp at q
    exact ⟨q.1, q.2, Int.le_refl _⟩)
  have pos : sj_S (fun _ => 0) < sj_wf H L F (F i) := by
    refine sj_Slt (j := i) (fun k _ => Nat.zero_le _) hi ?_
    show 0 < if (H i && decide (F i ≤ F i)) = true then L i else 0
    rw [if_pos (by simp [hH])]
    have := hL i hi hH
    omega
  have e : sj_S (fun _ => 0) = 0 := rfl
  have h' : sj_wf H L F (F i) = 0 ∨ ((sj_wf H L F (F i) : Nat) : Int) + (F i : Int) ≤ (T : Int) := h
  omega
theorem sj_spange (hL : ∀ j, j < 5 → H j = true → 1 ≤ L j ∧ L j ≤ 3) (hAH : ∀ i j, i < 5 → j < 5 → A i j = true → H i = true ∧ H j = true)
    (hF : sj_isF A L (fun j => (R j : Int)) (fun j => (F j : Int))) {T : Nat} (hMK : ∀ j t, j < 5 → H j = true → t < T → M j t ∧ K j (t + 1))
    (h : ∀ i, i < 5 → H i = true → F i + sj_wf H L F (F i) ≤ T) : sj_rc H L R A M K T (sj_fc H L) := by
  have g : ∀ t, t ≤ T → ∃ s, sj_rc H L R A M K t s ∧ sj_gi H L F (fun i => (F i : Int)) t s := by
    intro t
    induction t with
    | zero => exact fun _ => ⟨0, rfl, sj_g0⟩
    | succ t ih =>
      intro ht
      obtain ⟨s, rc, gi⟩ := ih (by omega)
      by_cases c : ∃ i, i < 5 ∧ (H i = true ∧ sj_dg s i < L i ∧ F i ≤ t)
      · obtain ⟨id, hid, ⟨hH, hd, hf⟩, hm⟩ := sj_min5 (fun i => H i = true ∧ sj_dg s i < L i ∧ F i ≤ t) F c
        obtain ⟨m, k⟩ := hMK id t hid hH (by omega)
        have hm' : ∀ i, i < 5 → H i = true → sj_dg s i < L i → F i ≤ t → (F id : Int) ≤ (F i : Int) := by
          intro i hi a b c
          have := hm i hi ⟨a, b, c⟩
          omega
        refine ⟨s + 4 ^ id, Or.inr ⟨id, s, sj_gok (E := fun i => (F i : Int)) hL (fun i j hi hj a => ?_) (fun j hj _ => ?_) hid hH hd hf hm' m k, rc, rfl⟩, sj_gstep gi hid hH (hL id hid hH).2 hd hf hm'⟩
        · have f : (F i : Int) + (L i : Int) ≤ (F j : Int) := hF.2.1 i j hi hj a
          obtain ⟨a1, a2⟩ := hAH i j hi hj a
          have l := hL i hi a1
          exact ⟨a1, by omega, by show (F i : Int) < (F j : Int); omega⟩
        · have f : (R j : Int) ≤ (F j : Int) := hF.1 j hj
          omega
      · refine ⟨s, Or.inl rc, sj_gidle (fun i hi hH hf => ?_)⟩
        rcases Nat.lt_or_ge (sj_dg s i) (L i) with z | z
        · exact absurd ⟨i, hi, hH, z, hf⟩ c
        · exact z
  obtain ⟨s, rc, gi⟩ := g T (Nat.le_refl _)
  obtain ⟨b1, b2⟩ := sj_bd hL T s rc
  have all : ∀ j, j < 5 → sj_dg s j = sj_x H L j := by
    intro j hj
    have b := b2 j hj
    by_cases hH : H j = true
    · rw [sj_xt hH] at b ⊢
      rcases Nat.lt_or_ge (sj_dg s j) (L j) with z | z
      · exfalso
        obtain ⟨a, ha, h1, h2⟩ := gi (((F 0 + F 1 + F 2 + F 3 + F 4 : Nat)) : Int)
        have big : ∀ k, k < 5 → (F k : Int) ≤ ((F 0 + F 1 + F 2 + F 3 + F 4 : Nat) : Int) := sj_lt5 (by omega) (by omega) (by omega) (by omega) (by omega)
        have fa : a ≤ F j := by
          rcases Nat.lt_or_ge (F j) a with q | q
          · have := h1 j hj hH (big j hj) q
            omega
          · exact q
        obtain ⟨m, hm, ⟨mH, ma⟩, mm⟩ := sj_min5 (fun k => H k = true ∧ a ≤ F k) F ⟨j, hj, hH, fa⟩
        have q := h m hm mH
        have h2' : T ≤ a + sj_S (fun i => if (H i && decide (a ≤ F i) && decide ((F i : Int) ≤ ((F 0 + F 1 + F 2 + F 3 + F 4 : Nat) : Int))) = true then sj_dg s i else 0) := h2
        have lt : sj_S (fun i => if (H i && decide (a ≤ F i) && decide ((F i : Int) ≤ ((F 0 + F 1 + F 2 + F 3 + F 4 : Nat) : Int))) = true then sj_dg s i else 0) < sj_wf H L F (F m) := by
          refine sj_Slt (j := j) (fun i hi => ?_) hj ?_
          · show (if (H i && decide (a ≤ F i) && decide ((F i : Int) ≤ ((F 0 + F 1 + F 2 + F 3 + F 4 : Nat) : Int))) = true then sj_dg s i else 0) ≤ (if (H i && decide (F m ≤ F i)) = true then L i else 0)
            by_cases c : (H i && decide (a ≤ F i) && decide ((F i : Int) ≤ ((F 0 + F 1 + F 2 + F 3 + F 4 : Nat) : Int))) = true
            · obtain ⟨c1, c2, -⟩ := sj_Jd (E := fun i => (F i : Int)) c
              have bi := b2 i hi
              rw [sj_xt c1] at bi
              rw [if_pos c, if_pos (by simp [c1, mm i hi ⟨c1, c2⟩])]
              exact bi
            · rw [if_neg c]
              exact Nat.zero_le _
          · show (if (H j && decide (a ≤ F j) && decide ((F j : Int) ≤ ((F 0 + F 1 + F 2 + F 3 + F 4 : Nat) : Int))) = true then sj_dg s j else 0) < (if (H j && decide (F m ≤ F j)) = true then L j else 0)
            rw [if_pos (sj_Jt (E := fun i => (F i : Int)) hH fa (big j hj)), if_pos (by simp [hH, mm j hj ⟨hH, fa⟩])]
            exact z
        omega
      · omega
    · rw [sj_xf hH] at b ⊢
      omega
  have e := sj_ext b1 all
  rw [← e]
  exact rc
end
end
section
/-! ===== numbers: what the arrays hold ===== -/
def sj_N (a : Nat → Int32) (j : Nat) : Nat := (a j).toNatClampNeg
/-- the first five cells are at most m -/
def sj_le (a : Nat → Int32) (m : Nat) : Prop := ∀ j, j < 5 → ∃ n, n ≤ m ∧ a j = nI n
theorem sj_Ne {a : Nat → Int32} {m : Nat} (h : sj_le a m) (hm : m < 2 ^ 31) {j : Nat} (hj : j < 5) : a j = nI (sj_N a j) ∧ sj_N a j ≤ m := by
  obtain ⟨n, hn, e⟩ := h j hj
  have q : sj_N a j = n := by unfold sj_N; rw [e, nI_clamp (by omega)]
  rw [q]
  exact ⟨e, hn⟩
theorem sj_NI {a : Nat → Int32} {j n : Nat} (e : a j = nI n) (hn : n < 2 ^ 31) : sj_N a j = n := by unfold sj_N; rw [e, nI_clamp hn]
theorem sj_us {f : Nat → Int32} {k : Nat} {x : Int32} : upd f k x k = x := if_pos rfl
theorem sj_un {f : Nat → Int32} {k j : Nat} {x : Int32} (h : j ≠ k) : upd f k x j = f j := if_neg h
theorem sj_leU {a : Nat → Int32} {m k n : Nat} (h : sj_le a m) (hn : n ≤ m) : sj_le (upd a k (nI n)) m := by
  intro j hj
  by_cases e : j = k
  · subst e; exact ⟨n, hn, sj_us⟩
  · rw [sj_un e]; exact h j hj
theorem sj_le0 (m : Nat) : sj_le (fun _ => 0) m := fun _ _ => ⟨0, Nat.zero_le _, rfl⟩
theorem sj_leW {a : Nat → Int32} {m m' : Nat} (h : sj_le a m) (hm : m ≤ m') : sj_le a m' := fun j hj => by
  obtain ⟨n, hn, e⟩ := h j hj
  exact ⟨n, by omega, e⟩
/-! ===== the cost of a job ===== -/
def sj_c32 (k d w t : Int32) : Int32 := if k = 1 then w * (t - d) else if t - d ≤ 0 then 0 else if k = 0 then w * (t - d) else if k = 2 then 20 * w else 1000
def sj_cost (k d w t : Nat) : Int := if k = 1 then (w : Int) * ((t : Int) - d) else if (t : Int) - d ≤ 0 then 0 else if k = 0 then (w : Int) * ((t : Int) - d) else if k = 2 then 20 * (w : Int) else 1000
theorem sj_cmul {d w t : Nat} (hd : d ≤ 30) (hw : w ≤ 5) (ht : t ≤ 60) : (nI w * (nI t - nI d)).toInt = (w : Int) * ((t : Int) - d) := by
  have e1 : (nI t - nI d).toInt = (t : Int) - d := by
    rw [Int32.toInt_sub, nI_toInt (by omega), nI_toInt (by omega)]
    exact Int.bmod_eq_of_le (by omega) (by omega)
  rw [Int32.toInt_mul, e1, nI_toInt (by omega)]
  have c : w = 0 ∨ w = 1 ∨ w = 2 ∨ w = 3 ∨ w = 4 ∨ w = 5 := by omega
  rcases c with rfl | rfl | rfl | rfl | rfl | rfl <;> exact Int.bmod_eq_of_le (by omega) (by omega)
theorem sj_c20 : ∀ w, w ≤ 5 → ((20 : Int32) * nI w).toInt = 20 * (w : Int) := by
  intro w hw
  have c : w = 0 ∨ w = 1 ∨ w = 2 ∨ w = 3 ∨ w = 4 ∨ w = 5 := by omega
  rcases c with rfl | rfl | rfl | rfl | rfl | rfl <;> decide
theorem sj_cI {k d w t : Nat} (hk : k ≤ 3) (hd : d ≤ 30) (hw : w ≤ 5) (ht : t ≤ 60) : (sj_c32 (nI k) (nI d) (nI w) (nI t)).toInt = sj_cost k d w t := by
  have e1 : (nI t - nI d).toInt = (t : Int) - d := by
    rw [Int32.toInt_sub, nI_toInt (by omega), nI_toInt (by omega)]
    exact Int.bmod_eq_of_le (by omega) (by omega)
  have z : (0 : Int32).toInt = 0 := by decide
  have c1 : (nI k = 1) ↔ k = 1 := nI_eq (b := 1) (by omega) (by omega)
  have c0 : (nI k = 0) ↔ k = 0 := nI_eq (b := 0) (by omega) (by omega)
  have c2 : (nI k = 2) ↔ k = 2 := nI_eq (b := 2) (by omega) (by omega)
  have cl : (nI t - nI d ≤ 0) ↔ (t : Int) - d ≤ 0 := by rw [Int32.le_iff_toInt_le, e1, z]
  unfold sj_c32 sj_cost
  by_cases h1 : k = 1
  · rw [if_pos (c1.mpr h1), if_pos h1]; exact sj_cmul hd hw ht
  · rw [if_neg (fun q => h1 (c1.mp q)), if_neg h1]
    by_cases h2 : (t : Int) - d ≤ 0
    · rw [if_pos (cl.mpr h2), if_pos h2]; exact z
    · rw [if_neg (fun q => h2 (cl.mp q)), if_neg h2]
      by_cases h3 : k = 0
      · rw [if_pos (c0.mpr h3), if_pos h3]; exact sj_cmul hd hw ht
      · rw [if_neg (fun q => h3 (c0.mp q)), if_neg h3]
        by_cases h4 : k = 2
        · rw [if_pos (c2.mpr h4), if_pos h4]; exact sj_c20 w hw
        · rw [if_neg (fun q => h4 (c2.mp q)), if_neg h4]; decide
theorem sj_cmono {k d w t : Nat} (hw : w ≤ 5) : sj_cost k d w t ≤ sj_cost k d w (t + 1) := by
  unfold sj_cost
  have c : w = 0 ∨ w = 1 ∨ w = 2 ∨ w = 3 ∨ w = 4 ∨ w = 5 := by omega
  rcases c with rfl | rfl | rfl | rfl | rfl | rfl <;> (repeat' split) <;> omega
theorem sj_cmonoL {k d w : Nat} (hw : w ≤ 5) {t T : Nat} (h : t ≤ T) : sj_cost k d w t ≤ sj_cost k d w T := by
  induction T with
  | zero =>
    obtain rfl : t = 0 := by omega
    exact Int.le_refl _
  | succ T ih =>
    by_cases e : t = T + 1
    · subst e; exact Int.le_refl _
    · exact Int.le_trans (ih (by omega)) (sj_cmono hw)
theorem sj_cr {k d w t : Nat} (hd : d ≤ 30) (hw : w ≤ 5) (ht : t ≤ 60) : -150 ≤ sj_cost k d w t ∧ sj_cost k d w t ≤ 1000 := by
  unfold sj_cost
  have c : w = 0 ∨ w = 1 ∨ w = 2 ∨ w = 3 ∨ w = 4 ∨ w = 5 := by omega
  rcases c with rfl | rfl | rfl | rfl | rfl | rfl <;> (repeat' split) <;> omega
/-- what a last time tells -/
theorem sj_dl {k d w D : Nat} {b : Int} (hw : w ≤ 5) (h0 : D = 0 ∨ sj_cost k d w D ≤ b) (h1 : ∀ t, D < t → t ≤ 33 → ¬ sj_cost k d w t ≤ b) :
    ∀ t, t < 33 → (sj_cost k d w (t + 1) ≤ b ↔ (t : Int) + 1 ≤ (D : Int)) := by
  intro t ht
  constructor
  · intro c
    rcases Nat.lt_or_ge D (t + 1) with z | z
    · exact absurd c (h1 (t + 1) z (by omega))
    · omega
  · intro c
    have q : t + 1 ≤ D := by omega
    rcases h0 with e | e
    · omega
    · exact Int.le_trans (sj_cmonoL hw q) e
/-! ===== the instance that a state holds ===== -/
def sj_A (p : Nat) (af : Nat → Int32) (i j : Nat) : Bool := p.testBit i && (p.testBit j && (sj_N af i).testBit j)
def sj_K (kin due wt : Nat → Int32) (b : Int) (j t : Nat) : Prop := sj_cost (sj_N kin j) (sj_N due j) (sj_N wt j) t ≤ b
def sj_G (p : Nat) (rel len kin due wt af : Nat → Int32) (M : Nat → Nat → Prop) (b : Int) (t s : Nat) : Prop :=
  sj_rc p.testBit (sj_N len) (sj_N rel) (sj_A p af) M (sj_K kin due wt b) t s
def sj_Fu (p : Nat) (len : Nat → Int32) : Nat := sj_fc p.testBit (sj_N len)
def sj_M0 (_ _ : Nat) : Prop := True
/-- the bounds of all that is held -/
def sj_bnd (p : Nat) (rel len kin due wt : Nat → Int32) : Prop :=
  p < 32 ∧ sj_le rel 18 ∧ sj_le len 3 ∧ sj_le kin 3 ∧ sj_le due 30 ∧ sj_le wt 5 ∧ (∀ j, j < 5 → p.testBit j = true → 1 ≤ sj_N len j)
theorem sj_At {p : Nat} {af : Nat → Int32} {i j : Nat} (h : sj_A p af i j = true) : p.testBit i = true ∧ p.testBit j = true ∧ (sj_N af i).testBit j = true := by
  unfold sj_A at h
  simp at h
  exact ⟨h.1, h.2.1, h.2.2⟩
theorem sj_hL {p : Nat} {rel len kin due wt : Nat → Int32} (h : sj_bnd p rel len kin due wt) : ∀ j, j < 5 → p.testBit j = true → 1 ≤ sj_N len j ∧ sj_N len j ≤ 3 :=
  fun j hj q => ⟨h.2.2.2.2.2.2 j hj q, (sj_Ne h.2.2.1 (by omega) hj).2⟩
end
section
/-! ===== the table of the reference ===== -/
def sj_T (be : Nat → Int32) (Q : Int → Nat → Prop) : Prop :=
  ∀ x, x < 1024 → (-2000 ≤ (be x).toInt ∧ (be x).toInt ≤ 9999) ∧ ∀ b : Int, -2000 ≤ b → b ≤ 9998 → ((be x).toInt ≤ b ↔ Q b x)
theorem sj_Te {be : Nat → Int32} {Q Q' : Int → Nat → Prop} (h : sj_T be Q) (e : ∀ b x, x < 1024 → -2000 ≤ b → b ≤ 9998 → (Q b x ↔ Q' b x)) : sj_T be Q' :=
  fun x hx => ⟨(h x hx).1, fun b b1 b2 => ((h x hx).2 b b1 b2).trans (e b x hx b1 b2)⟩
theorem sj_Tput {be : Nat → Int32} {Q : Int → Nat → Prop} (h : sj_T be Q) {to : Nat} (ht : to < 1024) {c : Int32} (c1 : -2000 ≤ c.toInt) (c2 : c.toInt ≤ 9999) {N : Int → Prop}
    (hc : ∀ b : Int, -2000 ≤ b → b ≤ 9998 → (c.toInt ≤ b ↔ N b)) {v : Int32} (hv : (c < be to → v = c) ∧ (¬ c < be to → v = be to)) : sj_T (upd be to v) (fun b x => Q b x ∨ (x = to ∧ N b)) := by
  intro x hx
  obtain ⟨⟨h1, h2⟩, h3⟩ := h x hx
  by_cases e : x = to
  · subst e
    rw [sj_us]
    have lt : (c < be x) ↔ c.toInt < (be x).toInt := Int32.lt_iff_toInt_lt
    by_cases q : c < be x
    · rw [hv.1 q]
      have q' := lt.mp q
      refine ⟨⟨c1, c2⟩, fun b b1 b2 => ?_⟩
      rw [hc b b1 b2]
      constructor
      · exact fun z => Or.inr ⟨rfl, z⟩
      · rintro (z | ⟨-, z⟩)
        · have := (h3 b b1 b2).mpr z
          exact (hc b b1 b2).mp (by omega)
        · exact z
    · rw [hv.2 q]
      have q' : ¬ c.toInt < (be x).toInt := fun z => q (lt.mpr z)
      refine ⟨⟨h1, h2⟩, fun b b1 b2 => ?_⟩
      rw [h3 b b1 b2]
      constructor
      · exact fun z => Or.inl z
      · rintro (z | ⟨-, z⟩)
        · exact z
        · have := (hc b b1 b2).mpr z
          exact (h3 b b1 b2).mp (by omega)
  · rw [sj_un e]
    refine ⟨⟨h1, h2⟩, fun b b1 b2 => ?_⟩
    rw [h3 b b1 b2]
    constructor
    · exact fun z => Or.inl z
    · rintro (z | ⟨z, -⟩)
      · exact z
      · exact absurd z e
/-- codes from c on have had their turn at unit t -/
def sj_Q (H : Nat → Bool) (L R : Nat → Nat) (A : Nat → Nat → Bool) (M : Nat → Nat → Prop) (K : Int → Nat → Nat → Prop) (t c : Nat) (b : Int) (x : Nat) : Prop :=
  sj_rc H L R A M (K b) t x ∨ ∃ j s', c ≤ s' ∧ sj_ok H L R A M (K b) t s' j ∧ sj_rc H L R A M (K b) t s' ∧ x = s' + 4 ^ j
def sj_Qj (H : Nat → Bool) (L R : Nat → Nat) (A : Nat → Nat → Bool) (M : Nat → Nat → Prop) (K : Int → Nat → Nat → Prop) (t s n : Nat) (b : Int) (x : Nat) : Prop :=
  sj_Q H L R A M K t (s + 1) b x ∨ ∃ j, j < n ∧ sj_ok H L R A M (K b) t s j ∧ sj_rc H L R A M (K b) t s ∧ x = s + 4 ^ j
section
variable {H : Nat → Bool} {L R : Nat → Nat} {A : Nat → Nat → Bool} {M : Nat → Nat → Prop} {K : Int → Nat → Nat → Prop}
theorem sj_Qs (hL : ∀ j, j < 5 → H j = true → 1 ≤ L j ∧ L j ≤ 3) {t : Nat} (b : Int) (x : Nat) : sj_rc H L R A M (K b) t x ↔ sj_Q H L R A M K t (sj_fc H L + 1) b x := by
  constructor
  · exact fun h => Or.inl h
  · rintro (h | ⟨j, s', hs, -, h, -⟩)
    · exact h
    · obtain ⟨b1, b2⟩ := sj_bd hL t s' h
      have := sj_lefc b1 b2
      omega
theorem sj_Qe {t : Nat} (b : Int) (x : Nat) : sj_Q H L R A M K t 0 b x ↔ sj_rc H L R A M (K b) (t + 1) x := by
  constructor
  · rintro (h | ⟨j, s', -, ho, h, e⟩)
    · exact Or.inl h
    · exact Or.inr ⟨j, s', ho, h, e⟩
  · rintro (h | ⟨j, s', ho, h, e⟩)
    · exact Or.inl h
    · exact Or.inr ⟨j, s', Nat.zero_le _, ho, h, e⟩
theorem sj_Qx {t s c : Nat} (b : Int) (hs : s ≤ c) : sj_Q H L R A M K t c b s ↔ sj_rc H L R A M (K b) t s := by
  constructor
  · rintro (h | ⟨j, s', hc, -, -, e⟩)
    · exact h
    · have : 0 < 4 ^ j := Nat.pow_pos (by omega)
      omega
  · exact fun h => Or.inl h
theorem sj_Qj0 {t s : Nat} (b : Int) (x : Nat) : sj_Q H L R A M K t (s + 1) b x ↔ sj_Qj H L R A M K t s 0 b x := by
  constructor
  · exact fun h => Or.inl h
  · rintro (h | ⟨j, hj, -⟩)
    · exact h
    · omega
theorem sj_Qj5 {t s : Nat} (b : Int) (x : Nat) : sj_Qj H L R A M K t s 5 b x ↔ sj_Q H L R A M K t s b x := by
  constructor
  · rintro ((h | ⟨j, s', hc, ho, h, e⟩) | ⟨j, -, ho, h, e⟩)
    · exact Or.inl h
    · exact Or.inr ⟨j, s', by omega, ho, h, e⟩
    · exact Or.inr ⟨j, s, Nat.le_refl _, ho, h, e⟩
  · rintro (h | ⟨j, s', hc, ho, h, e⟩)
    · exact Or.inl (Or.inl h)
    · by_cases q : s' = s
      · subst q
        exact Or.inr ⟨j, ho.1, ho, h, e⟩
      · exact Or.inl (Or.inr ⟨j, s', by omega, ho, h, e⟩)
/-- a code that isn't reached has no turn -/
theorem sj_Qn {t s : Nat} (b : Int) (x : Nat) (n : ¬ sj_rc H L R A M (K b) t s) : sj_Q H L R A M K t (s + 1) b x ↔ sj_Q H L R A M K t s b x := by
  constructor
  · rintro (h | ⟨j, s', hc, ho, h, e⟩)
    · exact Or.inl h
    · exact Or.inr ⟨j, s', by omega, ho, h, e⟩
  · rintro (h | ⟨j, s', hc, ho, h, e⟩)
    · exact Or.inl h
    · by_cases q : s' = s
      · subst q
        exact absurd h n
      · exact Or.inr ⟨j, s', by omega, ho, h, e⟩
theorem sj_Qjx {t s n : Nat} (b : Int) : sj_Qj H L R A M K t s n b s ↔ sj_rc H L R A M (K b) t s := by
  constructor
  · rintro (h | ⟨j, -, -, -, e⟩)
    · exact (sj_Qx b (by omega)).mp h
    · have : 0 < 4 ^ j := Nat.pow_pos (by omega)
      omega
  · exact fun h => Or.inl (Or.inl h)
/-- job j has its turn -/
theorem sj_Qjs {t s j : Nat} (b : Int) (x : Nat) : (sj_Qj H L R A M K t s j b x ∨ (x = s + 4 ^ j ∧ (sj_ok H L R A M (K b) t s j ∧ sj_rc H L R A M (K b) t s))) ↔ sj_Qj H L R A M K t s (j + 1) b x := by
  constructor
  · rintro ((h | ⟨i, hi, ho, h, e⟩) | ⟨e, ho, h⟩)
    · exact Or.inl h
    · exact Or.inr ⟨i, by omega, ho, h, e⟩
    · exact Or.inr ⟨j, by omega, ho, h, e⟩
  · rintro (h | ⟨i, hi, ho, h, e⟩)
    · exact Or.inl (Or.inl h)
    · by_cases q : i = j
      · subst q
        exact Or.inr ⟨e, ho, h⟩
      · exact Or.inl (Or.inr ⟨i, by omega, ho, h, e⟩)
theorem sj_Qjn {t s j : Nat} (b : Int) (x : Nat) (n : ¬ sj_ok H L R A M (K b) t s j) : sj_Qj H L R A M K t s j b x ↔ sj_Qj H L R A M K t s (j + 1) b x := by
  rw [← sj_Qjs]
  constructor
  · exact fun h => Or.inl h
  · rintro (h | ⟨-, ho, -⟩)
    · exact h
    · exact absurd ho n
end
/-- the first time that holds -/
def sj_FD (fd : Int32) (t : Nat) (Z : Nat → Prop) : Prop := (fd = -1 ∧ ∀ d, d ≤ t → ¬ Z d) ∨ ∃ d, d ≤ t ∧ fd = nI d ∧ Z d ∧ ∀ e, e < d → ¬ Z e
section
variable {H : Nat → Bool} {L R : Nat → Nat} {A : Nat → Nat → Bool} {M K : Nat → Nat → Prop}
/-- whoever can't finish isn't done -/
theorem sj_nofin (hL : ∀ j, j < 5 → H j = true → 1 ≤ L j ∧ L j ≤ 3) : ∀ t s, (∀ j u, j < 5 → H j = true → u < t → ¬ K j (u + 1)) → sj_rc H L R A M K t s → ∀ j, j < 5 → H j = true → sj_dg s j < L j := by
  intro t
  induction t with
  | zero =>
    intro s _ h j hj hH
    have h : s = 0 := h
    subst h
    have := hL j hj hH
    rw [sj_dgz]
    omega
  | succ t ih =>
    intro s hK h j hj hH
    have hK' : ∀ j u, j < 5 → H j = true → u < t → ¬ K j (u + 1) := fun j u hj hH hu => hK j u hj hH (by omega)
    rcases h with h | ⟨k, s', ⟨hk, hHk, h1, h2, h3, h4, h5⟩, h, rfl⟩
    · exact ih s hK' h j hj hH
    · have i0 := ih s' hK' h j hj hH
      have hl := hL k hk hHk
      by_cases e : j = k
      · subst e
        rw [sj_bumpS hk (by omega)]
        rcases Nat.lt_or_ge (sj_dg s' j + 1) (L j) with z | z
        · exact z
        · exact absurd (h5 (by omega)) (hK j t hj hH (by omega))
      · rw [sj_bumpO hk (by omega) hj e]
        exact i0
end
end
section
/-! rows pasted from the kit's PURE-ROWS -/
theorem pk_sub {a b : Nat} (h : b ≤ a) : nI a - nI b = nI (a - b) := by
  obtain ⟨c, rfl⟩ : ∃ c, a = c + b := ⟨a - b, by omega⟩
  rw [← nI_add, Int32.add_sub_cancel, Nat.add_sub_cancel]
theorem pk_m1 (n : Nat) : nI (n + 1) + (-1) = nI n := by
  rw [← nI_1, Int32.add_assoc, show (1 : Int32) + (-1) = 0 from rfl, Int32.add_zero]
theorem pk_mul (a b : Nat) : nI a * nI b = nI (a * b) := (Int32.ofNat_mul a b).symm
theorem pk_ix (x : Int32) {n : Nat} (hn : n < 2 ^ 31) : x < 0 ∨ nI n ≤ x ∨ ∃ j : Nat, j < n ∧ x = nI j := by
  by_cases h : x < 0
  · exact Or.inl h
  · obtain ⟨j, hj, rfl⟩ := nI_of h
    by_cases h2 : j < n
    · exact Or.inr (Or.inr ⟨j, h2, rfl⟩)
    · exact Or.inr (Or.inl (nI_le (by omega) hj))
theorem pk_tn {n : Nat} (h : n < 2 ^ 32) : (nI n).toBitVec.toNat = n := Nat.mod_eq_of_lt h
theorem pk_and (x : Int32) {m : Int32} (k : Nat) (hm : m.toBitVec.toNat = 2 ^ k - 1) : x &&& m = nI (x.toBitVec.toNat % 2 ^ k) := by
  apply Int32.toBitVec_inj.mp
  apply BitVec.eq_of_toNat_eq
  rw [Int32.toBitVec_and, BitVec.toNat_and, hm, Nat.and_two_pow_sub_one_eq_mod]
  show _ = (BitVec.ofNat 32 _).toNat
  rw [BitVec.toNat_ofNat]
  exact (Nat.mod_eq_of_lt (Nat.lt_of_le_of_lt (Nat.mod_le _ _) x.toBitVec.isLt)).symm
theorem pk_andN {n : Nat} (h : n < 2 ^ 32) {m : Int32} (k : Nat) (hm : m.toBitVec.toNat = 2 ^ k - 1) : nI n &&& m = nI (n % 2 ^ k) := by
  rw [pk_and _ k hm, pk_tn h]
theorem pk_shl (a s : Int32) (k : Nat) (hs : (s.toBitVec.smod 32).toNat = k) : (a <<< s).toBitVec.toNat = a.toBitVec.toNat * 2 ^ k % 2 ^ 32 := by
  show (a.toBitVec <<< (s.toBitVec.smod 32).toNat).toNat = _
  rw [hs, BitVec.toNat_shiftLeft, Nat.shiftLeft_eq]
theorem pk_shlN {n : Nat} (s : Int32) (k : Nat) (hs : (s.toBitVec.smod 32).toNat = k) (h : n * 2 ^ k < 2 ^ 32) : nI n <<< s = nI (n * 2 ^ k) := by
  apply Int32.toBitVec_inj.mp
  apply BitVec.eq_of_toNat_eq
  have hn : n < 2 ^ 32 := Nat.lt_of_le_of_lt (Nat.le_mul_of_pos_right n (Nat.two_pow_pos k)) h
  rw [pk_shl _ _ k hs, pk_tn hn, pk_tn h, Nat.mod_eq_of_lt h]
theorem pk_shr (a s : Int32) (k : Nat) (hs : (s.toBitVec.smod 32).toNat = k) : (a >>> s).toInt = a.toInt >>> k := by
  show (a.toBitVec.sshiftRight (s.toBitVec.smod 32).toNat).toInt = _
  rw [hs, BitVec.toInt_sshiftRight]
  rfl
theorem pk_shrN {n : Nat} (h : n < 2 ^ 31) (s : Int32) (k : Nat) (hs : (s.toBitVec.smod 32).toNat = k) : nI n >>> s = nI (n / 2 ^ k) := by
  apply Int32.toInt_inj.mp
  have h2 : n / 2 ^ k ≤ n := Nat.div_le_self _ _
  rw [pk_shr _ _ k hs, nI_toInt h, nI_toInt (by omega), Int.shiftRight_eq_div_pow]
  rfl
theorem pk_div {a d : Nat} (ha : a < 2 ^ 31) (h0 : 0 < d) (hd : d < 2 ^ 31) : nI a / nI d = nI (a / d) := by
  apply Int32.toInt_inj.mp
  rw [lg_idiv_nonneg (by rw [nI_toInt ha]; omega) (by rw [nI_toInt hd]; omega), nI_toInt ha, nI_toInt hd, nI_toInt (Nat.lt_of_le_of_lt (Nat.div_le_self a d) ha)]
  first | rfl | exact (Int.natCast_ediv _ _).symm
/-! ===== sets of jobs as bits ===== -/
def sj_ad (p j : Nat) : Nat := p ||| 2 ^ j
def sj_cl (p j : Nat) : Nat := p &&& (31 - 2 ^ j)
theorem sj_bit : ∀ p, p < 32 → ∀ j, j < 5 → (((nI p &&& ((1 : Int32) <<< (nI j &&& 31))) = 0) ↔ p.testBit j = false) := by decide +kernel
theorem sj_ad1 : ∀ p, p < 32 → ∀ j, j < 5 → (nI p ||| ((1 : Int32) <<< (nI j &&& 31))) = nI (sj_ad p j) ∧ sj_ad p j < 32 := by decide +kernel
theorem sj_ad2 : ∀ p, p < 32 → ∀ j, j < 5 → ∀ k, k < 5 → (sj_ad p j).testBit k = (p.testBit k || decide (k = j)) := by decide +kernel
theorem sj_cl1 : ∀ p, p < 32 → ∀ j, j < 5 → (nI p &&& (((1 : Int32) <<< (nI j &&& 31)) ^^^ (-1))) = nI (sj_cl p j) ∧ sj_cl p j < 32 := by decide +kernel
theorem sj_cl2 : ∀ p, p < 32 → ∀ j, j < 5 → ∀ k, k < 5 → (sj_cl p j).testBit k = (p.testBit k && !(decide (k = j))) := by decide +kernel
theorem sj_adcl : ∀ p, p < 32 → ∀ j, j < 5 → p.testBit j = true → sj_ad (sj_cl p j) j = p := by decide +kernel
theorem sj_clad : ∀ p, p < 32 → ∀ j, j < 5 → p.testBit j = false → sj_cl (sj_ad p j) j = p := by decide +kernel
theorem sj_sh1 : ∀ p, p < 32 → ∀ j, j < 5 → (((nI p >>> (nI j &&& 31)) &&& 1) = 1 ↔ p.testBit j = true) := by decide +kernel
theorem sj_1sh : ∀ j, j < 5 → ((1 : Int32) <<< (nI j &&& 31)) = nI (2 ^ j) ∧ 2 ^ j < 32 := by decide +kernel
theorem sj_2j : ∀ j, j < 5 → ∀ k, k < 5 → (2 ^ j).testBit k = decide (k = j) := by decide +kernel
theorem sj_and (a b : Nat) : nI a &&& nI b = nI (a &&& b) := by
  apply Int32.toBitVec_inj.1
  show BitVec.ofNat 32 a &&& BitVec.ofNat 32 b = BitVec.ofNat 32 (a &&& b)
  apply BitVec.eq_of_getLsbD_eq
  intro i hi
  simp [hi]
theorem sj_or (a b : Nat) : nI a ||| nI b = nI (a ||| b) := by
  apply Int32.toBitVec_inj.1
  show BitVec.ofNat 32 a ||| BitVec.ofNat 32 b = BitVec.ofNat 32 (a ||| b)
  apply BitVec.eq_of_getLsbD_eq
  intro i hi
  simp [hi]
theorem sj_or32 : ∀ p, p < 32 → ∀ q, q < 32 → p ||| q < 32 := by decide +kernel
theorem sj_and32 : ∀ p, p < 32 → ∀ q, q < 32 → p &&& q < 32 := by decide +kernel
/-- a set that meets another -/
theorem sj_meet : ∀ p, p < 32 → ∀ q, q < 32 → ((nI p &&& nI q) = 0 ↔ ∀ k, k < 5 → ¬ (p.testBit k = true ∧ q.testBit k = true)) := by decide +kernel
theorem sj_bx : ∀ p, p < 32 → ∀ q, q < 32 → (∀ k, k < 5 → p.testBit k = q.testBit k) → p = q := by decide +kernel
theorem sj_nz : ∀ p, p < 32 → (p = 0 ↔ ∀ k, k < 5 → p.testBit k = false) := by decide +kernel
/-! ===== the code's digits as the reference reads them ===== -/
theorem sj_s2 : ∀ j, j < 5 → (((2 : Int32) * nI j &&& 31).toBitVec.smod 32).toNat = 2 * j := by decide +kernel
theorem sj_24 : ∀ j, j < 5 → 2 ^ (2 * j) = 4 ^ j := by decide +kernel
/-! ===== small sums ===== -/
theorem sj_addI {a b : Int32} (h1 : -100000 ≤ a.toInt) (h2 : a.toInt ≤ 100000) (h3 : -100000 ≤ b.toInt) (h4 : b.toInt ≤ 100000) : (a + b).toInt = a.toInt + b.toInt := by
  rw [Int32.toInt_add]
  exact Int.bmod_eq_of_le (by omega) (by omega)
theorem sj_subI {a b : Int32} (h1 : -100000 ≤ a.toInt) (h2 : a.toInt ≤ 100000) (h3 : -100000 ≤ b.toInt) (h4 : b.toInt ≤ 100000) : (a - b).toInt = a.toInt - b.toInt := by
  rw [Int32.toInt_sub]
  exact Int.bmod_eq_of_le (by omega) (by omega)
theorem sj_ltI {a b : Int32} : a < b ↔ a.toInt < b.toInt := Int32.lt_iff_toInt_lt
theorem sj_leI {a b : Int32} : a ≤ b ↔ a.toInt ≤ b.toInt := Int32.le_iff_toInt_le
theorem sj_inI {a b : Int32} : a = b ↔ a.toInt = b.toInt := Int32.toInt_inj.symm
theorem sj_i0 : (0 : Int32).toInt = 0 := by decide
theorem sj_im1 : (-1 : Int32).toInt = -1 := by decide
end
section
/-! ===== what both states hold between calls ===== -/
/-- links: as the component holds them (af), as the reference does (pr) -/
def sj_lk (p : Nat) (af pr : Nat → Int32) : Prop :=
  sj_le af 31 ∧ sj_le pr 31 ∧ (∀ i j, i < 5 → j < 5 → (sj_N af i).testBit j = true → p.testBit i = true ∧ p.testBit j = true) ∧
  (∀ i j, i < 5 → j < 5 → p.testBit j = true → (sj_N pr j).testBit i = (sj_N af i).testBit j)
def sj_V (mo : Nat) (lim : Int32) (p : Nat) (rel len kin due wt af pr : Nat → Int32) : Prop :=
  (1 ≤ mo ∧ mo ≤ 5) ∧ (-200 ≤ lim.toInt ∧ lim.toInt ≤ 1000) ∧ sj_bnd p rel len kin due wt ∧ sj_le rel 9 ∧ (∀ j, j < 5 → p.testBit j = true → j < mo) ∧
  sj_lk p af pr ∧ (∃ rk, sj_ord (sj_A p af) rk) ∧ sj_G p rel len kin due wt af sj_M0 lim.toInt 34 (sj_Fu p len)
/-- a run of one table serves where less is asked -/
theorem sj_Gmono {p : Nat} {rel len kin due wt af rel' len' kin' due' wt' af' : Nat → Int32} {M M' : Nat → Nat → Prop} {b b' : Int}
    (hR : ∀ j, j < 5 → p.testBit j = true → sj_N rel' j ≤ sj_N rel j) (hA : ∀ i j, i < 5 → j < 5 → sj_A p af' i j = true → sj_A p af i j = true)
    (hM : ∀ j t, j < 5 → p.testBit j = true → M j t → M' j t)
    (hK : ∀ j t, j < 5 → p.testBit j = true → sj_K kin due wt b j (t + 1) → sj_K kin' due' wt' b' j (t + 1))
    (hl : ∀ j, j < 5 → p.testBit j = true → sj_N len' j = sj_N len j) {t : Nat} (h : sj_G p rel len kin due wt af M b t (sj_Fu p len)) : sj_G p rel' len' kin' due' wt' af' M' b' t (sj_Fu p len') := by
  have e : sj_Fu p len' = sj_Fu p len := sj_fce hl
  rw [e]
  exact sj_mono hR (fun i j hi hj _ a => ⟨hA i j hi hj a, (sj_At a).1⟩) hM hK hl t _ h
theorem sj_Nu {a : Nat → Int32} {k j : Nat} {x : Int32} (h : j ≠ k) : sj_N (upd a k x) j = sj_N a j := by unfold sj_N; rw [sj_un h]
theorem sj_Ns {a : Nat → Int32} {k n : Nat} (h : n < 2 ^ 31) : sj_N (upd a k (nI n)) k = n := by unfold sj_N; rw [sj_us, nI_clamp h]
theorem sj_uid {a : Nat → Int32} {k : Nat} {x y : Int32} (h : a k = x) : upd (upd a k y) k x = a := by
  funext j
  by_cases e : j = k
  · subst e; rw [sj_us, h]
  · rw [sj_un e, sj_un e]
theorem sj_uid1 {a : Nat → Int32} {k : Nat} {x : Int32} (h : a k = x) : upd a k x = a := by
  funext j
  by_cases e : j = k
  · subst e; rw [sj_us, h]
  · rw [sj_un e]
/-- one job's values changed, while it isn't there -/
theorem sj_Gst {p id : Nat} {rel len kin due wt af : Nat → Int32} {x1 x2 x3 x4 x5 : Int32} {M : Nat → Nat → Prop} {b : Int} {t : Nat} (hn : ¬ p.testBit id = true)
    (h : sj_G p rel len kin due wt af M b t (sj_Fu p len)) : sj_G p (upd rel id x1) (upd len id x2) (upd kin id x3) (upd due id x4) (upd wt id x5) af M b t (sj_Fu p (upd len id x2)) := by
  have ne : ∀ j, p.testBit j = true → j ≠ id := fun j hj e => hn (e ▸ hj)
  refine sj_Gmono (fun j _ q => ?_) (fun i j _ _ a => a) (fun _ _ _ _ m => m) (fun j t _ q k => ?_) (fun j _ q => sj_Nu (ne j q)) h
  · rw [sj_Nu (ne j q)]; exact Nat.le_refl _
  · unfold sj_K at k ⊢
    rw [sj_Nu (ne j q), sj_Nu (ne j q), sj_Nu (ne j q)]
    exact k
theorem sj_Grem {p id : Nat} {rel len kin due wt af af' : Nat → Int32} {M : Nat → Nat → Prop} {b : Int} {t : Nat} (B : sj_bnd p rel len kin due wt) (hid : id < 5)
    (hA : ∀ i j, i < 5 → j < 5 → sj_A (sj_cl p id) af' i j = true → sj_A p af i j = true) (h : sj_G p rel len kin due wt af M b t (sj_Fu p len)) : sj_G (sj_cl p id) rel len kin due wt af' M b t (sj_Fu (sj_cl p id) len) := by
  have hL := sj_hL B
  have e : sj_dr (sj_Fu p len) id = sj_Fu (sj_cl p id) len := sj_drfc hL hid (fun j hj => sj_cl2 p B.1 id hid j hj)
  rw [← e]
  refine sj_rem hL hid (fun j hj ne q => ?_) (fun i j hi hj a => ⟨hA i j hi hj a, fun z => ?_⟩) t _ h
  · rw [sj_cl2 p B.1 id hid j hj]; simp [ne, q]
  · have := (sj_At a).1
    rw [sj_cl2 p B.1 id hid i hi] at this
    simp [z] at this
/-- nothing is there: all is done at once -/
theorem sj_bndc {p id : Nat} {rel len kin due wt : Nat → Int32} (B : sj_bnd p rel len kin due wt) (hid : id < 5) : sj_bnd (sj_cl p id) rel len kin due wt := by
  obtain ⟨h1, h2, h3, h4, h5, h6, h7⟩ := B
  refine ⟨(sj_cl1 p h1 id hid).2, h2, h3, h4, h5, h6, fun j hj q => h7 j hj ?_⟩
  rw [sj_cl2 p h1 id hid j hj] at q
  simp at q
  exact q.1
/-- costs between the bounds -/
theorem sj_Kb {p : Nat} {rel len kin due wt : Nat → Int32} (B : sj_bnd p rel len kin due wt) {j t : Nat} (hj : j < 5) (ht : t ≤ 60) : -150 ≤ sj_cost (sj_N kin j) (sj_N due j) (sj_N wt j) t ∧ sj_cost (sj_N kin j) (sj_N due j) (sj_N wt j) t ≤ 1000 :=
  sj_cr (sj_Ne B.2.2.2.2.1 (by omega) hj).2 (sj_Ne B.2.2.2.2.2.1 (by omega) hj).2 ht
theorem sj_Km {p : Nat} {rel len kin due wt : Nat → Int32} (B : sj_bnd p rel len kin due wt) {b : Int} {j t : Nat} (hj : j < 5) (h : sj_K kin due wt b j (t + 2)) : sj_K kin due wt b j (t + 1) :=
  Int.le_trans (sj_cmono (sj_Ne B.2.2.2.2.2.1 (by omega) hj).2) h
theorem sj_Kw {kin due wt : Nat → Int32} {b b' : Int} (hb : b ≤ b') {j t : Nat} (h : sj_K kin due wt b j t) : sj_K kin due wt b' j t := Int.le_trans h hb
theorem sj_Gw {p : Nat} {rel len kin due wt af : Nat → Int32} {M : Nat → Nat → Prop} {b b' : Int} (hb : b ≤ b') {t : Nat} (h : sj_G p rel len kin due wt af M b t (sj_Fu p len)) : sj_G p rel len kin due wt af M b' t (sj_Fu p len) :=
  sj_Gmono (fun _ _ _ => Nat.le_refl _) (fun _ _ _ _ a => a) (fun _ _ _ _ m => m) (fun _ _ _ _ k => sj_Kw hb k) (fun _ _ _ => rfl) h
/-- below all costs nothing is done -/
theorem sj_Glow {p : Nat} {rel len kin due wt af : Nat → Int32} {M : Nat → Nat → Prop} (B : sj_bnd p rel len kin due wt) (h0 : p ≠ 0) {b : Int} (hb : b ≤ -151) : ¬ sj_G p rel len kin due wt af M b 34 (sj_Fu p len) := by
  intro h
  have hL := sj_hL B
  have ex : ∃ j, j < 5 ∧ p.testBit j = true := by
    apply Classical.byContradiction
    intro n
    refine h0 ((sj_nz p B.1).mpr (fun k hk => ?_))
    cases q : p.testBit k
    · rfl
    · exact absurd ⟨k, hk, q⟩ n
  obtain ⟨j, hj, q⟩ := ex
  have lt := sj_nofin hL 34 _ (fun i u hi _ hu k => by
    have := sj_Kb B (t := u + 1) hi (by omega)
    have k' : sj_cost (sj_N kin i) (sj_N due i) (sj_N wt i) (u + 1) ≤ b := k
    omega) h j hj q
  have e : sj_dg (sj_Fu p len) j = sj_x p.testBit (sj_N len) j := sj_fcd hL j hj
  rw [e, sj_xt q] at lt
  omega
end
section
/-! ===== the component: its small methods ===== -/
def sj_has (p : Nat) (x : Int32) : Prop := ∃ j, j < 5 ∧ x = nI j ∧ p.testBit j = true
theorem sj_hasn {p j : Nat} (hj : j < 5) : sj_has p (nI j) ↔ p.testBit j = true := by
  constructor
  · rintro ⟨i, hi, e, h⟩
    have := (nI_eq (by omega) (by omega)).mp e
    rw [this]
    exact h
  · exact fun h => ⟨j, hj, rfl, h⟩
section
variable {c b : Int32} {p : Nat} {rel len kin due wt af st dl lf : Nat → Int32}
theorem sx_presT {post : Int32 → Prop} (hp : p < 32) {j : Nat} (hj : j < 5) (h : p.testBit j = true) (k : post 1) : wpX_isPresent post (c, b, nI p, rel, len, kin, due, wt, af, st, dl, lf) (nI j) :=
  br_f (nI_pos (by omega)) (br_f (nI_ge (b := 5) hj (by decide)) (br_f (fun z => by rw [sj_bit p hp j hj, h] at z; exact absurd z (by decide)) k))
theorem sx_presF {post : Int32 → Prop} (hp : p < 32) {x : Int32} (h : ¬ sj_has p x) (k : post 0) : wpX_isPresent post (c, b, nI p, rel, len, kin, due, wt, af, st, dl, lf) x := by
  rcases pk_ix x (n := 5) (by decide) with a | a | ⟨j, hj, rfl⟩
  · exact br_t a k
  · by_cases q : x < 0
    · exact br_t q k
    · exact br_f q (br_t a k)
  · have e : p.testBit j = false := by
      cases q : p.testBit j
      · rfl
      · exact absurd ((sj_hasn hj).mpr q) h
    exact br_f (nI_pos (by omega)) (br_f (nI_ge (b := 5) hj (by decide)) (br_t ((sj_bit p hp j hj).mpr e) k))
theorem sx_pres {post : Int32 → Prop} (hp : p < 32) {j : Nat} (hj : j < 5) (k1 : p.testBit j = true → post 1) (k0 : ¬ p.testBit j = true → post 0) : wpX_isPresent post (c, b, nI p, rel, len, kin, due, wt, af, st, dl, lf) (nI j) := by
  by_cases q : p.testBit j = true
  · exact sx_presT hp hj q (k1 q)
  · exact sx_presF hp (fun z => q ((sj_hasn hj).mp z)) (k0 q)
theorem sx_cost {post : Int32 → Prop} {f : Int32} {j : Nat} (hj : j < 5) {t : Int32} (k : post (sj_c32 (kin j) (due j) (wt j) t)) : wpX_cost post (c, b, f, rel, len, kin, due, wt, af, st, dl, lf) (nI j) t := by
  have hi : vp_in (nI j) 5 := vp_in_nI hj (by omega)
  have e : (nI j).toNatClampNeg = j := nI_clamp (by omega)
  unfold wpX_cost
  dsimp only
  rw [e]
  refine ⟨hi, nm_e ⟨hi, ?_⟩⟩
  unfold sj_c32 at k
  by_cases h1 : kin j = 1
  · rw [if_pos h1] at k
    exact br_t h1 ⟨hi, k⟩
  · rw [if_neg h1] at k
    by_cases h2 : t - due j ≤ 0
    · rw [if_pos h2] at k
      exact br_f h1 (br_f (Int32.not_lt.mpr h2) k)
    · rw [if_neg h2] at k
      refine br_f h1 (br_t (Int32.not_le.mp h2) ⟨hi, ?_⟩)
      by_cases h3 : kin j = 0
      · rw [if_pos h3] at k
        exact br_t h3 ⟨hi, k⟩
      · rw [if_neg h3] at k
        refine br_f h3 ⟨hi, ?_⟩
        by_cases h4 : kin j = 2
        · rw [if_pos h4] at k
          exact br_t h4 ⟨hi, k⟩
        · rw [if_neg h4] at k
          exact br_f h4 k
/-- the last time whose cost is at most bd -/
def sj_lt (kin due wt : Nat → Int32) (bd : Int32) (j D : Nat) : Prop :=
  D ≤ 33 ∧ (D = 0 ∨ sj_c32 (kin j) (due j) (wt j) (nI D) ≤ bd) ∧ ∀ t, D < t → t ≤ 33 → ¬ sj_c32 (kin j) (due j) (wt j) (nI t) ≤ bd
theorem sx_last3 {post : Int32 → Prop} {f bd : Int32} {j : Nat} (hj : j < 5) (k : ∀ D, sj_lt kin due wt bd j D → post (nI D)) :
    ∀ t, t ≤ 33 → (∀ t', t < t' → t' ≤ 33 → ¬ sj_c32 (kin j) (due j) (wt j) (nI t') ≤ bd) → wX_lastTimeWithin_3 post (nI j) bd c b f rel len kin due wt af st dl lf (t + 1) (nI t) := by
  intro t
  induction t with
  | zero =>
    intro _ h
    exact br_t (by decide) (k 0 ⟨by omega, Or.inl rfl, h⟩)
  | succ t ih =>
    intro ht h
    refine br_f (nI_nlt (b := 1) (by omega) (by omega)) (sx_cost hj ?_)
    by_cases q : sj_c32 (kin j) (due j) (wt j) (nI (t + 1)) ≤ bd
    · exact br_f (Int32.not_lt.mpr q) (k (t + 1) ⟨ht, Or.inr q, h⟩)
    · refine br_t (Int32.not_le.mp q) (nm_r (pk_m1 t) (ih (by omega) (fun t' h1 h2 => ?_)))
      by_cases e : t' = t + 1
      · subst e; exact q
      · exact h t' (by omega) h2
theorem sx_last {post : Int32 → Prop} {f bd : Int32} {j : Nat} (hj : j < 5) (k : ∀ D, sj_lt kin due wt bd j D → post (nI D)) : wpX_lastTimeWithin post (c, b, f, rel, len, kin, due, wt, af, st, dl, lf) (nI j) bd :=
  ⟨34, sx_last3 hj k 33 (by omega) (fun t h1 h2 => absurd h1 (by omega))⟩
theorem sx_setDl2 {post : SX → Prop} {f bd : Int32} (k : ∀ dl', (∀ j, j < 5 → ∃ D, dl' j = nI D ∧ sj_lt kin due wt bd j D) → post (c, b, f, rel, len, kin, due, wt, af, st, dl', lf)) :
    ∀ d i dl, i + d = 5 → (∀ j, j < i → ∃ D, dl j = nI D ∧ sj_lt kin due wt bd j D) → wX_setDeadlines_2 post bd c b f (d + 1) (nI i) rel len kin due wt af st dl lf := by
  intro d
  induction d with
  | zero =>
    intro i dl hi h
    have hi : i = 5 := hi
    subst hi
    exact br_t (by decide) (k dl h)
  | succ d ih =>
    intro i dl hi h
    have hi5 : i < 5 := by omega
    refine br_f (nI_ge (b := 5) hi5 (by decide)) (sx_last hi5 (fun D hD => ⟨vp_in_nI hi5 (by omega), ?_⟩))
    refine nm_r (congrArg (fun z => upd dl z (nI D)) (nI_clamp (by omega))) (nm_r (nI_1 i) (ih (i + 1) (upd dl i (nI D)) (by omega) (fun j hj => ?_)))
    by_cases e : j = i
    · subst e; exact ⟨D, sj_us, hD⟩
    · rw [sj_un e]; exact h j (by omega)
theorem sx_setDl {post : SX → Prop} {f bd : Int32} (k : ∀ dl', (∀ j, j < 5 → ∃ D, dl' j = nI D ∧ sj_lt kin due wt bd j D) → post (c, b, f, rel, len, kin, due, wt, af, st, dl', lf)) : wpX_setDeadlines post (c, b, f, rel, len, kin, due, wt, af, st, dl, lf) bd :=
  ⟨6, sx_setDl2 k 5 0 dl (by omega) (fun j hj => absurd hj (by omega))⟩
theorem sx_fol {post : Int32 → Prop} (hp : p < 32) (haf : sj_le af 31) {i : Nat} (hi : i < 5) (k : ∀ m, m < 32 → (∀ j, j < 5 → m.testBit j = sj_A p af i j) → post (nI m)) : wpX_followers post (c, b, nI p, rel, len, kin, due, wt, af, st, dl, lf) (nI i) := by
  have hv : vp_in (nI i) 5 := vp_in_nI hi (by omega)
  by_cases q : p.testBit i = true
  · refine br_f (fun z => by rw [sj_bit p hp i hi, q] at z; exact absurd z (by decide)) ⟨hv, ?_⟩
    obtain ⟨e, le⟩ := sj_Ne haf (by omega) hi
    have e2 : af (nI i).toNatClampNeg &&& nI p = nI (sj_N af i &&& p) := by rw [nI_clamp (by omega), e, sj_and]
    show post (af (nI i).toNatClampNeg &&& nI p)
    rw [e2]
    refine k _ (sj_and32 _ (by omega) _ hp) (fun j hj => ?_)
    unfold sj_A
    rw [Nat.testBit_and, q]
    cases (sj_N af i).testBit j <;> cases p.testBit j <;> rfl
  · have q' : p.testBit i = false := by
      cases z : p.testBit i
      · rfl
      · exact absurd z q
    refine br_t ((sj_bit p hp i hi).mpr q') (k 0 (by omega) (fun j hj => ?_))
    unfold sj_A
    rw [q', Nat.zero_testBit]
    rfl
end
end
section
/-! ===== the component: starts and deadlines carried along the links ===== -/
def sj_Pf (i j x y : Nat) : Prop := x < i ∨ (x = i ∧ y < j)
def sj_Pb (i j x y : Nat) : Prop := y < i ∨ (y = i ∧ x < j)
section
variable {c b : Int32} {p : Nat} {rel len kin due wt af st dl lf : Nat → Int32} {B F : Nat → Int} {rk : Nat → Nat}
theorem sx_ss48 {post : SX → Prop} {J27 J34 : Int32 → (Nat → Int32) → (Nat → Int32) → (Nat → Int32) → (Nat → Int32) → (Nat → Int32) → (Nat → Int32) → (Nat → Int32) → (Nat → Int32) → (Nat → Int32) → Prop} {x1 f : Int32} {r i m : Nat}
    (hlen : sj_le len 3) (hF : sj_isF (sj_A p af) (sj_N len) B F) (hrk : sj_ord (sj_A p af) rk) (hB : ∀ j, j < 5 → -200 ≤ B j) (hU : ∀ j, j < 5 → F j ≤ 200) (hi : i < 5) (hm : m < 32) (hmA : ∀ j, j < 5 → m.testBit j = sj_A p af i j)
    (k : ∀ st', sj_ri (sj_A p af) (sj_N len) B F rk r (sj_Pf (i + 1) 0) (fun j => (st' j).toInt) → J34 (nI (i + 1)) rel len kin due wt af st' dl lf) :
    ∀ d j st, j + d = 5 → sj_ri (sj_A p af) (sj_N len) B F rk r (sj_Pf i j) (fun j => (st j).toInt) → wX_spreadStarts_48 post J27 J34 x1 (nI i) (nI m) c b f (d + 1) (nI j) rel len kin due wt af st dl lf := by
  intro d
  induction d with
  | zero =>
    intro j st hj h
    have hj : j = 5 := hj
    subst hj
    exact br_t (by decide) (nm_r (nI_1 i) (k st (sj_ris h (fun x y hx hy _ q => by unfold sj_Pf at q ⊢; omega))))
  | succ d ih =>
    intro j st hj h
    have hj5 : j < 5 := by omega
    have vj : vp_in (nI j) 5 := vp_in_nI hj5 (by omega)
    have vi : vp_in (nI i) 5 := vp_in_nI hi (by omega)
    have cj : (nI j).toNatClampNeg = j := nI_clamp (by omega)
    have ci : (nI i).toNatClampNeg = i := nI_clamp (by omega)
    have nx : ∀ x y, sj_Pf i (j + 1) x y → sj_Pf i j x y ∨ (x = i ∧ y = j) := fun x y q => by unfold sj_Pf at q ⊢; omega
    refine br_f (nI_ge (b := 5) hj5 (by decide)) ?_
    by_cases a : sj_A p af i j = true
    · have bt : ¬ (nI m &&& ((1 : Int32) <<< (nI j &&& 31))) = 0 := fun z => by
        rw [sj_bit m hm j hj5, hmA j hj5, a] at z
        exact absurd z (by decide)
      obtain ⟨el, ll⟩ := sj_Ne hlen (by omega) hi
      have li : (len i).toInt = (sj_N len i : Int) := by rw [el, nI_toInt (by omega)]
      have bi : B i ≤ (st i).toInt ∧ (st i).toInt ≤ F i := h.1 i hi
      have b0 := hB i hi
      have u0 := hU i hi
      have ad : (st i + len i).toInt = (st i).toInt + (sj_N len i : Int) := by rw [sj_addI (by omega) (by omega) (by omega) (by omega), li]
      refine br_f bt ⟨vj, vi, vi, ?_⟩
      rw [ci, cj]
      by_cases q : (st i + len i) ≤ st j
      · refine br_t q (nm_r (nI_1 j) (ih (j + 1) st (by omega) (sj_rino hrk h hi (fun _ => ?_) nx)))
        show (st i).toInt + (sj_N len i : Int) ≤ (st j).toInt
        rw [sj_leI, ad] at q
        exact q
      · refine br_f q ⟨vi, vi, vj, nm_e (nm_r (nI_1 j) (ih (j + 1) _ (by omega) (sj_riup hF hrk h hi hj5 a ?_ ?_ (fun x hx ne => ?_) nx)))⟩
        · show (st j).toInt < (st i).toInt + (sj_N len i : Int)
          rw [sj_leI, ad] at q
          omega
        · show (upd st j (st i + len i) j).toInt = (st i).toInt + (sj_N len i : Int)
          rw [sj_us, ad]
        · show (upd st j (st i + len i) x).toInt = (st x).toInt
          rw [sj_un ne]
    · have bt : (nI m &&& ((1 : Int32) <<< (nI j &&& 31))) = 0 := by
        rw [sj_bit m hm j hj5, hmA j hj5]
        cases z : sj_A p af i j
        · rfl
        · exact absurd z a
      exact br_t bt (nm_r (nI_1 j) (ih (j + 1) st (by omega) (sj_rino hrk h hi (fun z => absurd z a) nx)))
theorem sx_ss34 {post : SX → Prop} {J27 : Int32 → (Nat → Int32) → (Nat → Int32) → (Nat → Int32) → (Nat → Int32) → (Nat → Int32) → (Nat → Int32) → (Nat → Int32) → (Nat → Int32) → (Nat → Int32) → Prop} {r : Nat}
    (hp : p < 32) (haf : sj_le af 31) (hlen : sj_le len 3) (hF : sj_isF (sj_A p af) (sj_N len) B F) (hrk : sj_ord (sj_A p af) rk) (hB : ∀ j, j < 5 → -200 ≤ B j) (hU : ∀ j, j < 5 → F j ≤ 200)
    (k : ∀ st', sj_ri (sj_A p af) (sj_N len) B F rk (r + 1) (sj_Pf 0 0) (fun j => (st' j).toInt) → J27 (nI (r + 1)) rel len kin due wt af st' dl lf) :
    ∀ d i st, i + d = 5 → sj_ri (sj_A p af) (sj_N len) B F rk r (sj_Pf i 0) (fun j => (st j).toInt) → wX_spreadStarts_34 post J27 (nI r) c b (nI p) (d + 1) (nI i) rel len kin due wt af st dl lf := by
  intro d
  induction d with
  | zero =>
    intro i st hi h
    have hi : i = 5 := hi
    subst hi
    exact br_t (by decide) (nm_r (nI_1 r) (k st (sj_rinx hF h (fun x y hx _ _ => Or.inl hx) (fun x y q => by unfold sj_Pf at q; omega))))
  | succ d ih =>
    intro i st hi h
    have hi5 : i < 5 := by omega
    exact br_f (nI_ge (b := 5) hi5 (by decide)) (sx_fol hp haf hi5 (fun m hm hmA => ⟨6, sx_ss48 hlen hF hrk hB hU hi5 hm hmA (fun st' h' => ih (i + 1) st' (by omega) h') 5 0 st (by omega) h⟩))
theorem sx_ss27 {post : SX → Prop} (hp : p < 32) (haf : sj_le af 31) (hlen : sj_le len 3) (hF : sj_isF (sj_A p af) (sj_N len) B F) (hrk : sj_ord (sj_A p af) rk) (h4 : ∀ j, j < 5 → rk j ≤ 4) (hB : ∀ j, j < 5 → -200 ≤ B j) (hU : ∀ j, j < 5 → F j ≤ 200)
    (k : ∀ st', (∀ j, j < 5 → (st' j).toInt = F j) → post (c, b, nI p, rel, len, kin, due, wt, af, st', dl, lf)) :
    ∀ d r st, r + d = 5 → sj_ri (sj_A p af) (sj_N len) B F rk r (sj_Pf 0 0) (fun j => (st j).toInt) → wX_spreadStarts_27 post c b (nI p) (d + 1) (nI r) rel len kin due wt af st dl lf := by
  intro d
  induction d with
  | zero =>
    intro r st hr h
    have hr : r = 5 := hr
    subst hr
    exact br_t (by decide) (k st (sj_ri5 h4 h))
  | succ d ih =>
    intro r st hr h
    exact br_f (nI_ge (b := 5) (by omega) (by decide)) ⟨6, sx_ss34 hp haf hlen hF hrk hB hU (fun st' h' => ih (r + 1) st' (by omega) h') 5 0 st (by omega) h⟩
theorem sx_ss2 {post : SX → Prop} (hp : p < 32) (haf : sj_le af 31) (hlen : sj_le len 3) (hF : sj_isF (sj_A p af) (sj_N len) (fun j => (rel j).toInt) F) (hrk : sj_ord (sj_A p af) rk) (h4 : ∀ j, j < 5 → rk j ≤ 4) (hB : ∀ j, j < 5 → -200 ≤ (rel j).toInt) (hU : ∀ j, j < 5 → F j ≤ 200)
    (k : ∀ st', (∀ j, j < 5 → (st' j).toInt = F j) → post (c, b, nI p, rel, len, kin, due, wt, af, st', dl, lf)) :
    ∀ d i st, i + d = 5 → (∀ j, j < i → st j = rel j) → wX_spreadStarts_2 post c b (nI p) (d + 1) (nI i) rel len kin due wt af st dl lf := by
  intro d
  induction d with
  | zero =>
    intro i st hi h
    have hi : i = 5 := hi
    subst hi
    exact br_t (by decide) ⟨5, sx_ss27 hp haf hlen hF hrk h4 hB hU k 4 1 st (by omega) (sj_ri0 hF hrk (fun x y q => by unfold sj_Pf at q; omega) (fun j hj => by show (st j).toInt = (rel j).toInt; rw [h j hj]))⟩
  | succ d ih =>
    intro i st hi h
    have hi5 : i < 5 := by omega
    have vi : vp_in (nI i) 5 := vp_in_nI hi5 (by omega)
    have ci : (nI i).toNatClampNeg = i := nI_clamp (by omega)
    refine br_f (nI_ge (b := 5) hi5 (by decide)) ⟨vi, vi, ?_⟩
    rw [ci]
    refine nm_e (nm_r (nI_1 i) (ih (i + 1) _ (by omega) (fun j hj => ?_)))
    by_cases e : j = i
    · subst e; exact sj_us
    · rw [sj_un e]; exact h j (by omega)
theorem sx_starts {post : SX → Prop} (hp : p < 32) (haf : sj_le af 31) (hlen : sj_le len 3) (hF : sj_isF (sj_A p af) (sj_N len) (fun j => (rel j).toInt) F) (hrk : sj_ord (sj_A p af) rk) (h4 : ∀ j, j < 5 → rk j ≤ 4) (hB : ∀ j, j < 5 → -200 ≤ (rel j).toInt) (hU : ∀ j, j < 5 → F j ≤ 200)
    (k : ∀ st', (∀ j, j < 5 → (st' j).toInt = F j) → post (c, b, nI p, rel, len, kin, due, wt, af, st', dl, lf)) : wpX_spreadStarts post (c, b, nI p, rel, len, kin, due, wt, af, st, dl, lf) :=
  ⟨6, sx_ss2 hp haf hlen hF hrk h4 hB hU k 5 0 st (by omega) (fun j hj => absurd hj (by omega))⟩
/-! the deadlines, backward -/
theorem sx_sd23 {post : SX → Prop} {J2 J9 : Int32 → (Nat → Int32) → (Nat → Int32) → (Nat → Int32) → (Nat → Int32) → (Nat → Int32) → (Nat → Int32) → (Nat → Int32) → (Nat → Int32) → (Nat → Int32) → Prop} {x1 f : Int32} {r i m : Nat}
    (hlen : sj_le len 3) (hF : sj_isF (fun i j => sj_A p af j i) (sj_N len) B F) (hrk : sj_ord (fun i j => sj_A p af j i) rk) (hB : ∀ j, j < 5 → -200 ≤ B j) (hU : ∀ j, j < 5 → F j ≤ 200) (hi : i < 5) (hm : m < 32) (hmA : ∀ j, j < 5 → m.testBit j = sj_A p af i j)
    (k : ∀ dl', sj_ri (fun i j => sj_A p af j i) (sj_N len) B F rk r (sj_Pb (i + 1) 0) (fun j => - (dl' j).toInt) → J9 (nI (i + 1)) rel len kin due wt af st dl' lf) :
    ∀ d j dl, j + d = 5 → sj_ri (fun i j => sj_A p af j i) (sj_N len) B F rk r (sj_Pb i j) (fun j => - (dl j).toInt) → wX_spreadDeadlines_23 post J2 J9 x1 (nI i) (nI m) c b f (d + 1) (nI j) rel len kin due wt af st dl lf := by
  intro d
  induction d with
  | zero =>
    intro j dl hj h
    have hj : j = 5 := hj
    subst hj
    exact br_t (by decide) (nm_r (nI_1 i) (k dl (sj_ris h (fun x y hx hy _ q => by unfold sj_Pb at q ⊢; omega))))
  | succ d ih =>
    intro j dl hj h
    have hj5 : j < 5 := by omega
    have vj : vp_in (nI j) 5 := vp_in_nI hj5 (by omega)
    have vi : vp_in (nI i) 5 := vp_in_nI hi (by omega)
    have cj : (nI j).toNatClampNeg = j := nI_clamp (by omega)
    have ci : (nI i).toNatClampNeg = i := nI_clamp (by omega)
    have nx : ∀ x y, sj_Pb i (j + 1) x y → sj_Pb i j x y ∨ (x = j ∧ y = i) := fun x y q => by unfold sj_Pb at q ⊢; omega
    refine br_f (nI_ge (b := 5) hj5 (by decide)) ?_
    by_cases a : sj_A p af i j = true
    · have bt : ¬ (nI m &&& ((1 : Int32) <<< (nI j &&& 31))) = 0 := fun z => by
        rw [sj_bit m hm j hj5, hmA j hj5, a] at z
        exact absurd z (by decide)
      obtain ⟨el, ll⟩ := sj_Ne hlen (by omega) hj5
      have li : (len j).toInt = (sj_N len j : Int) := by rw [el, nI_toInt (by omega)]
      have bi : B j ≤ - (dl j).toInt ∧ - (dl j).toInt ≤ F j := h.1 j hj5
      have b0 := hB j hj5
      have u0 := hU j hj5
      have ad : (dl j - len j).toInt = (dl j).toInt - (sj_N len j : Int) := by rw [sj_subI (by omega) (by omega) (by omega) (by omega), li]
      refine br_f bt ⟨vi, vj, vj, ?_⟩
      rw [ci, cj]
      by_cases q : dl i ≤ dl j - len j
      · refine br_t q (nm_r (nI_1 j) (ih (j + 1) dl (by omega) (sj_rino hrk h hj5 (fun _ => ?_) nx)))
        show - (dl j).toInt + (sj_N len j : Int) ≤ - (dl i).toInt
        rw [sj_leI, ad] at q
        omega
      · refine br_f q ⟨vj, vj, vi, nm_e (nm_r (nI_1 j) (ih (j + 1) _ (by omega) (sj_riup hF hrk h hj5 hi a ?_ ?_ (fun x hx ne => ?_) nx)))⟩
        · show - (dl i).toInt < - (dl j).toInt + (sj_N len j : Int)
          rw [sj_leI, ad] at q
          omega
        · show - (upd dl i (dl j - len j) i).toInt = - (dl j).toInt + (sj_N len j : Int)
          rw [sj_us, ad]
          omega
        · show - (upd dl i (dl j - len j) x).toInt = - (dl x).toInt
          rw [sj_un ne]
    · have bt : (nI m &&& ((1 : Int32) <<< (nI j &&& 31))) = 0 := by
        rw [sj_bit m hm j hj5, hmA j hj5]
        cases z : sj_A p af i j
        · rfl
        · exact absurd z a
      exact br_t bt (nm_r (nI_1 j) (ih (j + 1) dl (by omega) (sj_rino hrk h hj5 (fun z => absurd z a) nx)))
theorem sx_sd9 {post : SX → Prop} {J2 : Int32 → (Nat → Int32) → (Nat → Int32) → (Nat → Int32) → (Nat → Int32) → (Nat → Int32) → (Nat → Int32) → (Nat → Int32) → (Nat → Int32) → (Nat → Int32) → Prop} {r : Nat}
    (hp : p < 32) (haf : sj_le af 31) (hlen : sj_le len 3) (hF : sj_isF (fun i j => sj_A p af j i) (sj_N len) B F) (hrk : sj_ord (fun i j => sj_A p af j i) rk) (hB : ∀ j, j < 5 → -200 ≤ B j) (hU : ∀ j, j < 5 → F j ≤ 200)
    (k : ∀ dl', sj_ri (fun i j => sj_A p af j i) (sj_N len) B F rk (r + 1) (sj_Pb 0 0) (fun j => - (dl' j).toInt) → J2 (nI (r + 1)) rel len kin due wt af st dl' lf) :
    ∀ d i dl, i + d = 5 → sj_ri (fun i j => sj_A p af j i) (sj_N len) B F rk r (sj_Pb i 0) (fun j => - (dl j).toInt) → wX_spreadDeadlines_9 post J2 (nI r) c b (nI p) (d + 1) (nI i) rel len kin due wt af st dl lf := by
  intro d
  induction d with
  | zero =>
    intro i dl hi h
    have hi : i = 5 := hi
    subst hi
    exact br_t (by decide) (nm_r (nI_1 r) (k dl (sj_rinx hF h (fun x y _ hy _ => Or.inl hy) (fun x y q => by unfold sj_Pb at q; omega))))
  | succ d ih =>
    intro i dl hi h
    have hi5 : i < 5 := by omega
    exact br_f (nI_ge (b := 5) hi5 (by decide)) (sx_fol hp haf hi5 (fun m hm hmA => ⟨6, sx_sd23 hlen hF hrk hB hU hi5 hm hmA (fun dl' h' => ih (i + 1) dl' (by omega) h') 5 0 dl (by omega) h⟩))
theorem sx_sd2 {post : SX → Prop} (hp : p < 32) (haf : sj_le af 31) (hlen : sj_le len 3) (hF : sj_isF (fun i j => sj_A p af j i) (sj_N len) B F) (hrk : sj_ord (fun i j => sj_A p af j i) rk) (h4 : ∀ j, j < 5 → rk j ≤ 4) (hB : ∀ j, j < 5 → -200 ≤ B j) (hU : ∀ j, j < 5 → F j ≤ 200)
    (k : ∀ dl', (∀ j, j < 5 → - (dl' j).toInt = F j) → post (c, b, nI p, rel, len, kin, due, wt, af, st, dl', lf)) :
    ∀ d r dl, r + d = 5 → sj_ri (fun i j => sj_A p af j i) (sj_N len) B F rk r (sj_Pb 0 0) (fun j => - (dl j).toInt) → wX_spreadDeadlines_2 post c b (nI p) (d + 1) (nI r) rel len kin due wt af st dl lf := by
  intro d
  induction d with
  | zero =>
    intro r dl hr h
    have hr : r = 5 := hr
    subst hr
    exact br_t (by decide) (k dl (sj_ri5 h4 h))
  | succ d ih =>
    intro r dl hr h
    exact br_f (nI_ge (b := 5) (by omega) (by decide)) ⟨6, sx_sd9 hp haf hlen hF hrk hB hU (fun dl' h' => ih (r + 1) dl' (by omega) h') 5 0 dl (by omega) h⟩
theorem sx_deadlines {post : SX → Prop} (hp : p < 32) (haf : sj_le af 31) (hlen : sj_le len 3) (hF : sj_isF (fun i j => sj_A p af j i) (sj_N len) (fun j => - (dl j).toInt) F) (hrk : sj_ord (fun i j => sj_A p af j i) rk) (h4 : ∀ j, j < 5 → rk j ≤ 4) (hB : ∀ j, j < 5 → -200 ≤ - (dl j).toInt) (hU : ∀ j, j < 5 → F j ≤ 200)
    (k : ∀ dl', (∀ j, j < 5 → - (dl' j).toInt = F j) → post (c, b, nI p, rel, len, kin, due, wt, af, st, dl', lf)) : wpX_spreadDeadlines post (c, b, nI p, rel, len, kin, due, wt, af, st, dl, lf) :=
  ⟨5, sx_sd2 hp haf hlen hF hrk h4 hB hU k 4 1 dl (by omega) (sj_ri0 hF hrk (fun x y q => by unfold sj_Pb at q; omega) (fun j hj => rfl))⟩
end
end
section
/-! ===== the component: the most urgent first ===== -/
theorem sj_lpos {H : Nat → Bool} {L : Nat → Nat} {s j : Nat} (h : 0 < sj_x H L j - sj_dg s j) : H j = true ∧ sj_dg s j < L j := by
  by_cases q : H j = true
  · rw [sj_xt q] at h
    exact ⟨q, by omega⟩
  · rw [sj_xf q] at h
    omega
theorem sj_isFc {A : Nat → Nat → Bool} {L : Nat → Nat} {B B' F F' : Nat → Int} (h : sj_isF A L B F) (e : ∀ j, j < 5 → B j = B' j) (e' : ∀ j, j < 5 → F j = F' j) : sj_isF A L B' F' := by
  refine ⟨fun j hj => ?_, fun i j hi hj a => ?_, fun j hj => ?_⟩
  · rw [← e j hj, ← e' j hj]; exact h.1 j hj
  · rw [← e' j hj, ← e' i hi]; exact h.2.1 i j hi hj a
  · rcases h.2.2 j hj with q | ⟨i, hi, a, q⟩
    · exact Or.inl (by rw [← e j hj, ← e' j hj]; exact q)
    · exact Or.inr ⟨i, hi, a, by rw [← e' i hi, ← e' j hj]; exact q⟩
def sj_P (f : Nat → Nat) : Nat → Nat
  | 0 => 0
  | n + 1 => sj_P f n + f n
theorem sj_P5 (f : Nat → Nat) : sj_P f 5 = sj_S f := by
  show 0 + f 0 + f 1 + f 2 + f 3 + f 4 = f 0 + f 1 + f 2 + f 3 + f 4
  omega
section
variable {c b : Int32} {p : Nat} {rel len kin due wt af st dl lf : Nat → Int32}
theorem sx_mu4 {post : Int32 → Prop} {f : Int32} {t : Nat} {F l : Nat → Nat} {E : Nat → Int} (hlf : ∀ j, j < 5 → lf j = nI (l j) ∧ l j ≤ 3) (hst : ∀ j, j < 5 → st j = nI (F j) ∧ F j ≤ 200)
    (hdl : ∀ j, j < 5 → (dl j).toInt = E j) (ht : t ≤ 33) (k0 : (∀ j, j < 5 → 0 < l j → ¬ F j ≤ t) → post (-1))
    (k1 : ∀ id, id < 5 → 0 < l id → F id ≤ t → (∀ i, i < 5 → 0 < l i → F i ≤ t → E id ≤ E i) → post (nI id)) :
    ∀ d i x2, i + d = 5 → ((x2 = -1 ∧ ∀ j, j < i → 0 < l j → ¬ F j ≤ t) ∨ ∃ id, id < i ∧ x2 = nI id ∧ 0 < l id ∧ F id ≤ t ∧ ∀ j, j < i → 0 < l j → F j ≤ t → E id ≤ E j) →
      wX_mostUrgent_4 post (nI t) c b f rel len kin due wt af st dl lf (d + 1) x2 (nI i) := by
  intro d
  induction d with
  | zero =>
    intro i x2 hi h
    have hi : i = 5 := hi
    subst hi
    rcases h with ⟨rfl, h⟩ | ⟨id, h1, rfl, h2, h3, h4⟩
    · exact br_t (by decide) (k0 h)
    · exact br_t (by decide) (k1 id h1 h2 h3 h4)
  | succ d ih =>
    intro i x2 hi h
    have hi5 : i < 5 := by omega
    have vi : vp_in (nI i) 5 := vp_in_nI hi5 (by omega)
    have ci : (nI i).toNatClampNeg = i := nI_clamp (by omega)
    obtain ⟨e1, e2⟩ := hlf i hi5
    obtain ⟨e3, e4⟩ := hst i hi5
    refine br_f (nI_ge (b := 5) hi5 (by decide)) ⟨vi, ?_⟩
    rw [ci, e1, e3]
    -- the job can't have the unit: the choice stays
    have skip : ¬ (0 < l i ∧ F i ≤ t) → wX_mostUrgent_4 post (nI t) c b f rel len kin due wt af st dl lf (d + 1) x2 (nI (i + 1)) := by
      intro n
      refine ih (i + 1) x2 (by omega) ?_
      rcases h with ⟨hx, h⟩ | ⟨id, h1, hx, h2, h3, h4⟩
      · refine Or.inl ⟨hx, fun j hj z => ?_⟩
        by_cases e : j = i
        · subst e; exact fun w => n ⟨z, w⟩
        · exact h j (by omega) z
      · refine Or.inr ⟨id, by omega, hx, h2, h3, fun j hj z w => ?_⟩
        by_cases e : j = i
        · subst e; exact absurd ⟨z, w⟩ n
        · exact h4 j (by omega) z w
    by_cases z : l i = 0
    · rw [z]
      exact br_t (by decide) (nm_r (nI_1 i) (skip (by omega)))
    · refine br_f (nI_nle (by omega) (by omega)) ⟨vi, ?_⟩
      by_cases w : t < F i
      · exact br_t (nI_lt w (by omega)) (nm_r (nI_1 i) (skip (by omega)))
      · refine br_f (nI_nlt (by omega) (by omega)) ?_
        rcases h with ⟨rfl, h⟩ | ⟨id, h1, rfl, h2, h3, h4⟩
        · refine br_t (by decide) (nm_r (nI_1 i) (ih (i + 1) (nI i) (by omega) (Or.inr ⟨i, by omega, rfl, by omega, by omega, fun j hj a a' => ?_⟩)))
          by_cases e : j = i
          · subst e; exact Int.le_refl _
          · exact absurd a' (h j (by omega) a)
        · have cd : (nI id).toNatClampNeg = id := nI_clamp (by omega)
          refine br_f (nI_pos (by omega)) ⟨vi, vp_in_nI (by omega) (by omega), ?_⟩
          rw [cd]
          have d1 := hdl id (by omega)
          have d2 := hdl i hi5
          by_cases q : dl id ≤ dl i
          · refine br_t q (nm_r (nI_1 i) (ih (i + 1) (nI id) (by omega) (Or.inr ⟨id, by omega, rfl, h2, h3, fun j hj a a' => ?_⟩)))
            rw [sj_leI, d1, d2] at q
            by_cases e : j = i
            · subst e; exact q
            · exact h4 j (by omega) a a'
          · refine br_f q (nm_r (nI_1 i) (ih (i + 1) (nI i) (by omega) (Or.inr ⟨i, by omega, rfl, by omega, by omega, fun j hj a a' => ?_⟩)))
            rw [sj_leI, d1, d2] at q
            by_cases e : j = i
            · subst e; exact Int.le_refl _
            · have := h4 j (by omega) a a'
              omega
theorem sx_mu {post : Int32 → Prop} {f : Int32} {t : Nat} {F l : Nat → Nat} {E : Nat → Int} (hlf : ∀ j, j < 5 → lf j = nI (l j) ∧ l j ≤ 3) (hst : ∀ j, j < 5 → st j = nI (F j) ∧ F j ≤ 200)
    (hdl : ∀ j, j < 5 → (dl j).toInt = E j) (ht : t ≤ 33) (k0 : (∀ j, j < 5 → 0 < l j → ¬ F j ≤ t) → post (-1))
    (k1 : ∀ id, id < 5 → 0 < l id → F id ≤ t → (∀ i, i < 5 → 0 < l i → F i ≤ t → E id ≤ E i) → post (nI id)) : wpX_mostUrgent post (c, b, f, rel, len, kin, due, wt, af, st, dl, lf) (nI t) :=
  ⟨6, sx_mu4 hlf hst hdl ht k0 k1 5 0 (-1) (by omega) (Or.inl ⟨rfl, fun j hj => absurd hj (by omega)⟩)⟩
theorem sx_muf50 {post : Int32 → SX → Prop} {f : Int32} {H : Nat → Bool} {L R : Nat → Nat} {A : Nat → Nat → Bool} {M K : Nat → Nat → Prop} {F : Nat → Nat} {E : Nat → Int} (I : sj_inst H L R A M K F E)
    (hst : ∀ j, j < 5 → st j = nI (F j) ∧ F j ≤ 200) (hdl : ∀ j, j < 5 → (dl j).toInt = E j)
    (k1 : sj_rc H L R A M K 34 (sj_fc H L) → ∀ lf', post 1 (c, b, f, rel, len, kin, due, wt, af, st, dl, lf')) (k0 : ¬ sj_rc H L R A M K 34 (sj_fc H L) → ∀ lf', post 0 (c, b, f, rel, len, kin, due, wt, af, st, dl, lf')) :
    ∀ d t s w lf, t + d = 33 → sj_gw H L R A M K F E t s → (∀ j, j < 5 → lf j = nI (sj_x H L j - sj_dg s j)) → w = sj_S (fun j => sj_x H L j - sj_dg s j) →
      wX_mostUrgentFirstIsInTime_50 post c b f (d + 1) (nI w) (nI t) rel len kin due wt af st dl lf := by
  have x3 : ∀ j, j < 5 → sj_x H L j ≤ 3 := fun j hj => sj_x3 I.1 hj
  intro d
  induction d with
  | zero =>
    intro t s w lf ht g hlf hw
    have ht : t = 33 := ht
    subst ht
    have e := sj_wend I g
    have bd := (sj_wbd I g).2
    have hw' : w = (sj_x H L 0 - sj_dg s 0) + (sj_x H L 1 - sj_dg s 1) + (sj_x H L 2 - sj_dg s 2) + (sj_x H L 3 - sj_dg s 3) + (sj_x H L 4 - sj_dg s 4) := hw
    have w15 : w ≤ 15 := by
      have a := x3 0 (by omega)
      have a1 := x3 1 (by omega)
      have a2 := x3 2 (by omega)
      have a3 := x3 3 (by omega)
      have a4 := x3 4 (by omega)
      omega
    refine br_t (by decide) ?_
    by_cases z : w = 0
    · rw [z]
      refine br_t rfl (k1 (e.mpr (fun j hj => ?_)) lf)
      have q := bd j hj
      rcases sj_c5 hj with rfl | rfl | rfl | rfl | rfl <;> omega
    · refine br_f (nI_ne0 (by omega) (by omega)) (k0 (fun rc => z ?_) lf)
      have a := e.mp rc
      have a0 := a 0 (by omega)
      have a1 := a 1 (by omega)
      have a2 := a 2 (by omega)
      have a3 := a 3 (by omega)
      have a4 := a 4 (by omega)
      omega
  | succ d ih =>
    intro t s w lf ht g hlf hw
    refine br_f (nI_ge (b := 33) (by omega) (by decide)) ?_
    refine sx_mu (l := fun j => sj_x H L j - sj_dg s j) (fun j hj => ⟨hlf j hj, by have := x3 j hj; show sj_x H L j - sj_dg s j ≤ 3; omega⟩) hst hdl (by omega) (fun n => ?_) (fun id hid hl hf hmin => ?_)
    · refine br_t (by decide) (nm_r (nI_1 t) (ih (t + 1) s w lf (by omega) (sj_widle g (fun i hi hH hfi => ?_)) hlf hw))
      rcases Nat.lt_or_ge (sj_dg s i) (L i) with q | q
      · have pos : 0 < sj_x H L i - sj_dg s i := by rw [sj_xt hH]; omega
        exact absurd hfi (n i hi pos)
      · exact q
    · obtain ⟨hH, hd⟩ := sj_lpos (H := H) (L := L) (s := s) (j := id) hl
      have cd : (nI id).toNatClampNeg = id := nI_clamp (by omega)
      have vd : vp_in (nI id) 5 := vp_in_nI hid (by omega)
      have hl3 := (I.1 id hid hH).2
      refine br_f (nI_pos (by omega)) ⟨vd, ?_⟩
      rw [cd]
      have tI : (nI t).toInt = (t : Int) := nI_toInt (by omega)
      have ed := hdl id hid
      by_cases q : nI t < dl id
      · have q' : (t : Int) < E id := by
          rw [sj_ltI, tI, ed] at q
          exact q
        obtain ⟨n, hn⟩ : ∃ n, sj_x H L id - sj_dg s id = n + 1 := ⟨sj_x H L id - sj_dg s id - 1, by have hl' : 0 < sj_x H L id - sj_dg s id := hl; omega⟩
        have eb : sj_x H L id - sj_dg (s + 4 ^ id) id = n := by
          rw [sj_bumpS hid (by omega)]
          omega
        have sw : w = sj_S (fun j => sj_x H L j - sj_dg (s + 4 ^ id) j) + 1 := by
          rw [hw]
          refine sj_Sinc hid (fun i hi ne => ?_) ?_
          · show sj_x H L i - sj_dg s i = sj_x H L i - sj_dg (s + 4 ^ id) i
            rw [sj_bumpO hid (by omega) hi ne]
          · show sj_x H L id - sj_dg s id = sj_x H L id - sj_dg (s + 4 ^ id) id + 1
            omega
        refine br_t q ⟨vd, vd, nm_e ?_⟩
        rw [sw]
        refine nm_r (pk_m1 _) (nm_r (nI_1 t) (ih (t + 1) (s + 4 ^ id) _ _ (by omega) (sj_wstep I g (by omega) hid hH hd hf (fun i hi hHi hdi hfi => ?_) q') (fun j hj => ?_) rfl))
        · have pos : 0 < sj_x H L i - sj_dg s i := by rw [sj_xt hHi]; omega
          exact hmin i hi pos hfi
        · by_cases e : j = id
          · subst e
            rw [sj_us, hlf j hj, hn, nI_pred, eb]
          · rw [sj_un e, hlf j hj, sj_bumpO hid (by omega) hj e]
      · refine br_f q (k0 (sj_wfail I g hid hH hd ?_) lf)
        rw [sj_ltI, tI, ed] at q
        omega
theorem sx_muf4 {post : Int32 → SX → Prop} (hp : p < 32) {R : Nat → Nat} {A : Nat → Nat → Bool} {M K : Nat → Nat → Prop} {F : Nat → Nat} {E : Nat → Int} (I : sj_inst p.testBit (sj_N len) R A M K F E) (hlen : sj_le len 3)
    (hst : ∀ j, j < 5 → st j = nI (F j) ∧ F j ≤ 200) (hdl : ∀ j, j < 5 → (dl j).toInt = E j)
    (k1 : sj_rc p.testBit (sj_N len) R A M K 34 (sj_fc p.testBit (sj_N len)) → ∀ lf', post 1 (c, b, nI p, rel, len, kin, due, wt, af, st, dl, lf')) (k0 : ¬ sj_rc p.testBit (sj_N len) R A M K 34 (sj_fc p.testBit (sj_N len)) → ∀ lf', post 0 (c, b, nI p, rel, len, kin, due, wt, af, st, dl, lf')) :
    ∀ d i w lf, i + d = 5 → (∀ j, j < i → lf j = nI (sj_x p.testBit (sj_N len) j)) → w = sj_P (sj_x p.testBit (sj_N len)) i →
      wX_mostUrgentFirstIsInTime_4 post c b (nI p) (d + 1) (nI w) (nI i) rel len kin due wt af st dl lf := by
  intro d
  induction d with
  | zero =>
    intro i w lf hi h hw
    have hi : i = 5 := hi
    subst hi
    refine br_t (by decide) ⟨34, sx_muf50 I hst hdl k1 k0 33 0 0 w lf (by omega) sj_w0 (fun j hj => ?_) ?_⟩
    · rw [sj_dgz, h j hj]
      rfl
    · rw [hw, sj_P5]
      exact sj_Seq (fun j _ => by rw [sj_dgz]; rfl)
  | succ d ih =>
    intro i w lf hi h hw
    have hi5 : i < 5 := by omega
    have vi : vp_in (nI i) 5 := vp_in_nI hi5 (by omega)
    have ci : (nI i).toNatClampNeg = i := nI_clamp (by omega)
    have join : ∀ z0 : Int32, z0 = nI (sj_x p.testBit (sj_N len) i) → wX_mostUrgentFirstIsInTime_32 post (wX_mostUrgentFirstIsInTime_4 post c b (nI p) (d + 1)) (nI w) (nI i) z0 (nI i) c b (nI p) rel len kin due wt af st dl lf := by
      intro z0 ez
      unfold wX_mostUrgentFirstIsInTime_32
      rw [ci, ez]
      refine ⟨vi, nm_e ⟨vi, ?_⟩⟩
      rw [sj_us]
      refine nm_r (nI_add w _) (nm_r (nI_1 i) (ih (i + 1) _ _ (by omega) (fun j hj => ?_) (by rw [hw]; rfl)))
      by_cases e : j = i
      · subst e; exact sj_us
      · rw [sj_un e]; exact h j (by omega)
    refine br_f (nI_ge (b := 5) hi5 (by decide)) (sx_pres hp hi5 (fun q => ?_) (fun q => ?_))
    · refine br_f (by decide) ⟨vi, ?_⟩
      refine join _ ?_
      rw [ci, sj_xt q]
      exact (sj_Ne hlen (by omega) hi5).1
    · refine br_t rfl (join _ ?_)
      rw [sj_xf q]
      rfl
theorem sx_muf {post : Int32 → SX → Prop} (hp : p < 32) {R : Nat → Nat} {A : Nat → Nat → Bool} {M K : Nat → Nat → Prop} {F : Nat → Nat} {E : Nat → Int} (I : sj_inst p.testBit (sj_N len) R A M K F E) (hlen : sj_le len 3)
    (hst : ∀ j, j < 5 → st j = nI (F j) ∧ F j ≤ 200) (hdl : ∀ j, j < 5 → (dl j).toInt = E j)
    (k1 : sj_rc p.testBit (sj_N len) R A M K 34 (sj_fc p.testBit (sj_N len)) → ∀ lf', post 1 (c, b, nI p, rel, len, kin, due, wt, af, st, dl, lf')) (k0 : ¬ sj_rc p.testBit (sj_N len) R A M K 34 (sj_fc p.testBit (sj_N len)) → ∀ lf', post 0 (c, b, nI p, rel, len, kin, due, wt, af, st, dl, lf')) :
    wpX_mostUrgentFirstIsInTime post (c, b, nI p, rel, len, kin, due, wt, af, st, dl, lf) :=
  ⟨6, sx_muf4 hp I hlen hst hdl k1 k0 5 0 0 lf (by omega) (fun j hj => absurd hj (by omega)) rfl⟩
end
end
section
/-! ===== the component: is there a good plan ===== -/
section
variable {c b : Int32} {p : Nat} {rel len kin due wt af st dl lf : Nat → Int32}
theorem sj_cK (B : sj_bnd p rel len kin due wt) {j t : Nat} (hj : j < 5) (ht : t ≤ 60) : (sj_c32 (kin j) (due j) (wt j) (nI t)).toInt = sj_cost (sj_N kin j) (sj_N due j) (sj_N wt j) t := by
  obtain ⟨e1, l1⟩ := sj_Ne B.2.2.2.1 (by omega) hj
  obtain ⟨e2, l2⟩ := sj_Ne B.2.2.2.2.1 (by omega) hj
  obtain ⟨e3, l3⟩ := sj_Ne B.2.2.2.2.2.1 (by omega) hj
  rw [e1, e2, e3]
  exact sj_cI l1 l2 l3 ht
theorem sj_ltD (B : sj_bnd p rel len kin due wt) {bd : Int32} {j D : Nat} (hj : j < 5) (h : sj_lt kin due wt bd j D) : ∀ t, t < 33 → (sj_K kin due wt bd.toInt j (t + 1) ↔ (t : Int) + 1 ≤ (D : Int)) := by
  obtain ⟨h1, h2, h3⟩ := h
  refine sj_dl (sj_Ne B.2.2.2.2.2.1 (by omega) hj).2 ?_ (fun t a1 a2 z => h3 t a1 a2 ?_)
  · rcases h2 with e | e
    · exact Or.inl e
    · rw [sj_leI, sj_cK B hj (by omega)] at e
      exact Or.inr e
  · rw [sj_leI, sj_cK B hj (by omega)]
    exact z
theorem sx_met {post : Int32 → SX → Prop} {M K : Nat → Nat → Prop} (B : sj_bnd p rel len kin due wt) (haf : sj_le af 31) {rk : Nat → Nat} (hrk : sj_ord (sj_A p af) rk) {D : Nat → Nat} (hdl : ∀ j, j < 5 → dl j = nI (D j) ∧ D j ≤ 33)
    (hM : ∀ j t, j < 5 → p.testBit j = true → M j (t + 1) → M j t) (hK : ∀ j t, j < 5 → p.testBit j = true → K j (t + 2) → K j (t + 1))
    (hD : ∀ j t : Nat, j < 5 → p.testBit j = true → t < 33 → ((M j t ∧ K j (t + 1)) ↔ (t : Int) + 1 ≤ (D j : Int)))
    (k1 : sj_rc p.testBit (sj_N len) (sj_N rel) (sj_A p af) M K 34 (sj_Fu p len) → ∀ st' dl' lf', post 1 (c, b, nI p, rel, len, kin, due, wt, af, st', dl', lf'))
    (k0 : ¬ sj_rc p.testBit (sj_N len) (sj_N rel) (sj_A p af) M K 34 (sj_Fu p len) → ∀ st' dl' lf', post 0 (c, b, nI p, rel, len, kin, due, wt, af, st', dl', lf')) :
    wpX_deadlinesCanBeMet post (c, b, nI p, rel, len, kin, due, wt, af, st, dl, lf) := by
  obtain ⟨rk', h4, hrk'⟩ := sj_rk4 hrk
  obtain ⟨F, hF, hFu⟩ := sj_Fnat (R := sj_N rel) (L := sj_N len) hrk' h4 (U := 18) (fun j hj => (sj_Ne B.2.1 (by omega) hj).2) (fun i j hi hj _ => (sj_Ne B.2.2.1 (by omega) hi).2)
  have hrkb : sj_ord (fun i j => sj_A p af j i) (fun j => 4 - rk' j) := fun i j hi hj a => by
    have q := hrk' j i hj hi a
    have q2 := h4 i hi
    show 4 - rk' i < 4 - rk' j
    omega
  have h4b : ∀ j, j < 5 → (fun j => 4 - rk' j) j ≤ 4 := fun j _ => by show 4 - rk' j ≤ 4; omega
  have dI : ∀ j, j < 5 → (dl j).toInt = (D j : Int) := fun j hj => by
    obtain ⟨e, l⟩ := hdl j hj
    rw [e, nI_toInt (by omega)]
  have hE0 := sj_Fex (L := sj_N len) (B := fun j => - (dl j).toInt) hrkb h4b
  have upE := sj_fup (A := fun i j => sj_A p af j i) (L := sj_N len) (B := fun j => - (dl j).toInt) (U := 0) (fun j hj => by show - (dl j).toInt ≤ 0; rw [dI j hj]; omega) (fun i j hi hj _ => (sj_Ne B.2.2.1 (by omega) hi).2) 4
  have rI : ∀ j, j < 5 → (sj_N rel j : Int) = (rel j).toInt := fun j hj => by
    obtain ⟨e, l⟩ := sj_Ne B.2.1 (by omega) hj
    have q : (rel j).toInt = ((nI (sj_N rel j)).toInt) := congrArg Int32.toInt e
    rw [q, nI_toInt (by omega)]
  have hE : sj_isF (fun i j => sj_A p af j i) (sj_N len) (fun j => - (D j : Int)) (fun j => - (- sj_f (fun i j => sj_A p af j i) (sj_N len) (fun j => - (dl j).toInt) 4 j)) :=
    sj_isFc hE0 (fun j hj => by show - (dl j).toInt = - (D j : Int); rw [dI j hj]) (fun j _ => (Int.neg_neg _).symm)
  have I : sj_inst p.testBit (sj_N len) (sj_N rel) (sj_A p af) M K F (fun j => - sj_f (fun i j => sj_A p af j i) (sj_N len) (fun j => - (dl j).toInt) 4 j) :=
    sj_mk (sj_hL B) (fun j hj _ => (sj_Ne B.2.1 (by omega) hj).2) hM hK (fun i j _ _ a => ⟨(sj_At a).1, (sj_At a).2.1⟩) (fun j => (D j : Int)) (fun j hj => by have := (hdl j hj).2; show (D j : Int) ≤ 33; omega) hD hF hE
  unfold wpX_deadlinesCanBeMet
  dsimp only
  refine sx_starts (F := fun j => (F j : Int)) B.1 haf B.2.2.1 (sj_isFc hF rI (fun _ _ => rfl)) hrk' h4 (fun j hj => by rw [← rI j hj]; omega) (fun j hj => by have := hFu j hj; show (F j : Int) ≤ 200; omega) (fun st' hst' => ?_)
  refine sx_deadlines B.1 haf B.2.2.1 hE0 hrkb h4b (fun j hj => by have := (hdl j hj).2; rw [dI j hj]; omega) (fun j hj => by have := upE j hj; omega) (fun dl' hdl' => ?_)
  refine sx_muf B.1 I B.2.2.1 (fun j hj => ⟨?_, by have := hFu j hj; omega⟩) (fun j hj => ?_) (fun rc lf' => ⟨rfl, k1 rc st' dl' lf'⟩) (fun rc lf' => ⟨rfl, k0 rc st' dl' lf'⟩)
  · have q : (st' j).toInt = (F j : Int) := hst' j hj
    have := hFu j hj
    rw [sj_inI, q, nI_toInt (by omega)]
  · have q := hdl' j hj
    show (dl' j).toInt = - sj_f (fun i j => sj_A p af j i) (sj_N len) (fun j => - (dl j).toInt) 4 j
    omega
theorem sx_plan {post : Int32 → SX → Prop} (B : sj_bnd p rel len kin due wt) (haf : sj_le af 31) {rk : Nat → Nat} (hrk : sj_ord (sj_A p af) rk) {bd : Int32}
    (k1 : sj_G p rel len kin due wt af sj_M0 bd.toInt 34 (sj_Fu p len) → ∀ st' dl' lf', post 1 (c, b, nI p, rel, len, kin, due, wt, af, st', dl', lf'))
    (k0 : ¬ sj_G p rel len kin due wt af sj_M0 bd.toInt 34 (sj_Fu p len) → ∀ st' dl' lf', post 0 (c, b, nI p, rel, len, kin, due, wt, af, st', dl', lf')) :
    wpX_hasPlanWithin post (c, b, nI p, rel, len, kin, due, wt, af, st, dl, lf) bd := by
  unfold wpX_hasPlanWithin
  dsimp only
  refine sx_setDl (fun dl' hdl' => ?_)
  refine sx_met B haf hrk (M := sj_M0) (K := sj_K kin due wt bd.toInt) (D := sj_N dl') (fun j hj => ?_) (fun _ _ _ _ m => m) (fun j t hj _ q => sj_Km B hj q) (fun j t hj _ ht => ?_) (fun rc s d l => ⟨rfl, k1 rc s d l⟩) (fun rc s d l => ⟨rfl, k0 rc s d l⟩)
  · obtain ⟨D, e, h⟩ := hdl' j hj
    have h1 := h.1
    have q : sj_N dl' j = D := sj_NI e (by omega)
    rw [q]
    exact ⟨e, h1⟩
  · obtain ⟨D, e, h⟩ := hdl' j hj
    have h1 := h.1
    have q : sj_N dl' j = D := sj_NI e (by omega)
    rw [q, ← sj_ltD B hj h t ht]
    exact ⟨fun z => z.2, fun z => ⟨trivial, z⟩⟩
end
end
section
/-! ===== the reference: its small methods ===== -/
def sj_hd (p : Nat) (hd : Nat → Int32) : Prop := ∀ j, j < 5 → hd j = if p.testBit j = true then 1 else 0
theorem sj_hd1 {p j : Nat} {hd : Nat → Int32} (h : sj_hd p hd) (hj : j < 5) (q : p.testBit j = true) : ¬ hd j = 0 := by
  rw [h j hj, if_pos q]
  decide
theorem sj_hd0 {p j : Nat} {hd : Nat → Int32} (h : sj_hd p hd) (hj : j < 5) (q : ¬ p.testBit j = true) : hd j = 0 := by
  rw [h j hj, if_neg q]
theorem sj_used {s j : Nat} (hs : s < 1024) (hj : j < 5) : (nI s >>> ((2 * nI j) &&& 31)) &&& 3 = nI (sj_dg s j) := by
  rw [pk_shrN (by omega) _ (2 * j) (sj_s2 j hj), sj_24 j hj]
  have h : s / 4 ^ j ≤ s := Nat.div_le_self _ _
  rw [pk_andN (by omega) 2 (by decide)]
  rfl
theorem sj_to {s j : Nat} (hj : j < 5) (h : s + 4 ^ j < 1024) : (nI s + ((1 : Int32) <<< ((2 * nI j) &&& 31))) &&& 1023 = nI (s + 4 ^ j) := by
  have e : ((1 : Int32) <<< ((2 * nI j) &&& 31)) = nI (4 ^ j) := by
    have q := pk_shlN (n := 1) ((2 * nI j) &&& 31) (2 * j) (sj_s2 j hj) (by rw [sj_24 j hj]; omega)
    rw [sj_24 j hj, Nat.one_mul] at q
    exact q
  rw [e, nI_add, pk_andN (by omega) 10 (by decide), Nat.mod_eq_of_lt h]
/-- the units that the job may have, by mustId and mustBy -/
def sj_My (mi mb : Int32) (j t : Nat) : Prop := nI j = mi → nI t < mb
section
variable {mo lim fu fd mi mb : Int32} {p : Nat} {hd rel len kin due wt pr be : Nat → Int32}
theorem sy_thereT {post : Int32 → Prop} (h : sj_hd p hd) {j : Nat} (hj : j < 5) (q : p.testBit j = true) (k : post 1) : wpY_there post (mo, lim, fu, fd, mi, mb, hd, rel, len, kin, due, wt, pr, be) (nI j) := by
  have e : (nI j).toNatClampNeg = j := nI_clamp (by omega)
  refine br_f (nI_pos (by omega)) (br_f (nI_ge (b := 5) hj (by decide)) ⟨vp_in_nI hj (by omega), ?_⟩)
  rw [e]
  exact br_f (sj_hd1 h hj q) k
theorem sy_thereF {post : Int32 → Prop} (h : sj_hd p hd) {x : Int32} (q : ¬ sj_has p x) (k : post 0) : wpY_there post (mo, lim, fu, fd, mi, mb, hd, rel, len, kin, due, wt, pr, be) x := by
  rcases pk_ix x (n := 5) (by decide) with a | a | ⟨j, hj, rfl⟩
  · exact br_t a k
  · by_cases z : x < 0
    · exact br_t z k
    · exact br_f z (br_t a k)
  · have e : (nI j).toNatClampNeg = j := nI_clamp (by omega)
    refine br_f (nI_pos (by omega)) (br_f (nI_ge (b := 5) hj (by decide)) ⟨vp_in_nI hj (by omega), ?_⟩)
    rw [e]
    exact br_t (sj_hd0 h hj (fun z => q ((sj_hasn hj).mpr z))) k
theorem sy_cost {post : Int32 → Prop} {j : Nat} (hj : j < 5) {t : Int32} (k : post (sj_c32 (kin j) (due j) (wt j) t)) : wpY_cost post (mo, lim, fu, fd, mi, mb, hd, rel, len, kin, due, wt, pr, be) (nI j) t := by
  have hi : vp_in (nI j) 5 := vp_in_nI hj (by omega)
  have e : (nI j).toNatClampNeg = j := nI_clamp (by omega)
  unfold wpY_cost
  dsimp only
  rw [e]
  refine ⟨hi, nm_e ⟨hi, ?_⟩⟩
  unfold sj_c32 at k
  by_cases h1 : kin j = 1
  · rw [if_pos h1] at k
    exact br_t h1 ⟨hi, k⟩
  · rw [if_neg h1] at k
    by_cases h2 : t - due j ≤ 0
    · rw [if_pos h2] at k
      exact br_f h1 (br_f (Int32.not_lt.mpr h2) k)
    · rw [if_neg h2] at k
      refine br_f h1 (br_t (Int32.not_le.mp h2) ⟨hi, ?_⟩)
      by_cases h3 : kin j = 0
      · rw [if_pos h3] at k
        exact br_t h3 ⟨hi, k⟩
      · rw [if_neg h3] at k
        refine br_f h3 ⟨hi, ?_⟩
        by_cases h4 : kin j = 2
        · rw [if_pos h4] at k
          exact br_t h4 ⟨hi, k⟩
        · rw [if_neg h4] at k
          exact br_f h4 k
/-- job i lets job j begin -/
def sj_rd (p : Nat) (len pr : Nat → Int32) (s j i : Nat) : Prop := p.testBit i = true → (sj_N pr j).testBit i = true → sj_N len i ≤ sj_dg s i
theorem sy_ready5 {post : Int32 → Prop} (h : sj_hd p hd) (hpr : sj_le pr 31) (hlen : sj_le len 3) {s j : Nat} (hs : s < 1024) (hj : j < 5)
    (k1 : (∀ i, i < 5 → sj_rd p len pr s j i) → post 1) (k0 : ¬ (∀ i, i < 5 → sj_rd p len pr s j i) → post 0) :
    ∀ d i x3, i + d = 5 → ((x3 = 1 ∧ ∀ a, a < i → sj_rd p len pr s j a) ∨ (x3 = 0 ∧ ¬ (∀ i, i < 5 → sj_rd p len pr s j i))) → wY_ready_5 post (nI s) (nI j) mo lim fu fd mi mb hd rel len kin due wt pr be (d + 1) x3 (nI i) := by
  intro d
  induction d with
  | zero =>
    intro i x3 hi g
    have hi : i = 5 := hi
    subst hi
    rcases g with ⟨rfl, g⟩ | ⟨rfl, g⟩
    · exact br_t (by decide) ⟨rfl, k1 g⟩
    · exact br_t (by decide) ⟨rfl, k0 g⟩
  | succ d ih =>
    intro i x3 hi g
    have hi5 : i < 5 := by omega
    have vi : vp_in (nI i) 5 := vp_in_nI hi5 (by omega)
    have ci : (nI i).toNatClampNeg = i := nI_clamp (by omega)
    have cj : (nI j).toNatClampNeg = j := nI_clamp (by omega)
    have go : sj_rd p len pr s j i → wY_ready_5 post (nI s) (nI j) mo lim fu fd mi mb hd rel len kin due wt pr be (d + 1) x3 (nI (i + 1)) := by
      intro r
      refine ih (i + 1) x3 (by omega) ?_
      rcases g with ⟨e, g⟩ | g
      · refine Or.inl ⟨e, fun a ha => ?_⟩
        by_cases q : a = i
        · subst q; exact r
        · exact g a (by omega)
      · exact Or.inr g
    refine br_f (nI_ge (b := 5) hi5 (by decide)) ⟨vi, ?_⟩
    rw [ci, cj]
    by_cases q : p.testBit i = true
    · refine br_f (sj_hd1 h hi5 q) ⟨vp_in_nI hj (by omega), ?_⟩
      obtain ⟨e, le⟩ := sj_Ne hpr (by omega) hj
      obtain ⟨e2, le2⟩ := sj_Ne hlen (by omega) hi5
      have bt : ((pr j >>> (nI i &&& 31)) &&& 1 = 1) ↔ (sj_N pr j).testBit i = true := by
        have z := sj_sh1 (sj_N pr j) (by omega) i hi5
        rw [← e] at z
        exact z
      have d3 := sj_dg3' s i
      by_cases w : (sj_N pr j).testBit i = true
      · refine br_t (bt.mpr w) ⟨vi, ?_⟩
        rw [sj_used hs hi5, e2]
        by_cases v : sj_N len i ≤ sj_dg s i
        · exact br_t (nI_le v (by omega)) (nm_r (nI_1 i) (go (fun _ _ => v)))
        · exact br_f (nI_ge (by omega) (by omega)) (nm_r (nI_1 i) (ih (i + 1) 0 (by omega) (Or.inr ⟨rfl, fun z => v (z i hi5 q w)⟩)))
      · exact br_f (fun z => w (bt.mp z)) (nm_r (nI_1 i) (go (fun _ z => absurd z w)))
    · exact br_t (sj_hd0 h hi5 q) (nm_r (nI_1 i) (go (fun z => absurd z q)))
theorem sy_ready {post : Int32 → Prop} (h : sj_hd p hd) (hpr : sj_le pr 31) (hlen : sj_le len 3) {s j : Nat} (hs : s < 1024) (hj : j < 5)
    (k1 : (∀ i, i < 5 → sj_rd p len pr s j i) → post 1) (k0 : ¬ (∀ i, i < 5 → sj_rd p len pr s j i) → post 0) : wpY_ready post (mo, lim, fu, fd, mi, mb, hd, rel, len, kin, due, wt, pr, be) (nI s) (nI j) :=
  ⟨6, sy_ready5 h hpr hlen hs hj k1 k0 5 0 1 (by omega) (Or.inl ⟨rfl, fun a ha => absurd ha (by omega)⟩)⟩
end
end
section
/-! ===== the reference: its table ===== -/
def sj_dn : Nat → Int32
  | 0 => -1
  | n + 1 => nI n
theorem sj_dn1 (n : Nat) : nI n + (-1) = sj_dn n := by
  cases n with
  | zero => decide
  | succ n => exact pk_m1 n
/-- the table's rows for a state -/
def sj_KK (kin due wt : Nat → Int32) : Int → Nat → Nat → Prop := fun b => sj_K kin due wt b
section
variable {mo lim fu fd mi mb : Int32} {p : Nat} {hd rel len kin due wt pr be : Nat → Int32} {A : Nat → Nat → Bool}
/-- the links as the reference reads them -/
def sj_rl (p : Nat) (pr : Nat → Int32) (A : Nat → Nat → Bool) : Prop := ∀ i j, i < 5 → j < 5 → p.testBit j = true → (A i j = true ↔ (p.testBit i = true ∧ (sj_N pr j).testBit i = true))
theorem sy_122 {post : SY → Prop} {J2 : Int32 → (Nat → Int32) → (Nat → Int32) → (Nat → Int32) → (Nat → Int32) → (Nat → Int32) → (Nat → Int32) → (Nat → Int32) → (Nat → Int32) → Prop} {x2 z0 : Int32} {s j t : Nat} (hj : j < 5) (hto : s + 4 ^ j < 1024)
    (hT : sj_T be (sj_Qj p.testBit (sj_N len) (sj_N rel) A (sj_My mi mb) (sj_KK kin due wt) t s j)) (c1 : -2000 ≤ z0.toInt) (c2 : z0.toInt ≤ 9999)
    (hc : ∀ b : Int, -2000 ≤ b → b ≤ 9998 → (z0.toInt ≤ b ↔ (sj_ok p.testBit (sj_N len) (sj_N rel) A (sj_My mi mb) (sj_KK kin due wt b) t s j ∧ sj_rc p.testBit (sj_N len) (sj_N rel) A (sj_My mi mb) (sj_KK kin due wt b) t s)))
    (k : ∀ be', sj_T be' (sj_Qj p.testBit (sj_N len) (sj_N rel) A (sj_My mi mb) (sj_KK kin due wt) t s (j + 1)) → J2 (nI (j + 1)) hd rel len kin due wt pr be') :
    wY_oneUnit_122 post J2 (nI s) x2 (nI j) z0 mo lim fu fd mi mb hd rel len kin due wt pr be := by
  have v : vp_in (nI (s + 4 ^ j)) 1024 := vp_in_nI hto (by omega)
  have ct : (nI (s + 4 ^ j)).toNatClampNeg = s + 4 ^ j := nI_clamp (by omega)
  unfold wY_oneUnit_122
  refine nm_r (sj_to hj hto) ⟨v, ?_⟩
  rw [ct]
  by_cases q : be (s + 4 ^ j) ≤ z0
  · refine br_t q ⟨v, v, nm_e (nm_r (nI_1 j) (k _ ?_))⟩
    exact sj_Te (sj_Tput hT hto c1 c2 hc ⟨fun z => absurd q (Int32.not_le.mpr z), fun _ => rfl⟩) (fun b x _ _ _ => sj_Qjs b x)
  · refine br_f q ⟨v, nm_e (nm_r (nI_1 j) (k _ ?_))⟩
    exact sj_Te (sj_Tput hT hto c1 c2 hc ⟨fun _ => rfl, fun z => absurd (Int32.not_le.mp q) z⟩) (fun b x _ _ _ => sj_Qjs b x)
theorem sy_71 {post : SY → Prop} {J2 : Int32 → (Nat → Int32) → (Nat → Int32) → (Nat → Int32) → (Nat → Int32) → (Nat → Int32) → (Nat → Int32) → (Nat → Int32) → (Nat → Int32) → Prop} {s j t : Nat} (B : sj_bnd p rel len kin due wt) (hs : s < 1024) (hj : j < 5) (ht : t < 34)
    (ho : ∀ b, (sj_dg s j + 1 = sj_N len j → sj_KK kin due wt b j (t + 1)) → sj_ok p.testBit (sj_N len) (sj_N rel) A (sj_My mi mb) (sj_KK kin due wt b) t s j) (hd3 : sj_dg s j < 3)
    (hT : sj_T be (sj_Qj p.testBit (sj_N len) (sj_N rel) A (sj_My mi mb) (sj_KK kin due wt) t s j))
    (k : ∀ be', sj_T be' (sj_Qj p.testBit (sj_N len) (sj_N rel) A (sj_My mi mb) (sj_KK kin due wt) t s (j + 1)) → J2 (nI (j + 1)) hd rel len kin due wt pr be') :
    wY_oneUnit_71 post J2 (nI s) (nI t) (nI j) (nI (sj_dg s j)) mo lim fu fd mi mb hd rel len kin due wt pr be := by
  have vj : vp_in (nI j) 5 := vp_in_nI hj (by omega)
  have cj : (nI j).toNatClampNeg = j := nI_clamp (by omega)
  have cs : (nI s).toNatClampNeg = s := nI_clamp (by omega)
  have vs : vp_in (nI s) 1024 := vp_in_nI hs (by omega)
  obtain ⟨el, ll⟩ := sj_Ne B.2.2.1 (by omega) hj
  have hto := sj_lt1024 hj hd3 hs
  obtain ⟨⟨s1, s2⟩, s3⟩ := hT s hs
  -- the greater of the two, whichever it is
  have g98 : ∀ z0 : Int32, -2000 ≤ z0.toInt → z0.toInt ≤ 9999 → (∀ b : Int, -2000 ≤ b → b ≤ 9998 → (z0.toInt ≤ b ↔ (sj_dg s j + 1 = sj_N len j → sj_KK kin due wt b j (t + 1)))) → wY_oneUnit_98 post J2 (nI s) (nI t) (nI j) z0 mo lim fu fd mi mb hd rel len kin due wt pr be := by
    intro z0 z1 z2 z3
    unfold wY_oneUnit_98
    refine ⟨vs, ?_⟩
    rw [cs]
    have hc : ∀ b : Int, -2000 ≤ b → b ≤ 9998 → ((z0.toInt ≤ b ∧ (be s).toInt ≤ b) ↔ (sj_ok p.testBit (sj_N len) (sj_N rel) A (sj_My mi mb) (sj_KK kin due wt b) t s j ∧ sj_rc p.testBit (sj_N len) (sj_N rel) A (sj_My mi mb) (sj_KK kin due wt b) t s)) := by
      intro b b1 b2
      rw [z3 b b1 b2, s3 b b1 b2, sj_Qjx]
      exact ⟨fun ⟨a, a'⟩ => ⟨ho b a, a'⟩, fun ⟨a, a'⟩ => ⟨a.2.2.2.2.2.2, a'⟩⟩
    by_cases q : z0 ≤ be s
    · have q' := q
      rw [sj_leI] at q'
      refine br_t q ⟨vs, sy_122 hj hto hT s1 s2 (fun b b1 b2 => ?_) k⟩
      rw [← hc b b1 b2]
      omega
    · have q' := q
      rw [sj_leI] at q'
      refine br_f q (sy_122 hj hto hT z1 z2 (fun b b1 b2 => ?_) k)
      rw [← hc b b1 b2]
      omega
  unfold wY_oneUnit_71
  refine ⟨vj, ?_⟩
  rw [cj, el, nI_1, nI_1]
  by_cases q : sj_dg s j + 1 = sj_N len j
  · refine br_t (by rw [q]) (sy_cost hj ?_)
    have e := sj_cK B (t := t + 1) hj (by omega)
    have r := sj_Kb B (t := t + 1) hj (by omega)
    refine g98 _ (by omega) (by omega) (fun b b1 b2 => ?_)
    rw [e]
    exact ⟨fun a _ => a, fun a => a q⟩
  · refine br_f (fun z => q ((nI_eq (by omega) (by omega)).mp z)) (g98 _ (by decide) (by decide) (fun b b1 b2 => ?_))
    have e : (-2000 : Int32).toInt = -2000 := by decide
    rw [e]
    exact ⟨fun _ a => absurd a q, fun _ => b1⟩
theorem sy_one2 {post : SY → Prop} {s t : Nat} (B : sj_bnd p rel len kin due wt) (h : sj_hd p hd) (hpr : sj_le pr 31) (hrl : sj_rl p pr A) (hs : s < 1024) (ht : t < 34)
    (k : ∀ be', sj_T be' (sj_Q p.testBit (sj_N len) (sj_N rel) A (sj_My mi mb) (sj_KK kin due wt) t s) → post (mo, lim, fu, fd, mi, mb, hd, rel, len, kin, due, wt, pr, be')) :
    ∀ d j be, j + d = 5 → sj_T be (sj_Qj p.testBit (sj_N len) (sj_N rel) A (sj_My mi mb) (sj_KK kin due wt) t s j) → wY_oneUnit_2 post (nI s) (nI t) mo lim fu fd mi mb (d + 1) (nI j) hd rel len kin due wt pr be := by
  intro d
  induction d with
  | zero =>
    intro j be hj hT
    have hj : j = 5 := hj
    subst hj
    exact br_t (by decide) (k be (sj_Te hT (fun b x _ _ _ => sj_Qj5 b x)))
  | succ d ih =>
    intro j be hj hT
    have hj5 : j < 5 := by omega
    have vj : vp_in (nI j) 5 := vp_in_nI hj5 (by omega)
    have cj : (nI j).toNatClampNeg = j := nI_clamp (by omega)
    obtain ⟨el, ll⟩ := sj_Ne B.2.2.1 (by omega) hj5
    obtain ⟨er, lr⟩ := sj_Ne B.2.1 (by omega) hj5
    have d3 := sj_dg3' s j
    -- the job can't have the unit
    have skip : (∀ b, ¬ sj_ok p.testBit (sj_N len) (sj_N rel) A (sj_My mi mb) (sj_KK kin due wt b) t s j) → wY_oneUnit_2 post (nI s) (nI t) mo lim fu fd mi mb (d + 1) (nI (j + 1)) hd rel len kin due wt pr be :=
      fun n => ih (j + 1) be (by omega) (sj_Te hT (fun b x _ _ _ => sj_Qjn b x (n b)))
    refine br_f (nI_ge (b := 5) hj5 (by decide)) (nm_r (sj_used hs hj5) ⟨vj, ?_⟩)
    rw [cj, er]
    by_cases q : p.testBit j = true
    · refine br_f (sj_hd1 h hj5 q) ⟨vj, ?_⟩
      by_cases q2 : sj_N len j ≤ sj_dg s j
      · refine br_t (by rw [el]; exact nI_le q2 (by omega)) (nm_r (nI_1 j) (skip (fun b o => ?_)))
        have := o.2.2.1
        omega
      · refine br_f (by rw [el]; exact nI_ge (by omega) (by omega)) ⟨vj, ?_⟩
        by_cases q3 : t < sj_N rel j
        · refine br_t (nI_lt q3 (by omega)) (nm_r (nI_1 j) (skip (fun b o => ?_)))
          have := o.2.2.2.1
          omega
        · refine br_f (nI_nlt (by omega) (by omega)) (sy_ready h hpr B.2.2.1 hs hj5 (fun r => ?_) (fun r => ?_))
          · have go : sj_My mi mb j t → wY_oneUnit_71 post (wY_oneUnit_2 post (nI s) (nI t) mo lim fu fd mi mb (d + 1)) (nI s) (nI t) (nI j) (nI (sj_dg s j)) mo lim fu fd mi mb hd rel len kin due wt pr be := fun m =>
              sy_71 B hs hj5 ht (fun b kk => ⟨hj5, q, by omega, by omega, fun i hi a => by
                obtain ⟨a1, a2⟩ := (hrl i j hi hj5 q).mp a
                exact r i hi a1 a2, m, kk⟩) (by omega) hT (fun be' hT' => ih (j + 1) be' (by omega) hT')
            refine br_f (by decide) ?_
            by_cases q4 : nI j = mi
            · refine br_t q4 ?_
              by_cases q5 : mb ≤ nI t
              · refine br_t q5 (nm_r (nI_1 j) (skip (fun b o => ?_)))
                exact absurd q5 (Int32.not_le.mpr (o.2.2.2.2.2.1 q4))
              · exact br_f q5 (go (fun _ => Int32.not_le.mp q5))
            · exact br_f q4 (go (fun z => absurd z q4))
          · refine br_t rfl (nm_r (nI_1 j) (skip (fun b o => r (fun i hi a1 a2 => ?_))))
            exact o.2.2.2.2.1 i hi ((hrl i j hi hj5 q).mpr ⟨a1, a2⟩)
    · exact br_t (sj_hd0 h hj5 q) (nm_r (nI_1 j) (skip (fun b o => q o.2.1)))
theorem sy_one {post : SY → Prop} {s t : Nat} (B : sj_bnd p rel len kin due wt) (h : sj_hd p hd) (hpr : sj_le pr 31) (hrl : sj_rl p pr A) (hs : s < 1024) (ht : t < 34)
    (hT : sj_T be (sj_Q p.testBit (sj_N len) (sj_N rel) A (sj_My mi mb) (sj_KK kin due wt) t (s + 1)))
    (k : ∀ be', sj_T be' (sj_Q p.testBit (sj_N len) (sj_N rel) A (sj_My mi mb) (sj_KK kin due wt) t s) → post (mo, lim, fu, fd, mi, mb, hd, rel, len, kin, due, wt, pr, be')) :
    wpY_oneUnit post (mo, lim, fu, fd, mi, mb, hd, rel, len, kin, due, wt, pr, be) (nI s) (nI t) :=
  ⟨6, sy_one2 B h hpr hrl hs ht k 5 0 be (by omega) (sj_Te hT (fun b x _ _ _ => sj_Qj0 b x))⟩
/-- what a run of the table tells -/
def sj_Z (p : Nat) (rel len kin due wt : Nat → Int32) (A : Nat → Nat → Bool) (M : Nat → Nat → Prop) (d : Nat) : Prop := sj_rc p.testBit (sj_N len) (sj_N rel) A M (sj_KK kin due wt 9998) d (sj_Fu p len)
theorem sy_s116 {post : SY → Prop} {J101 : Int32 → Int32 → Int32 → Int32 → Int32 → Int32 → Int32 → (Nat → Int32) → (Nat → Int32) → (Nat → Int32) → (Nat → Int32) → (Nat → Int32) → (Nat → Int32) → (Nat → Int32) → (Nat → Int32) → Prop} {t : Nat}
    (B : sj_bnd p rel len kin due wt) (h : sj_hd p hd) (hpr : sj_le pr 31) (hrl : sj_rl p pr A) (ht : t < 34) (hfd : sj_FD fd t (sj_Z p rel len kin due wt A (sj_My mi mb)))
    (k : ∀ be' fd', sj_T be' (fun b x => sj_rc p.testBit (sj_N len) (sj_N rel) A (sj_My mi mb) (sj_KK kin due wt b) (t + 1) x) → sj_FD fd' (t + 1) (sj_Z p rel len kin due wt A (sj_My mi mb)) → J101 (nI (t + 1)) mo lim (nI (sj_Fu p len)) fd' mi mb hd rel len kin due wt pr be') :
    ∀ c be, c ≤ sj_Fu p len + 1 → sj_T be (sj_Q p.testBit (sj_N len) (sj_N rel) A (sj_My mi mb) (sj_KK kin due wt) t c) → wY_solve_116 post J101 (nI t) (c + 1) (sj_dn c) mo lim (nI (sj_Fu p len)) fd mi mb hd rel len kin due wt pr be := by
  have hfl : sj_Fu p len < 1024 := sj_fcl (sj_hL B)
  have ef : nI (sj_Fu p len) &&& 1023 = nI (sj_Fu p len) := by rw [pk_andN (by omega) 10 (by decide), Nat.mod_eq_of_lt hfl]
  have cf : (nI (sj_Fu p len)).toNatClampNeg = sj_Fu p len := nI_clamp (by omega)
  have n9 : (9999 : Int32).toInt = 9999 := by decide
  intro c
  induction c with
  | zero =>
    intro be _ hT
    have hT' : sj_T be (fun b x => sj_rc p.testBit (sj_N len) (sj_N rel) A (sj_My mi mb) (sj_KK kin due wt b) (t + 1) x) := sj_Te hT (fun b x _ _ _ => sj_Qe b x)
    refine br_t (by decide) ?_
    rcases hfd with ⟨rfl, n⟩ | ⟨d, hd1, rfl, z, mn⟩
    · refine br_f (by decide) ⟨by rw [ef]; exact vp_in_nI hfl (by omega), ?_⟩
      rw [ef, cf]
      have zz : (be (sj_Fu p len)).toInt ≤ 9998 ↔ sj_Z p rel len kin due wt A (sj_My mi mb) (t + 1) := (hT' (sj_Fu p len) hfl).2 9998 (by omega) (by omega)
      by_cases q : 9999 ≤ be (sj_Fu p len)
      · refine br_t q (nm_r (nI_1 t) (k be (-1) hT' (Or.inl ⟨rfl, fun d hd2 => ?_⟩)))
        by_cases e : d = t + 1
        · subst e
          intro w
          rw [sj_leI, n9] at q
          have := zz.mpr w
          omega
        · exact n d (by omega)
      · refine br_f q (nm_r (nI_1 t) (nm_r (nI_1 t) (k be (nI (t + 1)) hT' (Or.inr ⟨t + 1, by omega, rfl, zz.mp ?_, fun e he => n e (by omega)⟩))))
        rw [sj_leI, n9] at q
        omega
    · exact br_t (nI_pos' (by omega)) (nm_r (nI_1 t) (k be (nI d) hT' (Or.inr ⟨d, by omega, rfl, z, mn⟩)))
  | succ c ih =>
    intro be hc hT
    have hc' : c < 1024 := by omega
    have cc : (nI c).toNatClampNeg = c := nI_clamp (by omega)
    refine br_f (nI_pos (by omega)) ⟨vp_in_nI hc' (by omega), ?_⟩
    show (9999 ≤ be (nI c).toNatClampNeg → _) ∧ (¬ 9999 ≤ be (nI c).toNatClampNeg → _)
    rw [cc]
    by_cases q : 9999 ≤ be c
    · refine br_t q (nm_r (sj_dn1 c) (ih be (by omega) (sj_Te hT (fun b x _ b1 b2 => sj_Qn b x (fun rc => ?_)))))
      have := ((hT c hc').2 b b1 b2).mpr (Or.inl rc)
      rw [sj_leI, n9] at q
      omega
    · exact br_f q (sy_one B h hpr hrl hc' ht hT (fun be' hT' => nm_r (sj_dn1 c) (ih be' (by omega) hT')))
theorem sy_s101 {post : SY → Prop} (B : sj_bnd p rel len kin due wt) (h : sj_hd p hd) (hpr : sj_le pr 31) (hrl : sj_rl p pr A)
    (k : ∀ be' fd', sj_T be' (fun b x => sj_rc p.testBit (sj_N len) (sj_N rel) A (sj_My mi mb) (sj_KK kin due wt b) 34 x) → sj_FD fd' 34 (sj_Z p rel len kin due wt A (sj_My mi mb)) → post (mo, lim, nI (sj_Fu p len), fd', mi, mb, hd, rel, len, kin, due, wt, pr, be')) :
    ∀ d t be fd, t + d = 34 → sj_T be (fun b x => sj_rc p.testBit (sj_N len) (sj_N rel) A (sj_My mi mb) (sj_KK kin due wt b) t x) → sj_FD fd t (sj_Z p rel len kin due wt A (sj_My mi mb)) →
      wY_solve_101 post (d + 1) (nI t) mo lim (nI (sj_Fu p len)) fd mi mb hd rel len kin due wt pr be := by
  have hfl : sj_Fu p len < 1024 := sj_fcl (sj_hL B)
  have ef : nI (sj_Fu p len) &&& 1023 = nI (sj_Fu p len) := by rw [pk_andN (by omega) 10 (by decide), Nat.mod_eq_of_lt hfl]
  intro d
  induction d with
  | zero =>
    intro t be fd ht hT hf
    have ht : t = 34 := ht
    subst ht
    exact br_t (by decide) (k be fd hT hf)
  | succ d ih =>
    intro t be fd ht hT hf
    exact br_f (nI_ge (b := 34) (by omega) (by decide)) (nm_r ef ⟨sj_Fu p len + 1 + 1, sy_s116 B h hpr hrl (by omega) hf (fun be' fd' hT' hf' => ih (t + 1) be' fd' (by omega) hT' hf') (sj_Fu p len + 1) be (by omega) (sj_Te hT (fun b x _ _ _ => sj_Qs (sj_hL B) b x))⟩)
theorem sy_s52 {post : SY → Prop} (B : sj_bnd p rel len kin due wt) (h : sj_hd p hd) (hpr : sj_le pr 31) (hrl : sj_rl p pr A)
    (k : ∀ be' fd', sj_T be' (fun b x => sj_rc p.testBit (sj_N len) (sj_N rel) A (sj_My mi mb) (sj_KK kin due wt b) 34 x) → sj_FD fd' 34 (sj_Z p rel len kin due wt A (sj_My mi mb)) → post (mo, lim, nI (sj_Fu p len), fd', mi, mb, hd, rel, len, kin, due, wt, pr, be')) :
    ∀ d x be, x + d = 1024 → (∀ y, y < x → be y = 9999) → wY_solve_52 post mo lim (nI (sj_Fu p len)) fd mi mb (d + 1) (nI x) hd rel len kin due wt pr be := by
  have hfl : sj_Fu p len < 1024 := sj_fcl (sj_hL B)
  intro d
  induction d with
  | zero =>
    intro x be hx hb
    have hx : x = 1024 := hx
    subst hx
    have hT : sj_T (upd be 0 (-2000)) (fun b x => sj_rc p.testBit (sj_N len) (sj_N rel) A (sj_My mi mb) (sj_KK kin due wt b) 0 x) := by
      intro y hy
      have e1 : (-2000 : Int32).toInt = -2000 := by decide
      have e2 : (9999 : Int32).toInt = 9999 := by decide
      by_cases z : y = 0
      · subst z
        rw [sj_us, e1]
        exact ⟨⟨by omega, by omega⟩, fun b b1 b2 => ⟨fun _ => rfl, fun _ => b1⟩⟩
      · rw [sj_un z, hb y hy, e2]
        exact ⟨⟨by omega, by omega⟩, fun b b1 b2 => ⟨fun w => absurd w (by omega), fun w => absurd w z⟩⟩
    refine br_t (by decide) (nm_e ?_)
    by_cases q : sj_Fu p len = 0
    · refine br_t (by rw [q]; rfl) ⟨35, sy_s101 B h hpr hrl k 34 0 _ 0 (by omega) hT (Or.inr ⟨0, by omega, rfl, q, fun e he => absurd he (by omega)⟩)⟩
    · refine br_f (nI_ne0 (by omega) (by omega)) ⟨35, sy_s101 B h hpr hrl k 34 0 _ (-1) (by omega) hT (Or.inl ⟨rfl, fun e he z => ?_⟩)⟩
      obtain rfl : e = 0 := by omega
      exact q z
  | succ d ih =>
    intro x be hx hb
    have cx : (nI x).toNatClampNeg = x := nI_clamp (by omega)
    refine br_f (nI_ge (b := 1024) (by omega) (by decide)) ⟨vp_in_nI (by omega) (by omega), ?_⟩
    rw [cx]
    refine nm_e (nm_r (nI_1 x) (ih (x + 1) _ (by omega) (fun y hy => ?_)))
    by_cases e : y = x
    · subst e; exact sj_us
    · rw [sj_un e]; exact hb y (by omega)
theorem sj_P4 {H : Nat → Bool} {L : Nat → Nat} : sj_P (fun j => sj_x H L j * 4 ^ j) 5 = sj_fc H L := by
  show 0 + sj_x H L 0 * 4 ^ 0 + sj_x H L 1 * 4 ^ 1 + sj_x H L 2 * 4 ^ 2 + sj_x H L 3 * 4 ^ 3 + sj_x H L 4 * 4 ^ 4 = sj_x H L 0 + sj_x H L 1 * 4 + sj_x H L 2 * 16 + sj_x H L 3 * 64 + sj_x H L 4 * 256
  omega
theorem sy_s7 {post : SY → Prop} (B : sj_bnd p rel len kin due wt) (h : sj_hd p hd) (hpr : sj_le pr 31) (hrl : sj_rl p pr A)
    (k : ∀ be' fd', sj_T be' (fun b x => sj_rc p.testBit (sj_N len) (sj_N rel) A (sj_My mi mb) (sj_KK kin due wt b) 34 x) → sj_FD fd' 34 (sj_Z p rel len kin due wt A (sj_My mi mb)) → post (mo, lim, nI (sj_Fu p len), fd', mi, mb, hd, rel, len, kin, due, wt, pr, be')) :
    ∀ d j, j + d = 5 → wY_solve_7 post mo lim fd mi mb hd rel len kin due wt pr be (d + 1) (nI j) (nI (sj_P (fun j => sj_x p.testBit (sj_N len) j * 4 ^ j) j)) := by
  intro d
  induction d with
  | zero =>
    intro j hj
    have hj : j = 5 := hj
    subst hj
    rw [sj_P4]
    exact br_t (by decide) ⟨1025, sy_s52 B h hpr hrl k 1024 0 be (by omega) (fun y hy => absurd hy (by omega))⟩
  | succ d ih =>
    intro j hj
    have hj5 : j < 5 := by omega
    have vj : vp_in (nI j) 5 := vp_in_nI hj5 (by omega)
    have cj : (nI j).toNatClampNeg = j := nI_clamp (by omega)
    obtain ⟨el, ll⟩ := sj_Ne B.2.2.1 (by omega) hj5
    have nx := ih (j + 1) (by omega)
    have e5 : sj_P (fun j => sj_x p.testBit (sj_N len) j * 4 ^ j) (j + 1) = sj_P (fun j => sj_x p.testBit (sj_N len) j * 4 ^ j) j + sj_x p.testBit (sj_N len) j * 4 ^ j := rfl
    rw [e5] at nx
    refine br_f (nI_ge (b := 5) hj5 (by decide)) ⟨vj, ?_⟩
    rw [cj]
    by_cases q : p.testBit j = true
    · rw [sj_xt q] at nx
      have es : len j <<< ((2 * nI j) &&& 31) = nI (sj_N len j * 4 ^ j) := by
        have p4 : 4 ^ j ≤ 256 := by rcases sj_c5 hj5 with rfl | rfl | rfl | rfl | rfl <;> decide
        have mm : sj_N len j * 4 ^ j ≤ 3 * 256 := Nat.mul_le_mul ll p4
        rw [el, pk_shlN _ (2 * j) (sj_s2 j hj5) (by rw [sj_24 j hj5]; omega), sj_24 j hj5]
      refine br_f (sj_hd1 h hj5 q) ⟨vj, ?_⟩
      rw [es]
      exact nm_r (nI_add _ _) (nm_r (nI_1 j) nx)
    · rw [sj_xf q, Nat.zero_mul, Nat.add_zero] at nx
      exact br_t (sj_hd0 h hj5 q) (nm_r (Int32.add_zero _) (nm_r (nI_1 j) nx))
theorem sy_solve {post : SY → Prop} (B : sj_bnd p rel len kin due wt) (h : sj_hd p hd) (hpr : sj_le pr 31) (hrl : sj_rl p pr A)
    (k : ∀ be' fd', sj_T be' (fun b x => sj_rc p.testBit (sj_N len) (sj_N rel) A (sj_My mi mb) (sj_KK kin due wt b) 34 x) → sj_FD fd' 34 (sj_Z p rel len kin due wt A (sj_My mi mb)) → post (mo, lim, nI (sj_Fu p len), fd', mi, mb, hd, rel, len, kin, due, wt, pr, be')) :
    wpY_solve post (mo, lim, fu, fd, mi, mb, hd, rel, len, kin, due, wt, pr, be) :=
  ⟨6, sy_s7 B h hpr hrl k 5 0 (by omega)⟩
end
end
section
/-! ===== the reference: is there a good plan; both: reached along links ===== -/
theorem sj_rlk {p : Nat} {af pr : Nat → Int32} (h : sj_lk p af pr) : sj_rl p pr (sj_A p af) := by
  intro i j hi hj q
  have e := h.2.2.2 i j hi hj q
  unfold sj_A
  rw [e, q]
  simp
section
variable {mo lim fu fd mi mb : Int32} {p : Nat} {hd rel len kin due wt pr be : Nat → Int32} {A : Nat → Nat → Bool}
theorem sy_good {post : Int32 → SY → Prop} (B : sj_bnd p rel len kin due wt) (h : sj_hd p hd) (hpr : sj_le pr 31) (hrl : sj_rl p pr A) (hlim : -200 ≤ lim.toInt ∧ lim.toInt ≤ 1000)
    (k1 : sj_rc p.testBit (sj_N len) (sj_N rel) A (sj_My mi mb) (sj_K kin due wt lim.toInt) 34 (sj_Fu p len) → ∀ fu' fd' be', post 1 (mo, lim, fu', fd', mi, mb, hd, rel, len, kin, due, wt, pr, be'))
    (k0 : ¬ sj_rc p.testBit (sj_N len) (sj_N rel) A (sj_My mi mb) (sj_K kin due wt lim.toInt) 34 (sj_Fu p len) → ∀ fu' fd' be', post 0 (mo, lim, fu', fd', mi, mb, hd, rel, len, kin, due, wt, pr, be')) :
    wpY_good post (mo, lim, fu, fd, mi, mb, hd, rel, len, kin, due, wt, pr, be) := by
  have hfl : sj_Fu p len < 1024 := sj_fcl (sj_hL B)
  have ef : nI (sj_Fu p len) &&& 1023 = nI (sj_Fu p len) := by rw [pk_andN (by omega) 10 (by decide), Nat.mod_eq_of_lt hfl]
  have cf : (nI (sj_Fu p len)).toNatClampNeg = sj_Fu p len := nI_clamp (by omega)
  unfold wpY_good
  dsimp only
  refine sy_solve B h hpr hrl (fun be' fd' hT hf => ?_)
  dsimp only
  rw [ef, cf]
  have e : (be' (sj_Fu p len)).toInt ≤ lim.toInt ↔ sj_rc p.testBit (sj_N len) (sj_N rel) A (sj_My mi mb) (sj_K kin due wt lim.toInt) 34 (sj_Fu p len) := (hT (sj_Fu p len) hfl).2 lim.toInt (by omega) (by omega)
  refine ⟨vp_in_nI hfl (by omega), ?_⟩
  by_cases q : lim < be' (sj_Fu p len)
  · refine br_t q (k0 (fun z => ?_) _ _ _)
    rw [sj_ltI] at q
    have := e.mpr z
    omega
  · refine br_f q (k1 (e.mp ?_) _ _ _)
    rw [sj_ltI] at q
    omega
end
theorem sj_Mm1 {mb : Int32} {j t : Nat} (hj : j < 5) : sj_My (-1) mb j t := by
  intro e
  have := congrArg Int32.toInt e
  rw [nI_toInt (by omega), sj_im1] at this
  omega
/-- with no job that must be done, the table is the plain one -/
theorem sj_G0 {p : Nat} {rel len kin due wt af : Nat → Int32} {mb : Int32} {b : Int} {t : Nat} :
    sj_rc p.testBit (sj_N len) (sj_N rel) (sj_A p af) (sj_My (-1) mb) (sj_K kin due wt b) t (sj_Fu p len) ↔ sj_G p rel len kin due wt af sj_M0 b t (sj_Fu p len) := by
  constructor
  · exact fun h => sj_Gmono (fun _ _ _ => Nat.le_refl _) (fun _ _ _ _ a => a) (fun _ _ _ _ _ => trivial) (fun _ _ _ _ k => k) (fun _ _ _ => rfl) h
  · exact fun h => sj_Gmono (fun _ _ _ => Nat.le_refl _) (fun _ _ _ _ a => a) (fun _ _ hj _ _ => sj_Mm1 hj) (fun _ _ _ _ k => k) (fun _ _ _ => rfl) h
section
variable {mo lim fu fd mb : Int32} {p : Nat} {hd rel len kin due wt af pr be : Nat → Int32}
theorem sy_good0 {post : Int32 → SY → Prop} (B : sj_bnd p rel len kin due wt) (h : sj_hd p hd) (hlk : sj_lk p af pr) (hlim : -200 ≤ lim.toInt ∧ lim.toInt ≤ 1000)
    (k1 : sj_G p rel len kin due wt af sj_M0 lim.toInt 34 (sj_Fu p len) → ∀ fu' fd' be', post 1 (mo, lim, fu', fd', -1, mb, hd, rel, len, kin, due, wt, pr, be'))
    (k0 : ¬ sj_G p rel len kin due wt af sj_M0 lim.toInt 34 (sj_Fu p len) → ∀ fu' fd' be', post 0 (mo, lim, fu', fd', -1, mb, hd, rel, len, kin, due, wt, pr, be')) :
    wpY_good post (mo, lim, fu, fd, -1, mb, hd, rel, len, kin, due, wt, pr, be) :=
  sy_good B h hlk.2.1 (sj_rlk hlk) hlim (fun g => k1 (sj_G0.mp g)) (fun g => k0 (fun z => g (sj_G0.mpr z)))
end
/-! ===== reached along links: the component ===== -/
def sj_rI (A : Nat → Nat → Bool) (rk : Nat → Nat) (j r : Nat) (P : Nat → Nat → Prop) (m : Nat) : Prop :=
  m < 32 ∧ (∀ k, k < 5 → m.testBit k = true → sj_C A j k) ∧ m.testBit j = true ∧ (∀ k, k < 5 → sj_C A j k → rk k < r → m.testBit k = true) ∧
  (∀ x k, x < 5 → k < 5 → P x k → sj_C A j x → A x k = true → rk k = r → m.testBit k = true)
theorem sj_rIn {A : Nat → Nat → Bool} {rk : Nat → Nat} {j r m : Nat} {P P' : Nat → Nat → Prop} (h : sj_rI A rk j r P m) (hP : ∀ x k, x < 5 → k < 5 → P x k) (hP' : ∀ x k, ¬ P' x k) : sj_rI A rk j (r + 1) P' m := by
  obtain ⟨h0, h1, h2, h3, h4⟩ := h
  refine ⟨h0, h1, h2, fun k hk c q => ?_, fun x k _ _ z => absurd z (hP' x k)⟩
  by_cases e : rk k < r
  · exact h3 k hk c e
  · by_cases e2 : k = j
    · subst e2; exact h2
    · obtain ⟨x, hx, cx, a⟩ := sj_Cp c e2
      exact h4 x k hx hk (hP x k hx hk) cx a (by omega)
theorem sj_rI5 {A : Nat → Nat → Bool} {rk : Nat → Nat} {j m : Nat} {P : Nat → Nat → Prop} (h : sj_rI A rk j 5 P m) (h4 : ∀ k, k < 5 → rk k ≤ 4) : ∀ k, k < 5 → (m.testBit k = true ↔ sj_C A j k) :=
  fun k hk => ⟨h.2.1 k hk, fun c => h.2.2.2.1 k hk c (by have := h4 k hk; omega)⟩
section
variable {c b : Int32} {p : Nat} {rel len kin due wt af st dl lf : Nat → Int32}
theorem sx_r16 {post : Int32 → Prop} {J7 : Int32 → Int32 → Prop} {x2 f : Int32} {rk : Nat → Nat} {j r : Nat} (haf : sj_le af 31) (hb : ∀ i k, i < 5 → k < 5 → (sj_N af i).testBit k = true → sj_A p af i k = true) (hrk : sj_ord (sj_A p af) rk)
    (k : ∀ m', sj_rI (sj_A p af) rk j r (fun x _ => x < 5) m' → J7 (nI m') (nI (r + 1))) :
    ∀ d i m, i + d = 5 → sj_rI (sj_A p af) rk j r (fun x _ => x < i) m → wX_isReachable_16 post J7 x2 (nI r) c b f rel len kin due wt af st dl lf (d + 1) (nI m) (nI i) := by
  intro d
  induction d with
  | zero =>
    intro i m hi h
    have hi : i = 5 := hi
    subst hi
    exact br_t (by decide) (nm_r (nI_1 r) (k m h))
  | succ d ih =>
    intro i m hi h
    have hi5 : i < 5 := by omega
    have ci : (nI i).toNatClampNeg = i := nI_clamp (by omega)
    obtain ⟨h0, h1, h2, h3, h4⟩ := h
    obtain ⟨ea, la⟩ := sj_Ne haf (by omega) hi5
    refine br_f (nI_ge (b := 5) hi5 (by decide)) ?_
    by_cases q : m.testBit i = true
    · refine br_f (fun z => by rw [sj_bit m h0 i hi5, q] at z; exact absurd z (by decide)) ⟨vp_in_nI hi5 (by omega), ?_⟩
      rw [ci, ea, sj_or]
      refine nm_e (nm_r (nI_1 i) (ih (i + 1) _ (by omega) ⟨sj_or32 _ h0 _ (by omega), fun k hk z => ?_, ?_, fun k hk c q2 => ?_, fun x k hx hk z c a q2 => ?_⟩))
      · rw [Nat.testBit_or, Bool.or_eq_true] at z
        rcases z with z | z
        · exact h1 k hk z
        · exact sj_Cn hi5 hk (hb i k hi5 hk z) (h1 i hi5 q)
      · rw [Nat.testBit_or, h2]; rfl
      · rw [Nat.testBit_or, h3 k hk c q2]; rfl
      · rw [Nat.testBit_or]
        have z : x < i + 1 := z
        by_cases e : x = i
        · subst e
          rw [(sj_At a).2.2, Bool.or_true]
        · rw [h4 x k hx hk (show x < i by omega) c a q2]; rfl
    · have q' : m.testBit i = false := by
        cases z : m.testBit i
        · rfl
        · exact absurd z q
      refine br_t ((sj_bit m h0 i hi5).mpr q') (nm_r (nI_1 i) (ih (i + 1) m (by omega) ⟨h0, h1, h2, h3, fun x k hx hk z c a q2 => ?_⟩))
      have z : x < i + 1 := z
      by_cases e : x = i
      · subst e
        have := hrk x k hx hk a
        exact absurd (h3 x hx c (by omega)) q
      · exact h4 x k hx hk (show x < i by omega) c a q2
theorem sx_r7 {post : Int32 → Prop} {f : Int32} {rk : Nat → Nat} {i j : Nat} (hi : i < 5) (haf : sj_le af 31) (hb : ∀ i k, i < 5 → k < 5 → (sj_N af i).testBit k = true → sj_A p af i k = true) (hrk : sj_ord (sj_A p af) rk) (h4 : ∀ k, k < 5 → rk k ≤ 4)
    (k1 : sj_C (sj_A p af) j i → post 1) (k0 : ¬ sj_C (sj_A p af) j i → post 0) :
    ∀ d r m, r + d = 5 → sj_rI (sj_A p af) rk j r (fun _ _ => False) m → wX_isReachable_7 post (nI i) c b f rel len kin due wt af st dl lf (d + 1) (nI m) (nI r) := by
  intro d
  induction d with
  | zero =>
    intro r m hr h
    have hr : r = 5 := hr
    subst hr
    have e := sj_rI5 h h4 i hi
    refine br_t (by decide) ?_
    by_cases q : m.testBit i = true
    · exact br_f (fun z => by rw [sj_bit m h.1 i hi, q] at z; exact absurd z (by decide)) (k1 (e.mp q))
    · have q' : m.testBit i = false := by
        cases z : m.testBit i
        · rfl
        · exact absurd z q
      exact br_t ((sj_bit m h.1 i hi).mpr q') (k0 (fun z => q (e.mpr z)))
  | succ d ih =>
    intro r m hr h
    refine br_f (nI_ge (b := 5) (by omega) (by decide)) ⟨6, sx_r16 haf hb hrk (fun m' h' => ih (r + 1) m' (by omega) (sj_rIn h' (fun x _ hx _ => hx) (fun _ _ z => z))) 5 0 m (by omega) ?_⟩
    exact ⟨h.1, h.2.1, h.2.2.1, h.2.2.2.1, fun x k _ _ z => absurd z (by show ¬ x < 0; omega)⟩
theorem sx_reach {post : Int32 → Prop} {f : Int32} {rk : Nat → Nat} {i j : Nat} (hi : i < 5) (hj : j < 5) (haf : sj_le af 31) (hb : ∀ i k, i < 5 → k < 5 → (sj_N af i).testBit k = true → sj_A p af i k = true) (hrk : sj_ord (sj_A p af) rk)
    (k1 : sj_C (sj_A p af) j i → post 1) (k0 : ¬ sj_C (sj_A p af) j i → post 0) : wpX_isReachable post (c, b, f, rel, len, kin, due, wt, af, st, dl, lf) (nI j) (nI i) := by
  obtain ⟨rk', h4, hrk'⟩ := sj_rk4 hrk
  have e := sj_1sh j hj
  have b2 := sj_2j j hj
  refine nm_r e.1 ⟨5, sx_r7 hi haf hb hrk' h4 k1 k0 4 1 (2 ^ j) (by omega) ⟨e.2, fun k hk z => ?_, ?_, fun k hk c q => ?_, fun _ _ _ _ z => absurd z (fun w => w)⟩⟩
  · rw [b2 k hk, decide_eq_true_eq] at z
    subst z
    exact sj_Cs k
  · rw [b2 j hj, decide_eq_true_eq]
  · rw [b2 k hk, decide_eq_true_eq]
    apply Classical.byContradiction
    intro ne
    obtain ⟨x, hx, -, a⟩ := sj_Cp c ne
    have := hrk' x k hx hk a
    omega
end
/-! the reference -/
def sj_rY (A : Nat → Nat → Bool) (rk : Nat → Nat) (j r n : Nat) (m : Nat) : Prop :=
  m < 32 ∧ (∀ k, k < 5 → m.testBit k = true → sj_C A j k) ∧ m.testBit j = true ∧ (∀ k, k < 5 → sj_C A j k → rk k < r → m.testBit k = true) ∧
  (∀ k, k < 5 → k < n → sj_C A j k → rk k = r → m.testBit k = true)
section
variable {mo lim fu fd mi mb : Int32} {p : Nat} {hd rel len kin due wt pr be : Nat → Int32} {A : Nat → Nat → Bool}
theorem sy_l16 {post : Int32 → Prop} {J7 : Int32 → Int32 → Prop} {x2 : Int32} {rk : Nat → Nat} {j r : Nat} (h : sj_hd p hd) (hpr : sj_le pr 31) (hrl : sj_rl p pr A) (hAp : ∀ x y, x < 5 → y < 5 → A x y = true → p.testBit x = true ∧ p.testBit y = true)
    (hpp : ∀ x y, x < 5 → y < 5 → p.testBit y = true → (sj_N pr y).testBit x = true → p.testBit x = true) (hrk : sj_ord A rk)
    (k : ∀ m', sj_rY A rk j r 5 m' → J7 (nI m') (nI (r + 1))) :
    ∀ d i m, i + d = 5 → sj_rY A rk j r i m → wY_leads_16 post J7 x2 (nI r) mo lim fu fd mi mb hd rel len kin due wt pr be (d + 1) (nI m) (nI i) := by
  intro d
  induction d with
  | zero =>
    intro i m hi g
    have hi : i = 5 := hi
    subst hi
    exact br_t (by decide) (nm_r (nI_1 r) (k m g))
  | succ d ih =>
    intro i m hi g
    have hi5 : i < 5 := by omega
    have ci : (nI i).toNatClampNeg = i := nI_clamp (by omega)
    have vi : vp_in (nI i) 5 := vp_in_nI hi5 (by omega)
    obtain ⟨h0, h1, h2, h3, h4⟩ := g
    obtain ⟨ea, la⟩ := sj_Ne hpr (by omega) hi5
    -- nothing new: then the job, if it is reached, had its turn or is there
    have stay : (∀ x, x < 5 → A x i = true → ¬ m.testBit x = true) → wY_leads_16 post J7 x2 (nI r) mo lim fu fd mi mb hd rel len kin due wt pr be (d + 1) (nI m) (nI (i + 1)) := by
      intro n
      refine ih (i + 1) m (by omega) ⟨h0, h1, h2, h3, fun k hk z c q => ?_⟩
      by_cases e : k = i
      · subst e
        by_cases e2 : k = j
        · subst e2; exact h2
        · obtain ⟨x, hx, cx, a⟩ := sj_Cp c e2
          have := hrk x k hx hk a
          exact absurd (h3 x hx cx (by omega)) (n x hx a)
      · exact h4 k hk (by omega) c q
    refine br_f (nI_ge (b := 5) hi5 (by decide)) ⟨vi, ?_⟩
    rw [ci]
    by_cases q : p.testBit i = true
    · refine br_f (sj_hd1 h hi5 q) ⟨vi, ?_⟩
      have mt := sj_meet (sj_N pr i) (by omega) m h0
      rw [← ea] at mt
      by_cases w : (pr i &&& nI m) = 0
      · refine br_t w (nm_r (nI_1 i) (stay (fun x hx a z => ?_)))
        exact (mt.mp w) x hx ⟨((hrl x i hx hi5 q).mp a).2, z⟩
      · have ex : ∃ x, x < 5 ∧ (sj_N pr i).testBit x = true ∧ m.testBit x = true := by
          apply Classical.byContradiction
          intro n
          exact w (mt.mpr (fun x hx z => n ⟨x, hx, z.1, z.2⟩))
        obtain ⟨x, hx, z1, z2⟩ := ex
        have ai : A x i = true := (hrl x i hx hi5 q).mpr ⟨hpp x i hx hi5 q z1, z1⟩
        have cI : sj_C A j i := sj_Cn hx hi5 ai (h1 x hx z2)
        have e1 := sj_ad1 m h0 i hi5
        have e2 := sj_ad2 m h0 i hi5
        have up : ∀ k, k < 5 → m.testBit k = true → (sj_ad m i).testBit k = true := fun k hk z => by rw [e2 k hk, z]; rfl
        refine br_f w (nm_r e1.1 (nm_r (nI_1 i) (ih (i + 1) (sj_ad m i) (by omega) ⟨e1.2, fun k hk z => ?_, ?_, fun k hk c q2 => up k hk (h3 k hk c q2), fun k hk z c q2 => ?_⟩)))
        · rw [e2 k hk, Bool.or_eq_true, decide_eq_true_eq] at z
          rcases z with z | z
          · exact h1 k hk z
          · subst z; exact cI
        · rcases Nat.lt_or_ge j 5 with hj | hj
          · exact up j hj h2
          · have : m.testBit j = false := Nat.testBit_lt_two_pow (Nat.lt_of_lt_of_le h0 (show 2 ^ 5 ≤ 2 ^ j from Nat.pow_le_pow_right (by omega) hj))
            rw [this] at h2
            exact absurd h2 (by decide)
        · by_cases e : k = i
          · subst e
            rw [e2 k hk]
            simp
          · exact up k hk (h4 k hk (by omega) c q2)
    · exact br_t (sj_hd0 h hi5 q) (nm_r (nI_1 i) (stay (fun x hx a _ => q (hAp x i hx hi5 a).2)))
theorem sy_l7 {post : Int32 → Prop} {rk : Nat → Nat} {i j : Nat} (hi : i < 5) (h : sj_hd p hd) (hpr : sj_le pr 31) (hrl : sj_rl p pr A) (hAp : ∀ x y, x < 5 → y < 5 → A x y = true → p.testBit x = true ∧ p.testBit y = true)
    (hpp : ∀ x y, x < 5 → y < 5 → p.testBit y = true → (sj_N pr y).testBit x = true → p.testBit x = true) (hrk : sj_ord A rk) (h4 : ∀ k, k < 5 → rk k ≤ 4)
    (k1 : sj_C A j i → post 1) (k0 : ¬ sj_C A j i → post 0) :
    ∀ d r m, r + d = 5 → sj_rY A rk j r 0 m → wY_leads_7 post (nI i) mo lim fu fd mi mb hd rel len kin due wt pr be (d + 1) (nI m) (nI r) := by
  intro d
  induction d with
  | zero =>
    intro r m hr g
    have hr : r = 5 := hr
    subst hr
    have e : m.testBit i = true ↔ sj_C A j i := ⟨g.2.1 i hi, fun c => g.2.2.2.1 i hi c (by have := h4 i hi; omega)⟩
    have bt := sj_sh1 m g.1 i hi
    refine br_t (by decide) ?_
    by_cases q : m.testBit i = true
    · exact br_t (bt.mpr q) (k1 (e.mp q))
    · exact br_f (fun z => q (bt.mp z)) (k0 (fun z => q (e.mpr z)))
  | succ d ih =>
    intro r m hr g
    refine br_f (nI_ge (b := 5) (by omega) (by decide)) ⟨6, sy_l16 h hpr hrl hAp hpp hrk (fun m' g' => ih (r + 1) m' (by omega) ⟨g'.1, g'.2.1, g'.2.2.1, fun k hk c q => ?_, fun k _ z => absurd z (by omega)⟩) 5 0 m (by omega) g⟩
    by_cases e : rk k < r
    · exact g'.2.2.2.1 k hk c e
    · exact g'.2.2.2.2 k hk hk c (by omega)
theorem sy_leads {post : Int32 → Prop} {rk : Nat → Nat} {i j : Nat} (hi : i < 5) (hj : j < 5) (h : sj_hd p hd) (hpr : sj_le pr 31) (hrl : sj_rl p pr A) (hAp : ∀ x y, x < 5 → y < 5 → A x y = true → p.testBit x = true ∧ p.testBit y = true)
    (hpp : ∀ x y, x < 5 → y < 5 → p.testBit y = true → (sj_N pr y).testBit x = true → p.testBit x = true) (hrk : sj_ord A rk)
    (k1 : sj_C A j i → post 1) (k0 : ¬ sj_C A j i → post 0) : wpY_leads post (mo, lim, fu, fd, mi, mb, hd, rel, len, kin, due, wt, pr, be) (nI j) (nI i) := by
  obtain ⟨rk', h4, hrk'⟩ := sj_rk4 hrk
  have e := sj_1sh j hj
  have b2 := sj_2j j hj
  refine nm_r e.1 ⟨6, sy_l7 hi h hpr hrl hAp hpp hrk' h4 k1 k0 5 0 (2 ^ j) (by omega) ⟨e.2, fun k hk z => ?_, ?_, fun k hk c q => absurd q (by omega), fun k _ z => absurd z (by omega)⟩⟩
  · rw [b2 k hk, decide_eq_true_eq] at z
    subst z
    exact sj_Cs k
  · rw [b2 j hj, decide_eq_true_eq]
end
end
section
/-! ===== links: asking, making ===== -/
def sj_lkd (p : Nat) (af : Nat → Int32) (x y : Int32) : Prop := ∃ i j, i < 5 ∧ j < 5 ∧ x = nI i ∧ y = nI j ∧ sj_A p af i j = true
theorem sj_lkdn {p : Nat} {af : Nat → Int32} {i j : Nat} (hi : i < 5) (hj : j < 5) : sj_lkd p af (nI i) (nI j) ↔ sj_A p af i j = true := by
  constructor
  · rintro ⟨i', j', hi', hj', e1, e2, a⟩
    have q1 := (nI_eq (by omega) (by omega)).mp e1
    have q2 := (nI_eq (by omega) (by omega)).mp e2
    rw [q1, q2]
    exact a
  · exact fun a => ⟨i, j, hi, hj, rfl, rfl, a⟩
/-- the link set -/
def sj_af1 (af : Nat → Int32) (i j : Nat) : Nat → Int32 := upd af i (nI (sj_ad (sj_N af i) j))
def sj_af0 (af : Nat → Int32) (i j : Nat) : Nat → Int32 := upd af i (nI (sj_cl (sj_N af i) j))
theorem sj_af1e {af : Nat → Int32} {i j : Nat} (h : sj_le af 31) (hi : i < 5) (hj : j < 5) : upd af (nI i).toNatClampNeg (af (nI i).toNatClampNeg ||| ((1 : Int32) <<< (nI j &&& 31))) = sj_af1 af i j := by
  obtain ⟨e, l⟩ := sj_Ne h (by omega) hi
  have q := (sj_ad1 (sj_N af i) (by omega) j hj).1
  rw [← e] at q
  unfold sj_af1
  rw [nI_clamp (by omega), q]
theorem sj_af0e {af : Nat → Int32} {i j : Nat} (h : sj_le af 31) (hi : i < 5) (hj : j < 5) : upd af (nI i).toNatClampNeg (af (nI i).toNatClampNeg &&& (((1 : Int32) <<< (nI j &&& 31)) ^^^ (-1))) = sj_af0 af i j := by
  obtain ⟨e, l⟩ := sj_Ne h (by omega) hi
  have q := (sj_cl1 (sj_N af i) (by omega) j hj).1
  rw [← e] at q
  unfold sj_af0
  rw [nI_clamp (by omega), q]
theorem sj_af1l {af : Nat → Int32} {i j : Nat} (h : sj_le af 31) (hi : i < 5) (hj : j < 5) : sj_le (sj_af1 af i j) 31 := by
  obtain ⟨e, l⟩ := sj_Ne h (by omega) hi
  exact sj_leU h (by have := (sj_ad1 (sj_N af i) (by omega) j hj).2; omega)
theorem sj_af0l {af : Nat → Int32} {i j : Nat} (h : sj_le af 31) (hi : i < 5) (hj : j < 5) : sj_le (sj_af0 af i j) 31 := by
  obtain ⟨e, l⟩ := sj_Ne h (by omega) hi
  exact sj_leU h (by have := (sj_cl1 (sj_N af i) (by omega) j hj).2; omega)
theorem sj_af1b {af : Nat → Int32} {i j : Nat} (h : sj_le af 31) (hi : i < 5) (hj : j < 5) {x y : Nat} (hy : y < 5) : (sj_N (sj_af1 af i j) x).testBit y = ((sj_N af x).testBit y || (decide (x = i) && decide (y = j))) := by
  obtain ⟨e, l⟩ := sj_Ne h (by omega) hi
  have l2 := (sj_ad1 (sj_N af i) (by omega) j hj).2
  unfold sj_af1
  by_cases q : x = i
  · subst q
    rw [sj_Ns (by omega), sj_ad2 (sj_N af x) (by omega) j hj y hy]
    simp
  · rw [sj_Nu q]
    simp [q]
theorem sj_af0b {af : Nat → Int32} {i j : Nat} (h : sj_le af 31) (hi : i < 5) (hj : j < 5) {x y : Nat} (hy : y < 5) : (sj_N (sj_af0 af i j) x).testBit y = ((sj_N af x).testBit y && !(decide (x = i) && decide (y = j))) := by
  obtain ⟨e, l⟩ := sj_Ne h (by omega) hi
  have l2 := (sj_cl1 (sj_N af i) (by omega) j hj).2
  unfold sj_af0
  by_cases q : x = i
  · subst q
    rw [sj_Ns (by omega), sj_cl2 (sj_N af x) (by omega) j hj y hy]
    simp
  · rw [sj_Nu q]
    simp [q]
/-- set and unset again -/
theorem sj_af01 {af : Nat → Int32} {i j : Nat} (h : sj_le af 31) (hi : i < 5) (hj : j < 5) (n : ¬ (sj_N af i).testBit j = true) : sj_af0 (sj_af1 af i j) i j = af := by
  obtain ⟨e, l⟩ := sj_Ne h (by omega) hi
  have l2 := (sj_ad1 (sj_N af i) (by omega) j hj).2
  have n' : (sj_N af i).testBit j = false := by
    cases z : (sj_N af i).testBit j
    · rfl
    · exact absurd z n
  unfold sj_af0
  have q : sj_N (sj_af1 af i j) i = sj_ad (sj_N af i) j := by unfold sj_af1; rw [sj_Ns (by omega)]
  rw [q, sj_clad (sj_N af i) (by omega) j hj n', ← e]
  unfold sj_af1
  exact sj_uid rfl
theorem sj_adid : ∀ p, p < 32 → ∀ j, j < 5 → p.testBit j = true → sj_ad p j = p := by decide +kernel
theorem sj_af1id {af : Nat → Int32} {i j : Nat} (h : sj_le af 31) (hi : i < 5) (hj : j < 5) (n : (sj_N af i).testBit j = true) : sj_af1 af i j = af := by
  obtain ⟨e, l⟩ := sj_Ne h (by omega) hi
  unfold sj_af1
  rw [sj_adid (sj_N af i) (by omega) j hj n]
  exact sj_uid1 e
section
variable {c b : Int32} {p : Nat} {rel len kin due wt af st dl lf : Nat → Int32}
theorem sx_linkT {post : Int32 → Prop} (hp : p < 32) (haf : sj_le af 31) {i j : Nat} (hi : i < 5) (hj : j < 5) (a : sj_A p af i j = true) (k : post 1) : wpX_isLink post (c, b, nI p, rel, len, kin, due, wt, af, st, dl, lf) (nI i) (nI j) := by
  obtain ⟨a1, a2, a3⟩ := sj_At a
  obtain ⟨e, l⟩ := sj_Ne haf (by omega) hi
  have q := sj_bit (sj_N af i) (by omega) j hj
  rw [← e, a3] at q
  unfold wpX_isLink
  dsimp only
  refine sx_presT hp hi a1 (br_f (by decide) (sx_presT hp hj a2 (br_f (by decide) ⟨vp_in_nI hi (by omega), ?_⟩)))
  rw [nI_clamp (by omega)]
  exact br_f (fun z => absurd (q.mp z) (by decide)) k
theorem sx_linkF {post : Int32 → Prop} (hp : p < 32) (haf : sj_le af 31) {x y : Int32} (n : ¬ sj_lkd p af x y) (k : post 0) : wpX_isLink post (c, b, nI p, rel, len, kin, due, wt, af, st, dl, lf) x y := by
  unfold wpX_isLink
  dsimp only
  by_cases hx : sj_has p x
  · obtain ⟨i, hi, rfl, a1⟩ := hx
    refine sx_presT hp hi a1 (br_f (by decide) ?_)
    by_cases hy : sj_has p y
    · obtain ⟨j, hj, rfl, a2⟩ := hy
      obtain ⟨e, l⟩ := sj_Ne haf (by omega) hi
      have q := sj_bit (sj_N af i) (by omega) j hj
      rw [← e] at q
      refine sx_presT hp hj a2 (br_f (by decide) ⟨vp_in_nI hi (by omega), ?_⟩)
      rw [nI_clamp (by omega)]
      refine br_t (q.mpr ?_) k
      cases z : (sj_N af i).testBit j
      · rfl
      · exact absurd ⟨i, j, hi, hj, rfl, rfl, by unfold sj_A; rw [a1, a2, z]; rfl⟩ n
    · exact sx_presF hp hy (br_t rfl k)
  · exact sx_presF hp hx (br_t rfl k)
/-- what link would answer -/
theorem sx_judge {post : Int32 → SX → Prop} {rk : Nat → Nat} (B : sj_bnd p rel len kin due wt) (haf : sj_le af 31) (hb : ∀ i k, i < 5 → k < 5 → (sj_N af i).testBit k = true → sj_A p af i k = true) (hrk : sj_ord (sj_A p af) rk) {x y : Int32}
    (kB : (¬ sj_has p x ∨ ¬ sj_has p y ∨ x = y) → post (-1) (c, b, nI p, rel, len, kin, due, wt, af, st, dl, lf))
    (kO : ∀ i j, i < 5 → j < 5 → x = nI i → y = nI j → i ≠ j → sj_A p af i j = true → post 0 (c, b, nI p, rel, len, kin, due, wt, af, st, dl, lf))
    (kC : ∀ i j, i < 5 → j < 5 → x = nI i → y = nI j → i ≠ j → p.testBit i = true → p.testBit j = true → ¬ sj_A p af i j = true → sj_C (sj_A p af) j i → post (-4) (c, b, nI p, rel, len, kin, due, wt, af, st, dl, lf))
    (kG : ∀ i j, i < 5 → j < 5 → x = nI i → y = nI j → i ≠ j → p.testBit i = true → p.testBit j = true → ¬ sj_A p af i j = true → ¬ sj_C (sj_A p af) j i → sj_G p rel len kin due wt (sj_af1 af i j) sj_M0 b.toInt 34 (sj_Fu p len) → ∀ st' dl' lf', post 0 (c, b, nI p, rel, len, kin, due, wt, af, st', dl', lf'))
    (kR : ∀ i j, i < 5 → j < 5 → x = nI i → y = nI j → i ≠ j → p.testBit i = true → p.testBit j = true → ¬ sj_A p af i j = true → ¬ sj_C (sj_A p af) j i → ¬ sj_G p rel len kin due wt (sj_af1 af i j) sj_M0 b.toInt 34 (sj_Fu p len) → ∀ st' dl' lf', post (-3) (c, b, nI p, rel, len, kin, due, wt, af, st', dl', lf')) :
    wpX_judgeLink post (c, b, nI p, rel, len, kin, due, wt, af, st, dl, lf) x y := by
  have hp := B.1
  unfold wpX_judgeLink
  dsimp only
  by_cases hx : sj_has p x
  · obtain ⟨i, hi, rfl, a1⟩ := hx
    refine sx_presT hp hi a1 (br_f (by decide) ?_)
    by_cases hy : sj_has p y
    · obtain ⟨j, hj, rfl, a2⟩ := hy
      refine sx_presT hp hj a2 (br_f (by decide) ?_)
      by_cases e : nI i = nI j
      · exact br_t e (kB (Or.inr (Or.inr e)))
      · have ne : i ≠ j := fun z => e (by rw [z])
        refine br_f e ?_
        by_cases a : sj_A p af i j = true
        · exact sx_linkT hp haf hi hj a (br_f (by decide) (kO i j hi hj rfl rfl ne a))
        · refine sx_linkF hp haf (fun z => a ((sj_lkdn hi hj).mp z)) (br_t rfl ?_)
          refine sx_reach hi hj haf hb hrk (fun cc => ?_) (fun cc => ?_)
          · exact br_f (by decide) (kC i j hi hj rfl rfl ne a1 a2 a cc)
          · have vi : vp_in (nI i) 5 := vp_in_nI hi (by omega)
            have nb : ¬ (sj_N af i).testBit j = true := fun z => a (hb i j hi hj z)
            obtain ⟨rk', hrk'⟩ := sj_rknew (A' := sj_A p (sj_af1 af i j)) hrk cc (fun x y hx hy z => by
              obtain ⟨z1, z2, z3⟩ := sj_At z
              rw [sj_af1b haf hi hj hy] at z3
              simp at z3
              rcases z3 with z3 | z3
              · exact Or.inl (hb x y hx hy z3)
              · exact Or.inr z3)
            have rest : upd (sj_af1 af i j) (nI i).toNatClampNeg (sj_af1 af i j (nI i).toNatClampNeg &&& (((1 : Int32) <<< (nI j &&& 31)) ^^^ (-1))) = af := by
              rw [sj_af0e (sj_af1l haf hi hj) hi hj, sj_af01 haf hi hj nb]
            refine br_t rfl ⟨vi, vi, nm_r (sj_af1e haf hi hj) (sx_plan B (sj_af1l haf hi hj) hrk' (fun g s d l => ?_) (fun g s d l => ?_))⟩
            · exact ⟨vi, vi, nm_r rest (br_f (by decide) (kG i j hi hj rfl rfl ne a1 a2 a cc g s d l))⟩
            · exact ⟨vi, vi, nm_r rest (br_t rfl (kR i j hi hj rfl rfl ne a1 a2 a cc g s d l))⟩
    · exact sx_presF hp hy (br_t rfl (kB (Or.inr (Or.inl hy))))
  · exact sx_presF hp hx (br_t rfl (kB (Or.inl hx)))
end
section
variable {mo lim fu fd mi mb : Int32} {p : Nat} {hd rel len kin due wt af pr be : Nat → Int32}
theorem sy_linkT {post : Int32 → Prop} (h : sj_hd p hd) (hlk : sj_lk p af pr) {i j : Nat} (hi : i < 5) (hj : j < 5) (a : sj_A p af i j = true) (k : post 1) : wpY_linked post (mo, lim, fu, fd, mi, mb, hd, rel, len, kin, due, wt, pr, be) (nI i) (nI j) := by
  obtain ⟨a1, a2, a3⟩ := sj_At a
  obtain ⟨e, l⟩ := sj_Ne hlk.2.1 (by omega) hj
  have q := sj_sh1 (sj_N pr j) (by omega) i hi
  rw [← e] at q
  unfold wpY_linked
  dsimp only
  refine sy_thereT h hi a1 (br_f (by decide) (sy_thereT h hj a2 (br_f (by decide) ⟨vp_in_nI hj (by omega), ?_⟩)))
  rw [nI_clamp (by omega)]
  exact br_t (q.mpr (by rw [hlk.2.2.2 i j hi hj a2]; exact a3)) k
theorem sy_linkF {post : Int32 → Prop} (h : sj_hd p hd) (hlk : sj_lk p af pr) {x y : Int32} (n : ¬ sj_lkd p af x y) (k : post 0) : wpY_linked post (mo, lim, fu, fd, mi, mb, hd, rel, len, kin, due, wt, pr, be) x y := by
  unfold wpY_linked
  dsimp only
  by_cases hx : sj_has p x
  · obtain ⟨i, hi, rfl, a1⟩ := hx
    refine sy_thereT h hi a1 (br_f (by decide) ?_)
    by_cases hy : sj_has p y
    · obtain ⟨j, hj, rfl, a2⟩ := hy
      obtain ⟨e, l⟩ := sj_Ne hlk.2.1 (by omega) hj
      have q := sj_sh1 (sj_N pr j) (by omega) i hi
      rw [← e] at q
      refine sy_thereT h hj a2 (br_f (by decide) ⟨vp_in_nI hj (by omega), ?_⟩)
      rw [nI_clamp (by omega)]
      refine br_f (fun z => n ⟨i, j, hi, hj, rfl, rfl, ?_⟩) k
      have w := q.mp z
      rw [hlk.2.2.2 i j hi hj a2] at w
      unfold sj_A
      rw [a1, a2, w]
      rfl
    · exact sy_thereF h hy (br_t rfl k)
  · exact sy_thereF h hx (br_t rfl k)
theorem sy_mkB {post : Int32 → SY → Prop} (h : sj_hd p hd) {x y : Int32} (n : ¬ sj_has p x ∨ ¬ sj_has p y ∨ x = y) (k : post (-1) (mo, lim, fu, fd, mi, mb, hd, rel, len, kin, due, wt, pr, be)) : wpY_link post (mo, lim, fu, fd, mi, mb, hd, rel, len, kin, due, wt, pr, be) x y := by
  unfold wpY_link
  dsimp only
  by_cases hx : sj_has p x
  · obtain ⟨i, hi, rfl, a1⟩ := hx
    refine sy_thereT h hi a1 (br_f (by decide) ?_)
    by_cases hy : sj_has p y
    · obtain ⟨j, hj, rfl, a2⟩ := hy
      refine sy_thereT h hj a2 (br_f (by decide) (br_t ?_ k))
      rcases n with n | n | n
      · exact absurd ⟨i, hi, rfl, a1⟩ n
      · exact absurd ⟨j, hj, rfl, a2⟩ n
      · exact n
    · exact sy_thereF h hy (br_t rfl k)
  · exact sy_thereF h hx (br_t rfl k)
theorem sy_mkP {post : Int32 → SY → Prop} (h : sj_hd p hd) {i j : Nat} (hi : i < 5) (hj : j < 5) (ne : i ≠ j) (a1 : p.testBit i = true) (a2 : p.testBit j = true)
    (k : wpY_linked (fun r_34 => (r_34 = 0 → wpY_leads (fun r_50 => (r_50 = 0 → (vp_in (nI j) 5 ∧ (vp_in (nI j) 5 ∧ ∀ a_pre_68, a_pre_68 = upd pr (nI j).toNatClampNeg ((pr (nI j).toNatClampNeg) ||| ((1 : Int32) <<< (nI i &&& 31))) → (wpY_good (fun r_69 u => match u with | (f1, f2, f3, f4, f5, f6, g1, g2, g3, g4, g5, g6, g7, g8) => ((r_69 = 0 → (vp_in (nI j) 5 ∧ (vp_in (nI j) 5 ∧ ∀ a_pre_87, a_pre_87 = upd g7 (nI j).toNatClampNeg ((g7 (nI j).toNatClampNeg) &&& (((1 : Int32) <<< (nI i &&& 31)) ^^^ (-1))) → (post (-3) (f1, f2, f3, f4, f5, f6, g1, g2, g3, g4, g5, g6, a_pre_87, g8))))) ∧ (¬ r_69 = 0 → (post 0 (f1, f2, f3, f4, f5, f6, g1, g2, g3, g4, g5, g6, g7, g8))))) (mo, lim, fu, fd, mi, mb, hd, rel, len, kin, due, wt, a_pre_68, be))))) ∧ (¬ r_50 = 0 → (post (-4) (mo, lim, fu, fd, mi, mb, hd, rel, len, kin, due, wt, pr, be)))) (mo, lim, fu, fd, mi, mb, hd, rel, len, kin, due, wt, pr, be) (nI j) (nI i)) ∧ (¬ r_34 = 0 → (post 0 (mo, lim, fu, fd, mi, mb, hd, rel, len, kin, due, wt, pr, be)))) (mo, lim, fu, fd, mi, mb, hd, rel, len, kin, due, wt, pr, be) (nI i) (nI j)) :
    wpY_link post (mo, lim, fu, fd, mi, mb, hd, rel, len, kin, due, wt, pr, be) (nI i) (nI j) := by
  unfold wpY_link
  dsimp only
  exact sy_thereT h hi a1 (br_f (by decide) (sy_thereT h hj a2 (br_f (by decide) (br_f (fun z => ne ((nI_eq (by omega) (by omega)).mp z)) k))))
end
end
section
/-! ===== links made by the reference; jobs taken in ===== -/
theorem sj_hb {p : Nat} {af pr : Nat → Int32} (h : sj_lk p af pr) : ∀ i k, i < 5 → k < 5 → (sj_N af i).testBit k = true → sj_A p af i k = true := by
  intro i k hi hk z
  obtain ⟨a1, a2⟩ := h.2.2.1 i k hi hk z
  unfold sj_A
  rw [a1, a2, z]
  rfl
theorem sj_hpp {p : Nat} {af pr : Nat → Int32} (h : sj_lk p af pr) : ∀ x y, x < 5 → y < 5 → p.testBit y = true → (sj_N pr y).testBit x = true → p.testBit x = true := by
  intro x y hx hy q z
  rw [h.2.2.2 x y hx hy q] at z
  exact (h.2.2.1 x y hx hy z).1
theorem sj_lk1 {p : Nat} {af pr : Nat → Int32} (h : sj_lk p af pr) {i j : Nat} (hi : i < 5) (hj : j < 5) (a1 : p.testBit i = true) (a2 : p.testBit j = true) : sj_lk p (sj_af1 af i j) (sj_af1 pr j i) := by
  refine ⟨sj_af1l h.1 hi hj, sj_af1l h.2.1 hj hi, fun x y hx hy z => ?_, fun x y hx hy q => ?_⟩
  · rw [sj_af1b h.1 hi hj hy] at z
    simp at z
    rcases z with z | ⟨rfl, rfl⟩
    · exact h.2.2.1 x y hx hy z
    · exact ⟨a1, a2⟩
  · rw [sj_af1b h.1 hi hj hy, sj_af1b h.2.1 hj hi hx, h.2.2.2 x y hx hy q, Bool.and_comm]
theorem sj_lk0 {p : Nat} {af pr : Nat → Int32} (h : sj_lk p af pr) {i j : Nat} (hi : i < 5) (hj : j < 5) : sj_lk p (sj_af0 af i j) (sj_af0 pr j i) := by
  refine ⟨sj_af0l h.1 hi hj, sj_af0l h.2.1 hj hi, fun x y hx hy z => ?_, fun x y hx hy q => ?_⟩
  · rw [sj_af0b h.1 hi hj hy] at z
    simp at z
    exact h.2.2.1 x y hx hy z.1
  · rw [sj_af0b h.1 hi hj hy, sj_af0b h.2.1 hj hi hx, h.2.2.2 x y hx hy q, Bool.and_comm (decide (x = i))]
section
variable {mo lim fu fd mb : Int32} {p : Nat} {hd rel len kin due wt af pr be : Nat → Int32}
theorem sy_mkO {post : Int32 → SY → Prop} {mi : Int32} (h : sj_hd p hd) (hlk : sj_lk p af pr) {i j : Nat} (hi : i < 5) (hj : j < 5) (ne : i ≠ j) (a : sj_A p af i j = true) (k : post 0 (mo, lim, fu, fd, mi, mb, hd, rel, len, kin, due, wt, pr, be)) :
    wpY_link post (mo, lim, fu, fd, mi, mb, hd, rel, len, kin, due, wt, pr, be) (nI i) (nI j) :=
  sy_mkP h hi hj ne (sj_At a).1 (sj_At a).2.1 (sy_linkT h hlk hi hj a (br_f (by decide) k))
theorem sy_mkC {post : Int32 → SY → Prop} {mi : Int32} {rk : Nat → Nat} (h : sj_hd p hd) (hlk : sj_lk p af pr) (hrk : sj_ord (sj_A p af) rk) {i j : Nat} (hi : i < 5) (hj : j < 5) (ne : i ≠ j) (a1 : p.testBit i = true) (a2 : p.testBit j = true) (a : ¬ sj_A p af i j = true) (cc : sj_C (sj_A p af) j i)
    (k : post (-4) (mo, lim, fu, fd, mi, mb, hd, rel, len, kin, due, wt, pr, be)) : wpY_link post (mo, lim, fu, fd, mi, mb, hd, rel, len, kin, due, wt, pr, be) (nI i) (nI j) :=
  sy_mkP h hi hj ne a1 a2 (sy_linkF h hlk (fun z => a ((sj_lkdn hi hj).mp z)) (br_t rfl (sy_leads hi hj h hlk.2.1 (sj_rlk hlk) (fun _ _ _ _ z => ⟨(sj_At z).1, (sj_At z).2.1⟩) (sj_hpp hlk) hrk (fun _ => br_f (by decide) k) (fun n => absurd cc n))))
theorem sy_mkG {post : Int32 → SY → Prop} {rk : Nat → Nat} (B : sj_bnd p rel len kin due wt) (hlim : -200 ≤ lim.toInt ∧ lim.toInt ≤ 1000) (h : sj_hd p hd) (hlk : sj_lk p af pr) (hrk : sj_ord (sj_A p af) rk) {i j : Nat} (hi : i < 5) (hj : j < 5) (ne : i ≠ j) (a1 : p.testBit i = true) (a2 : p.testBit j = true) (a : ¬ sj_A p af i j = true) (cc : ¬ sj_C (sj_A p af) j i)
    (k1 : sj_G p rel len kin due wt (sj_af1 af i j) sj_M0 lim.toInt 34 (sj_Fu p len) → ∀ fu' fd' be', post 0 (mo, lim, fu', fd', -1, mb, hd, rel, len, kin, due, wt, sj_af1 pr j i, be'))
    (k0 : ¬ sj_G p rel len kin due wt (sj_af1 af i j) sj_M0 lim.toInt 34 (sj_Fu p len) → ∀ fu' fd' be', post (-3) (mo, lim, fu', fd', -1, mb, hd, rel, len, kin, due, wt, pr, be')) :
    wpY_link post (mo, lim, fu, fd, -1, mb, hd, rel, len, kin, due, wt, pr, be) (nI i) (nI j) := by
  have vj : vp_in (nI j) 5 := vp_in_nI hj (by omega)
  have nb : ¬ (sj_N pr j).testBit i = true := fun z => by
    rw [hlk.2.2.2 i j hi hj a2] at z
    exact a (sj_hb hlk i j hi hj z)
  have rest : upd (sj_af1 pr j i) (nI j).toNatClampNeg (sj_af1 pr j i (nI j).toNatClampNeg &&& (((1 : Int32) <<< (nI i &&& 31)) ^^^ (-1))) = pr := by
    rw [sj_af0e (sj_af1l hlk.2.1 hj hi) hj hi, sj_af01 hlk.2.1 hj hi nb]
  refine sy_mkP h hi hj ne a1 a2 (sy_linkF h hlk (fun z => a ((sj_lkdn hi hj).mp z)) (br_t rfl (sy_leads hi hj h hlk.2.1 (sj_rlk hlk) (fun _ _ _ _ z => ⟨(sj_At z).1, (sj_At z).2.1⟩) (sj_hpp hlk) hrk (fun z => absurd z cc) (fun _ => br_t rfl ⟨vj, vj, ?_⟩))))
  refine nm_r (sj_af1e hlk.2.1 hj hi) (sy_good0 B h (sj_lk1 hlk hi hj a1 a2) hlim (fun g fu' fd' be' => ?_) (fun g fu' fd' be' => ?_))
  · exact br_f (by decide) (k1 g fu' fd' be')
  · exact br_t rfl ⟨vj, vj, nm_r rest (k0 g fu' fd' be')⟩
end
/-! ===== a free number ===== -/
theorem sj_lfu {p e e' : Nat} (h1 : ¬ p.testBit e = true) (h2 : ∀ j, j < e → p.testBit j = true) (h3 : ¬ p.testBit e' = true) (h4 : ∀ j, j < e' → p.testBit j = true) : e' = e := by
  rcases Nat.lt_trichotomy e' e with q | q | q
  · exact absurd (h2 e' q) h3
  · exact q
  · exact absurd (h4 e q) h1
section
variable {b : Int32} {p mo : Nat} {rel len kin due wt af st dl lf : Nat → Int32}
theorem sx_lfn2 {post : Int32 → Prop} (hp : p < 32) (hmo : mo ≤ 5) (kF : (∀ j, j < mo → p.testBit j = true) → post (nI mo)) (kA : ∀ e, e < mo → ¬ p.testBit e = true → (∀ j, j < e → p.testBit j = true) → post (nI e)) :
    ∀ d i, i + d = mo → (∀ j, j < i → p.testBit j = true) → wX_leastFreeNumber_2 post (nI mo) b (nI p) rel len kin due wt af st dl lf (d + 1) (nI i) := by
  intro d
  induction d with
  | zero =>
    intro i hi h
    have hi : i = mo := hi
    subst hi
    exact br_t (nI_le (Nat.le_refl _) (by omega)) (kF h)
  | succ d ih =>
    intro i hi h
    refine br_f (nI_ge (by omega) (by omega)) (sx_pres hp (by omega) (fun q => ?_) (fun q => ?_))
    · refine br_f (by decide) (nm_r (nI_1 i) (ih (i + 1) (by omega) (fun j hj => ?_)))
      by_cases e : j = i
      · subst e; exact q
      · exact h j (by omega)
    · exact br_t rfl (kA i (by omega) q h)
theorem sx_lfn {post : Int32 → Prop} (hp : p < 32) (hmo : mo ≤ 5) (kF : (∀ j, j < mo → p.testBit j = true) → post (nI mo)) (kA : ∀ e, e < mo → ¬ p.testBit e = true → (∀ j, j < e → p.testBit j = true) → post (nI e)) :
    wpX_leastFreeNumber post (nI mo, b, nI p, rel, len, kin, due, wt, af, st, dl, lf) :=
  ⟨mo + 1, sx_lfn2 hp hmo kF kA mo 0 (by omega) (fun j hj => absurd hj (by omega))⟩
end
/-- the bounds with one job more -/
theorem sj_bndA {p e : Nat} {rel len kin due wt : Nat → Int32} (B : sj_bnd p rel len kin due wt) (he : e < 5) {rn pn kn dn : Nat} (h1 : rn ≤ 9) (h2 : 1 ≤ pn ∧ pn ≤ 3) (h3 : kn ≤ 3) (h4 : dn ≤ 30) :
    sj_bnd (sj_ad p e) (upd rel e (nI rn)) (upd len e (nI pn)) (upd kin e (nI kn)) (upd due e (nI dn)) (upd wt e (nI 1)) := by
  obtain ⟨b1, b2, b3, b4, b5, b6, b7⟩ := B
  refine ⟨(sj_ad1 p b1 e he).2, sj_leU b2 (by omega), sj_leU b3 h2.2, sj_leU b4 h3, sj_leU b5 h4, sj_leU b6 (by omega), fun j hj q => ?_⟩
  by_cases z : j = e
  · subst z
    rw [sj_Ns (by omega)]
    exact h2.1
  · rw [sj_Nu z]
    rw [sj_ad2 p b1 e he j hj] at q
    simp [z] at q
    exact b7 j hj q
theorem sj_bndB {p e : Nat} {rel len kin due wt : Nat → Int32} (B : sj_bnd p rel len kin due wt) (he : ¬ p.testBit e = true) {rn pn kn dn : Nat} (h1 : rn ≤ 9) (h2 : 1 ≤ pn ∧ pn ≤ 3) (h3 : kn ≤ 3) (h4 : dn ≤ 30) :
    sj_bnd p (upd rel e (nI rn)) (upd len e (nI pn)) (upd kin e (nI kn)) (upd due e (nI dn)) (upd wt e (nI 1)) := by
  obtain ⟨b1, b2, b3, b4, b5, b6, b7⟩ := B
  refine ⟨b1, sj_leU b2 (by omega), sj_leU b3 h2.2, sj_leU b4 h3, sj_leU b5 h4, sj_leU b6 (by omega), fun j hj q => ?_⟩
  have z : j ≠ e := fun z => he (z ▸ q)
  rw [sj_Nu z]
  exact b7 j hj q
/-- links with one job more, which has none -/
theorem sj_lkA {p e : Nat} {af pr : Nat → Int32} (hp : p < 32) (he : e < 5) (hn : ¬ p.testBit e = true) (h : sj_lk p af pr) : sj_lk (sj_ad p e) af (upd pr e (nI 0)) := by
  refine ⟨h.1, sj_leU h.2.1 (by omega), fun i j hi hj z => ?_, fun i j hi hj q => ?_⟩
  · obtain ⟨a1, a2⟩ := h.2.2.1 i j hi hj z
    rw [sj_ad2 p hp e he i hi, sj_ad2 p hp e he j hj, a1, a2]
    exact ⟨rfl, rfl⟩
  · by_cases z : j = e
    · subst z
      rw [sj_Ns (by omega), Nat.zero_testBit]
      cases w : (sj_N af i).testBit j
      · rfl
      · exact absurd (h.2.2.1 i j hi hj w).2 hn
    · rw [sj_Nu z]
      rw [sj_ad2 p hp e he j hj] at q
      simp [z] at q
      exact h.2.2.2 i j hi hj q
theorem sj_lkB {p e : Nat} {af pr : Nat → Int32} (hn : ¬ p.testBit e = true) (h : sj_lk p af pr) : sj_lk p af (upd pr e (nI 0)) := by
  refine ⟨h.1, sj_leU h.2.1 (by omega), h.2.2.1, fun i j hi hj q => ?_⟩
  have z : j ≠ e := fun z => hn (z ▸ q)
  rw [sj_Nu z]
  exact h.2.2.2 i j hi hj q
theorem sj_ordA {p e : Nat} {af pr : Nat → Int32} {rk : Nat → Nat} (h : sj_lk p af pr) (hrk : sj_ord (sj_A p af) rk) : sj_ord (sj_A (sj_ad p e) af) rk :=
  fun i j hi hj a => hrk i j hi hj (sj_hb h i j hi hj (sj_At a).2.2)
theorem sj_hdA {p e : Nat} {hd : Nat → Int32} (hp : p < 32) (he : e < 5) (h : sj_hd p hd) : sj_hd (sj_ad p e) (upd hd e 1) := by
  intro j hj
  rw [sj_ad2 p hp e he j hj]
  by_cases z : j = e
  · subst z
    rw [sj_us]
    simp
  · rw [sj_un z, h j hj]
    simp [z]
theorem sj_hdC {p e : Nat} {hd : Nat → Int32} (hp : p < 32) (he : e < 5) (h : sj_hd p hd) : sj_hd (sj_cl p e) (upd hd e 0) := by
  intro j hj
  rw [sj_cl2 p hp e he j hj]
  by_cases z : j = e
  · subst z
    rw [sj_us]
    simp
  · rw [sj_un z, h j hj]
    simp [z]
section
variable {lim : Int32} {p mo : Nat} {rel len kin due wt af pr st dl lf : Nat → Int32}
theorem sx_admit {post : Int32 → SX → Prop} {rk : Nat → Nat} (B : sj_bnd p rel len kin due wt) (hlk : sj_lk p af pr) (hrk : sj_ord (sj_A p af) rk) (hmo : mo ≤ 5) {rn pn kn dn : Nat} (h1 : rn ≤ 9) (h2 : 1 ≤ pn ∧ pn ≤ 3) (h3 : kn ≤ 3) (h4 : dn ≤ 30)
    (kF : (∀ j, j < mo → p.testBit j = true) → post (-2) (nI mo, lim, nI p, rel, len, kin, due, wt, af, st, dl, lf))
    (kG : ∀ e, e < mo → ¬ p.testBit e = true → (∀ j, j < e → p.testBit j = true) → sj_G (sj_ad p e) (upd rel e (nI rn)) (upd len e (nI pn)) (upd kin e (nI kn)) (upd due e (nI dn)) (upd wt e (nI 1)) af sj_M0 lim.toInt 34 (sj_Fu (sj_ad p e) (upd len e (nI pn))) →
      ∀ st' dl' lf', post (nI e) (nI mo, lim, nI (sj_ad p e), upd rel e (nI rn), upd len e (nI pn), upd kin e (nI kn), upd due e (nI dn), upd wt e (nI 1), af, st', dl', lf'))
    (kR : ∀ e, e < mo → ¬ p.testBit e = true → (∀ j, j < e → p.testBit j = true) → ¬ sj_G (sj_ad p e) (upd rel e (nI rn)) (upd len e (nI pn)) (upd kin e (nI kn)) (upd due e (nI dn)) (upd wt e (nI 1)) af sj_M0 lim.toInt 34 (sj_Fu (sj_ad p e) (upd len e (nI pn))) →
      ∀ st' dl' lf', post (-3) (nI mo, lim, nI p, upd rel e (nI rn), upd len e (nI pn), upd kin e (nI kn), upd due e (nI dn), upd wt e (nI 1), af, st', dl', lf')) :
    wpX_admit post (nI mo, lim, nI p, rel, len, kin, due, wt, af, st, dl, lf) (nI rn) (nI pn) (nI kn) (nI dn) := by
  have hp := B.1
  unfold wpX_admit
  dsimp only
  refine sx_lfn hp hmo (fun q => ?_) (fun e he hn hlt => ?_)
  · exact br_f (nI_nlt (Nat.le_refl _) (by omega)) (kF q)
  · have he5 : e < 5 := by omega
    have ve : vp_in (nI e) 5 := vp_in_nI he5 (by omega)
    have ce : (nI e).toNatClampNeg = e := nI_clamp (by omega)
    have ea := sj_ad1 p hp e he5
    have ec := (sj_cl1 (sj_ad p e) ea.2 e he5).1
    have hf : p.testBit e = false := by
      cases z : p.testBit e
      · rfl
      · exact absurd z hn
    rw [sj_clad p hp e he5 hf] at ec
    refine br_t (nI_lt he (by omega)) ⟨ve, ?_⟩
    rw [ce]
    refine nm_e ⟨ve, nm_e ?_⟩
    unfold wpX_putRule
    dsimp only
    rw [ce]
    refine ⟨ve, nm_e ⟨ve, nm_e ⟨ve, nm_e ?_⟩⟩⟩
    refine nm_r ea.1 (sx_plan (sj_bndA B he5 h1 h2 h3 h4) hlk.1 (sj_ordA hlk hrk) (fun g s d l => ?_) (fun g s d l => ?_))
    · exact br_f (by decide) (kG e he hn hlt g s d l)
    · exact br_t rfl (nm_r ec (kR e he hn hlt g s d l))
end
end
section
/-! ===== jobs taken in by the reference ===== -/
def sj_cn (p c : Nat) : Nat := sj_S (fun k => if (decide (c ≤ k) && p.testBit k) = true then 1 else 0)
theorem sj_cn1 {p c : Nat} (hc : c < 5) (q : p.testBit c = true) : sj_cn p c = sj_cn p (c + 1) + 1 := by
  refine sj_Sinc hc (fun i hi ne => ?_) ?_
  · show (if (decide (c ≤ i) && p.testBit i) = true then 1 else 0) = (if (decide (c + 1 ≤ i) && p.testBit i) = true then 1 else 0)
    have e : decide (c ≤ i) = decide (c + 1 ≤ i) := decide_eq_decide.mpr (by omega)
    rw [e]
  · show (if (decide (c ≤ c) && p.testBit c) = true then 1 else 0) = (if (decide (c + 1 ≤ c) && p.testBit c) = true then 1 else 0) + 1
    rw [q]
    simp
theorem sj_cn0 {p c : Nat} (q : ¬ p.testBit c = true) : sj_cn p c = sj_cn p (c + 1) := by
  refine sj_Seq (fun i hi => ?_)
  by_cases e : i = c
  · subst e
    have : p.testBit i = false := by
      cases z : p.testBit i
      · rfl
      · exact absurd z q
    rw [this]
    simp
  · have e : decide (c ≤ i) = decide (c + 1 ≤ i) := decide_eq_decide.mpr (by omega)
    rw [e]
theorem sj_cnle (p c : Nat) : sj_cn p c ≤ 5 := by
  have : sj_cn p c ≤ sj_S (fun _ => 1) := sj_Sle (fun i _ => by show (if (decide (c ≤ i) && p.testBit i) = true then 1 else 0) ≤ 1; split <;> omega)
  exact this
def sj_b1 (p k : Nat) : Nat := if p.testBit k = true then 1 else 0
theorem sj_cnS (p : Nat) : sj_cn p 0 = sj_b1 p 0 + sj_b1 p 1 + sj_b1 p 2 + sj_b1 p 3 + sj_b1 p 4 := by
  have e : sj_cn p 0 = sj_S (sj_b1 p) := sj_Seq (fun i _ => by unfold sj_b1; simp)
  rw [e]
  rfl
theorem sj_b1t {p k : Nat} (h : p.testBit k = true) : sj_b1 p k = 1 := if_pos h
theorem sj_b1f {p k : Nat} (h : ¬ p.testBit k = true) : sj_b1 p k = 0 := if_neg h
theorem sj_b1l (p k : Nat) : sj_b1 p k ≤ 1 := by unfold sj_b1; split <;> omega
theorem sj_full {p mo : Nat} (h1 : 1 ≤ mo) (h5 : mo ≤ 5) (hlt : ∀ j, j < 5 → p.testBit j = true → j < mo) : (∀ j, j < mo → p.testBit j = true) ↔ mo ≤ sj_cn p 0 := by
  rw [sj_cnS]
  have c : mo = 1 ∨ mo = 2 ∨ mo = 3 ∨ mo = 4 ∨ mo = 5 := by omega
  constructor
  · intro h
    rcases c with rfl | rfl | rfl | rfl | rfl
    · rw [sj_b1t (h 0 (by omega))]; omega
    · rw [sj_b1t (h 0 (by omega)), sj_b1t (h 1 (by omega))]; omega
    · rw [sj_b1t (h 0 (by omega)), sj_b1t (h 1 (by omega)), sj_b1t (h 2 (by omega))]; omega
    · rw [sj_b1t (h 0 (by omega)), sj_b1t (h 1 (by omega)), sj_b1t (h 2 (by omega)), sj_b1t (h 3 (by omega))]; omega
    · rw [sj_b1t (h 0 (by omega)), sj_b1t (h 1 (by omega)), sj_b1t (h 2 (by omega)), sj_b1t (h 3 (by omega)), sj_b1t (h 4 (by omega))]; omega
  · intro h j hj
    apply Classical.byContradiction
    intro n
    have z := sj_b1f n
    have hi : ∀ k, k < 5 → mo ≤ k → sj_b1 p k = 0 := fun k hk hm => sj_b1f (fun q => by have := hlt k hk q; omega)
    have l0 := sj_b1l p 0
    have l1 := sj_b1l p 1
    have l2 := sj_b1l p 2
    have l3 := sj_b1l p 3
    have l4 := sj_b1l p 4
    rcases c with rfl | rfl | rfl | rfl | rfl
    · have k1 := hi 1 (by omega) (by omega)
      have k2 := hi 2 (by omega) (by omega)
      have k3 := hi 3 (by omega) (by omega)
      have k4 := hi 4 (by omega) (by omega)
      rcases sj_c5 (j := j) (by omega) with rfl | rfl | rfl | rfl | rfl <;> omega
    · have k2 := hi 2 (by omega) (by omega)
      have k3 := hi 3 (by omega) (by omega)
      have k4 := hi 4 (by omega) (by omega)
      rcases sj_c5 (j := j) (by omega) with rfl | rfl | rfl | rfl | rfl <;> omega
    · have k3 := hi 3 (by omega) (by omega)
      have k4 := hi 4 (by omega) (by omega)
      rcases sj_c5 (j := j) (by omega) with rfl | rfl | rfl | rfl | rfl <;> omega
    · have k4 := hi 4 (by omega) (by omega)
      rcases sj_c5 (j := j) (by omega) with rfl | rfl | rfl | rfl | rfl <;> omega
    · rcases sj_c5 (j := j) (by omega) with rfl | rfl | rfl | rfl | rfl <;> omega
section
variable {lim fu fd mb : Int32} {p mo : Nat} {hd rel len kin due wt af pr be : Nat → Int32}
theorem sy_take9 {post : Int32 → SY → Prop} (B : sj_bnd p rel len kin due wt) (h : sj_hd p hd) (hlk : sj_lk p af pr) (hlim : -200 ≤ lim.toInt ∧ lim.toInt ≤ 1000) (hm1 : 1 ≤ mo) (hmo : mo ≤ 5) (hlt : ∀ j, j < 5 → p.testBit j = true → j < mo) {rn pn kn dn : Nat} (h1 : rn ≤ 9) (h2 : 1 ≤ pn ∧ pn ≤ 3) (h3 : kn ≤ 3) (h4 : dn ≤ 30)
    (kF : (∀ j, j < mo → p.testBit j = true) → post (-2) (nI mo, lim, fu, fd, -1, mb, hd, rel, len, kin, due, wt, pr, be))
    (kG : ∀ e, e < mo → ¬ p.testBit e = true → (∀ j, j < e → p.testBit j = true) → sj_G (sj_ad p e) (upd rel e (nI rn)) (upd len e (nI pn)) (upd kin e (nI kn)) (upd due e (nI dn)) (upd wt e (nI 1)) af sj_M0 lim.toInt 34 (sj_Fu (sj_ad p e) (upd len e (nI pn))) →
      ∀ fu' fd' be', post (nI e) (nI mo, lim, fu', fd', -1, mb, upd hd e 1, upd rel e (nI rn), upd len e (nI pn), upd kin e (nI kn), upd due e (nI dn), upd wt e (nI 1), upd pr e (nI 0), be'))
    (kR : ∀ e, e < mo → ¬ p.testBit e = true → (∀ j, j < e → p.testBit j = true) → ¬ sj_G (sj_ad p e) (upd rel e (nI rn)) (upd len e (nI pn)) (upd kin e (nI kn)) (upd due e (nI dn)) (upd wt e (nI 1)) af sj_M0 lim.toInt 34 (sj_Fu (sj_ad p e) (upd len e (nI pn))) →
      ∀ fu' fd' be', post (-3) (nI mo, lim, fu', fd', -1, mb, upd (upd hd e 1) e 0, upd rel e (nI rn), upd len e (nI pn), upd kin e (nI kn), upd due e (nI dn), upd wt e (nI 1), upd pr e (nI 0), be')) :
    ∀ c e, c ≤ 5 → ((e = 5 ∧ ∀ k, c ≤ k → k < 5 → p.testBit k = true) ∨ (e < 5 ∧ c ≤ e ∧ ¬ p.testBit e = true ∧ ∀ k, c ≤ k → k < e → p.testBit k = true)) →
      wY_take_9 post (nI rn) (nI pn) (nI kn) (nI dn) (nI mo) lim fu fd (-1) mb hd rel len kin due wt pr be (c + 1) (nI (sj_cn p c)) (nI e) (sj_dn c) := by
  intro c
  induction c with
  | zero =>
    intro e _ he
    have fl := sj_full hm1 hmo hlt
    have cl := sj_cnle p 0
    refine br_t (by decide) ?_
    by_cases q : mo ≤ sj_cn p 0
    · exact br_t (nI_le q (by omega)) (kF (fl.mpr q))
    · have nf : ¬ ∀ j, j < mo → p.testBit j = true := fun z => q (fl.mp z)
      rcases he with ⟨-, he⟩ | ⟨he5, -, hn, he⟩
      · exact absurd (fun j hj => he j (by omega) (by omega)) nf
      · have hem : e < mo := by
          rcases Nat.lt_or_ge e mo with w | w
          · exact w
          · exact absurd (fun j hj => he j (by omega) (by omega)) nf
        have hlow : ∀ j, j < e → p.testBit j = true := fun j hj => he j (by omega) hj
        have ve : vp_in (nI e) 5 := vp_in_nI he5 (by omega)
        have ce : (nI e).toNatClampNeg = e := nI_clamp (by omega)
        refine br_f (nI_ge (by omega) (by omega)) (br_t (nI_lt (b := 5) he5 (by decide)) ?_)
        rw [ce]
        refine ⟨ve, nm_e ⟨ve, nm_e ⟨ve, nm_e ⟨ve, nm_e ⟨ve, nm_e ⟨ve, nm_e ⟨ve, nm_e ?_⟩⟩⟩⟩⟩⟩⟩
        refine sy_good0 (af := af) (sj_bndA B he5 h1 h2 h3 h4) (sj_hdA B.1 he5 h) (sj_lkA B.1 he5 hn hlk) hlim (fun g fu' fd' be' => ?_) (fun g fu' fd' be' => ?_)
        · exact br_f (by decide) (kG e hem hn hlow g fu' fd' be')
        · exact br_t rfl ⟨ve, nm_e (kR e hem hn hlow g fu' fd' be')⟩
  | succ c ih =>
    intro e hc he
    have hc5 : c < 5 := by omega
    have vc : vp_in (nI c) 5 := vp_in_nI hc5 (by omega)
    have cc : (nI c).toNatClampNeg = c := nI_clamp (by omega)
    refine br_f (nI_pos (by omega)) ⟨vc, ?_⟩
    show (hd (nI c).toNatClampNeg = 0 → _) ∧ (¬ hd (nI c).toNatClampNeg = 0 → _)
    rw [cc]
    by_cases q : p.testBit c = true
    · refine br_f (sj_hd1 h hc5 q) ?_
      unfold wY_take_31
      refine nm_r (e' := nI (sj_cn p c)) (by rw [sj_cn1 hc5 q, nI_1]) ⟨vc, ?_⟩
      show (hd (nI c).toNatClampNeg = 0 → _) ∧ (¬ hd (nI c).toNatClampNeg = 0 → _)
      rw [cc]
      refine br_f (sj_hd1 h hc5 q) (nm_r (sj_dn1 c) (ih e (by omega) ?_))
      rcases he with ⟨he1, he⟩ | ⟨he5, hce, hn, he⟩
      · refine Or.inl ⟨he1, fun k h1 h2 => ?_⟩
        by_cases z : k = c
        · subst z; exact q
        · exact he k (by omega) h2
      · refine Or.inr ⟨he5, by omega, hn, fun k h1 h2 => ?_⟩
        by_cases z : k = c
        · subst z; exact q
        · exact he k (by omega) h2
    · refine br_t (sj_hd0 h hc5 q) ?_
      unfold wY_take_31
      refine nm_r (e' := nI (sj_cn p c)) (by rw [sj_cn0 q, Int32.add_zero]) ⟨vc, ?_⟩
      show (hd (nI c).toNatClampNeg = 0 → _) ∧ (¬ hd (nI c).toNatClampNeg = 0 → _)
      rw [cc]
      exact br_t (sj_hd0 h hc5 q) (nm_r (sj_dn1 c) (ih c (by omega) (Or.inr ⟨hc5, Nat.le_refl _, q, fun k h1 h2 => absurd h2 (by omega)⟩)))
theorem sy_take {post : Int32 → SY → Prop} (B : sj_bnd p rel len kin due wt) (h : sj_hd p hd) (hlk : sj_lk p af pr) (hlim : -200 ≤ lim.toInt ∧ lim.toInt ≤ 1000) (hm1 : 1 ≤ mo) (hmo : mo ≤ 5) (hlt : ∀ j, j < 5 → p.testBit j = true → j < mo) {rn pn kn dn : Nat} (h1 : rn ≤ 9) (h2 : 1 ≤ pn ∧ pn ≤ 3) (h3 : kn ≤ 3) (h4 : dn ≤ 30)
    (kF : (∀ j, j < mo → p.testBit j = true) → post (-2) (nI mo, lim, fu, fd, -1, mb, hd, rel, len, kin, due, wt, pr, be))
    (kG : ∀ e, e < mo → ¬ p.testBit e = true → (∀ j, j < e → p.testBit j = true) → sj_G (sj_ad p e) (upd rel e (nI rn)) (upd len e (nI pn)) (upd kin e (nI kn)) (upd due e (nI dn)) (upd wt e (nI 1)) af sj_M0 lim.toInt 34 (sj_Fu (sj_ad p e) (upd len e (nI pn))) →
      ∀ fu' fd' be', post (nI e) (nI mo, lim, fu', fd', -1, mb, upd hd e 1, upd rel e (nI rn), upd len e (nI pn), upd kin e (nI kn), upd due e (nI dn), upd wt e (nI 1), upd pr e (nI 0), be'))
    (kR : ∀ e, e < mo → ¬ p.testBit e = true → (∀ j, j < e → p.testBit j = true) → ¬ sj_G (sj_ad p e) (upd rel e (nI rn)) (upd len e (nI pn)) (upd kin e (nI kn)) (upd due e (nI dn)) (upd wt e (nI 1)) af sj_M0 lim.toInt 34 (sj_Fu (sj_ad p e) (upd len e (nI pn))) →
      ∀ fu' fd' be', post (-3) (nI mo, lim, fu', fd', -1, mb, upd (upd hd e 1) e 0, upd rel e (nI rn), upd len e (nI pn), upd kin e (nI kn), upd due e (nI dn), upd wt e (nI 1), upd pr e (nI 0), be')) :
    wpY_take post (nI mo, lim, fu, fd, -1, mb, hd, rel, len, kin, due, wt, pr, be) (nI rn) (nI pn) (nI kn) (nI dn) :=
  ⟨6, sy_take9 B h hlk hlim hm1 hmo hlt h1 h2 h3 h4 kF kG kR 5 5 (by omega) (Or.inl ⟨rfl, fun k h1 h2 => absurd h2 (by omega)⟩)⟩
end
end
section
/-! ===== the least greatest cost ===== -/
def sj_st : Nat → Nat
  | 0 => 0
  | e + 1 => 2 ^ e
theorem sj_half (e : Nat) : 2 ^ e / 2 = sj_st e := by
  cases e with
  | zero => rfl
  | succ e => show 2 ^ (e + 1) / 2 = 2 ^ e; rw [Nat.pow_succ]; omega
section
variable {c b : Int32} {p : Nat} {rel len kin due wt af : Nat → Int32}
theorem sx_lw19 {post : Int32 → SX → Prop} {rk : Nat → Nat} (B : sj_bnd p rel len kin due wt) (haf : sj_le af 31) (hrk : sj_ord (sj_A p af) rk)
    (k : ∀ r : Int32, -150 ≤ r.toInt → r.toInt ≤ 1897 → sj_G p rel len kin due wt af sj_M0 r.toInt 34 (sj_Fu p len) → ¬ sj_G p rel len kin due wt af sj_M0 (r.toInt - 1) 34 (sj_Fu p len) → ∀ st' dl' lf', post r (c, b, nI p, rel, len, kin, due, wt, af, st', dl', lf')) :
    ∀ e (x1 : Int32) st dl lf, -151 ≤ x1.toInt → x1.toInt + ((2 ^ e : Nat) : Int) ≤ 1897 → ¬ sj_G p rel len kin due wt af sj_M0 x1.toInt 34 (sj_Fu p len) → sj_G p rel len kin due wt af sj_M0 (x1.toInt + ((2 ^ e : Nat) : Int)) 34 (sj_Fu p len) →
      wX_leastWorst_19 post (e + 1) x1 (nI (sj_st e)) c b (nI p) rel len kin due wt af st dl lf := by
  intro e
  induction e with
  | zero =>
    intro x1 st dl lf h1 h2 n g
    have e1 : (1 : Int32).toInt = 1 := by decide
    have q2 : ((2 ^ 0 : Nat) : Int) = 1 := rfl
    rw [q2] at h2 g
    have ad : (x1 + 1).toInt = x1.toInt + 1 := by rw [sj_addI (by omega) (by omega) (by omega) (by omega), e1]
    refine br_t (by decide) (k (x1 + 1) (by omega) (by omega) (by rw [ad]; exact g) (fun z => n ?_) st dl lf)
    have w : (x1 + 1).toInt - 1 = x1.toInt := by omega
    rw [w] at z
    exact z
  | succ e ih =>
    intro x1 st dl lf h1 h2 n g
    have pw : 2 ^ (e + 1) = 2 ^ e * 2 := Nat.pow_succ 2 e
    have pos : 0 < 2 ^ e := Nat.pow_pos (by omega)
    rw [pw] at h2 g
    have hh := sj_half e
    have ss : sj_st (e + 1) = 2 ^ e := rfl
    rw [ss]
    generalize 2 ^ e = w at *
    have wI : (nI w).toInt = (w : Int) := nI_toInt (by omega)
    have ad : (x1 + nI w).toInt = x1.toInt + (w : Int) := by rw [sj_addI (by omega) (by omega) (by omega) (by omega), wI]
    have hd : nI w / 2 = nI (sj_st e) := by
      have := pk_div (a := w) (d := 2) (by omega) (by omega) (by omega)
      rw [hh] at this
      exact this
    refine br_f (nI_nlt (b := 1) (by omega) (by omega)) ?_
    refine sx_plan B haf hrk (fun g2 s d l => ?_) (fun g2 s d l => ?_)
    · rw [ad] at g2
      exact br_f (by decide) ⟨by decide, nm_r hd (ih x1 s d l h1 (by omega) n g2)⟩
    · refine br_t rfl (nm_e ⟨by decide, nm_r hd (ih (x1 + nI w) s d l (by omega) (by omega) g2 ?_)⟩)
      have q : (x1 + nI w).toInt + (w : Int) = x1.toInt + ((w * 2 : Nat) : Int) := by rw [ad]; omega
      rw [q]
      exact g
theorem sx_lw {post : Int32 → SX → Prop} {rk : Nat → Nat} {st dl lf : Nat → Int32} (B : sj_bnd p rel len kin due wt) (haf : sj_le af 31) (hrk : sj_ord (sj_A p af) rk) (g : sj_G p rel len kin due wt af sj_M0 1000 34 (sj_Fu p len))
    (k0 : p = 0 → post (-2000) (c, b, nI p, rel, len, kin, due, wt, af, st, dl, lf))
    (k : p ≠ 0 → ∀ r : Int32, -150 ≤ r.toInt → r.toInt ≤ 1897 → sj_G p rel len kin due wt af sj_M0 r.toInt 34 (sj_Fu p len) → ¬ sj_G p rel len kin due wt af sj_M0 (r.toInt - 1) 34 (sj_Fu p len) → ∀ st' dl' lf', post r (c, b, nI p, rel, len, kin, due, wt, af, st', dl', lf')) :
    wpX_leastWorst post (c, b, nI p, rel, len, kin, due, wt, af, st, dl, lf) := by
  have hp := B.1
  by_cases z : p = 0
  · refine br_t (by rw [z]; rfl) (k0 z)
  · refine br_f (nI_ne0 (by omega) (by omega)) ⟨12, sx_lw19 B haf hrk (k z) 11 (-151) st dl lf (by decide) (by decide) (sj_Glow B z (by decide)) (sj_Gw (by decide) g)⟩
end
section
variable {mo lim fu fd mb : Int32} {p : Nat} {hd rel len kin due wt af pr be : Nat → Int32}
/-- the table, with no job that must be done -/
theorem sy_solve0 {post : SY → Prop} (B : sj_bnd p rel len kin due wt) (h : sj_hd p hd) (hlk : sj_lk p af pr)
    (k : ∀ be' fd', (∀ b : Int, -2000 ≤ b → b ≤ 9998 → ((be' (sj_Fu p len)).toInt ≤ b ↔ sj_G p rel len kin due wt af sj_M0 b 34 (sj_Fu p len))) → sj_FD fd' 34 (fun d => sj_G p rel len kin due wt af sj_M0 9998 d (sj_Fu p len)) →
      (nI (sj_Fu p len) &&& 1023) = nI (sj_Fu p len) → vp_in (nI (sj_Fu p len)) 1024 → (nI (sj_Fu p len)).toNatClampNeg = sj_Fu p len → (sj_Fu p len = 0 → be' (sj_Fu p len) = -2000) →
      post (mo, lim, nI (sj_Fu p len), fd', -1, mb, hd, rel, len, kin, due, wt, pr, be')) :
    wpY_solve post (mo, lim, fu, fd, -1, mb, hd, rel, len, kin, due, wt, pr, be) := by
  have hfl : sj_Fu p len < 1024 := sj_fcl (sj_hL B)
  have ef : nI (sj_Fu p len) &&& 1023 = nI (sj_Fu p len) := by rw [pk_andN (by omega) 10 (by decide), Nat.mod_eq_of_lt hfl]
  have cf : (nI (sj_Fu p len)).toNatClampNeg = sj_Fu p len := nI_clamp (by omega)
  refine sy_solve B h hlk.2.1 (sj_rlk hlk) (fun be' fd' hT hf => k be' fd' (fun b b1 b2 => ?_) ?_ ef (vp_in_nI hfl (by omega)) cf (fun z => ?_))
  · have q := (hT (sj_Fu p len) hfl).2 b b1 b2
    exact q.trans sj_G0
  · rcases hf with ⟨e, n⟩ | ⟨d, hd1, e, z, n⟩
    · exact Or.inl ⟨e, fun d hd2 w => n d hd2 (sj_G0.mpr w)⟩
    · exact Or.inr ⟨d, hd1, e, sj_G0.mp z, fun d' hd2 w => n d' hd2 (sj_G0.mpr w)⟩
  · have q := hT (sj_Fu p len) hfl
    have e1 : (-2000 : Int32).toInt = -2000 := by decide
    have rc0 : sj_rc p.testBit (sj_N len) (sj_N rel) (sj_A p af) (sj_My (-1) mb) (sj_KK kin due wt (-2000)) 34 (sj_Fu p len) := sj_upto (t := 0) (by omega) z
    have := (q.2 (-2000) (by omega) (by omega)).mpr rc0
    rw [sj_inI, e1]
    omega
end
/-- with no jobs there is no work -/
theorem sj_Fu0 {p : Nat} {len : Nat → Int32} (hp : p < 32) (h : p = 0) : sj_Fu p len = 0 := by
  subst h
  have x0 : ∀ j, sj_x (Nat.testBit 0) (sj_N len) j = 0 := fun j => sj_xf (by rw [Nat.zero_testBit]; decide)
  show sj_fc (Nat.testBit 0) (sj_N len) = 0
  unfold sj_fc
  rw [x0, x0, x0, x0, x0]
/-- one number is both -/
theorem sj_wv {p : Nat} {rel len kin due wt af : Nat → Int32} {v r : Int32} (hv : ∀ b : Int, -2000 ≤ b → b ≤ 9998 → (v.toInt ≤ b ↔ sj_G p rel len kin due wt af sj_M0 b 34 (sj_Fu p len)))
    (h1 : -150 ≤ r.toInt) (h2 : r.toInt ≤ 1897) (g : sj_G p rel len kin due wt af sj_M0 r.toInt 34 (sj_Fu p len)) (n : ¬ sj_G p rel len kin due wt af sj_M0 (r.toInt - 1) 34 (sj_Fu p len)) : v = r := by
  have a := (hv r.toInt (by omega) (by omega)).mpr g
  have a2 : ¬ v.toInt ≤ r.toInt - 1 := fun z => n ((hv (r.toInt - 1) (by omega) (by omega)).mp z)
  rw [sj_inI]
  omega
/-! ===== span ===== -/
section
variable {c b : Int32} {p : Nat} {rel len kin due wt af st dl lf : Nat → Int32}
def sj_wk (p : Nat) (len : Nat → Int32) (F : Nat → Nat) (a k : Nat) : Nat := if (p.testBit k && decide (a ≤ F k)) = true then sj_N len k else 0
theorem sj_wkS {F : Nat → Nat} {a : Nat} : sj_P (sj_wk p len F a) 5 = sj_wf p.testBit (sj_N len) F a := sj_P5 _
theorem sj_wfl (B : sj_bnd p rel len kin due wt) {F : Nat → Nat} {a : Nat} : sj_wf p.testBit (sj_N len) F a ≤ 15 := by
  have : sj_wf p.testBit (sj_N len) F a ≤ sj_S (fun _ => 3) := sj_Sle (fun i hi => by
    have l := (sj_Ne B.2.2.1 (by omega) hi).2
    show (if (p.testBit i && decide (a ≤ F i)) = true then sj_N len i else 0) ≤ 3
    split <;> omega)
  exact this
theorem sx_wf4 {post : Int32 → Prop} {F : Nat → Nat} {a : Nat} (B : sj_bnd p rel len kin due wt) (hst : ∀ j, j < 5 → st j = nI (F j) ∧ F j ≤ 200) (ha : a ≤ 200) (k : post (nI (sj_wf p.testBit (sj_N len) F a))) :
    ∀ d i, i + d = 5 → wX_workFrom_4 post (nI a) c b (nI p) rel len kin due wt af st dl lf (d + 1) (nI (sj_P (sj_wk p len F a) i)) (nI i) := by
  intro d
  induction d with
  | zero =>
    intro i hi
    have hi : i = 5 := hi
    subst hi
    rw [sj_wkS]
    exact br_t (by decide) k
  | succ d ih =>
    intro i hi
    have hi5 : i < 5 := by omega
    have vi : vp_in (nI i) 5 := vp_in_nI hi5 (by omega)
    have ci : (nI i).toNatClampNeg = i := nI_clamp (by omega)
    obtain ⟨e1, e2⟩ := hst i hi5
    obtain ⟨e3, e4⟩ := sj_Ne B.2.2.1 (by omega) hi5
    have nx := ih (i + 1) (by omega)
    have e5 : sj_P (sj_wk p len F a) (i + 1) = sj_P (sj_wk p len F a) i + sj_wk p len F a i := rfl
    rw [e5] at nx
    refine br_f (nI_ge (b := 5) hi5 (by decide)) (sx_pres B.1 hi5 (fun q => ?_) (fun q => ?_))
    · refine br_f (by decide) ⟨vi, ?_⟩
      rw [ci, e1]
      by_cases w : F i < a
      · have z : sj_wk p len F a i = 0 := if_neg (by rw [decide_eq_false (by omega), Bool.and_false]; decide)
        rw [z, Nat.add_zero] at nx
        exact br_t (nI_lt w (by omega)) (nm_r (nI_1 i) nx)
      · have z : sj_wk p len F a i = sj_N len i := if_pos (by rw [q, decide_eq_true (by omega)]; rfl)
        rw [z] at nx
        refine br_f (nI_nlt (by omega) (by omega)) ⟨vi, ?_⟩
        rw [e3]
        exact nm_r (nI_add _ _) (nm_r (nI_1 i) nx)
    · have q' : p.testBit i = false := by
        cases z : p.testBit i
        · rfl
        · exact absurd z q
      have z : sj_wk p len F a i = 0 := if_neg (by rw [q', Bool.false_and]; decide)
      rw [z, Nat.add_zero] at nx
      exact br_t rfl (nm_r (nI_1 i) nx)
theorem sx_wf {post : Int32 → Prop} {F : Nat → Nat} {a : Nat} (B : sj_bnd p rel len kin due wt) (hst : ∀ j, j < 5 → st j = nI (F j) ∧ F j ≤ 200) (ha : a ≤ 200) (k : post (nI (sj_wf p.testBit (sj_N len) F a))) :
    wpX_workFrom post (c, b, nI p, rel, len, kin, due, wt, af, st, dl, lf) (nI a) :=
  ⟨6, sx_wf4 B hst ha k 5 0 (by omega)⟩
theorem sx_sp8 {post : Int32 → SX → Prop} {F : Nat → Nat} (B : sj_bnd p rel len kin due wt) (hst : ∀ j, j < 5 → st j = nI (F j) ∧ F j ≤ 200)
    (k : ∀ a, (∀ i, i < 5 → p.testBit i = true → F i + sj_wf p.testBit (sj_N len) F (F i) ≤ a) → (a = 0 ∨ ∃ i, i < 5 ∧ p.testBit i = true ∧ a = F i + sj_wf p.testBit (sj_N len) F (F i)) → post (nI a) (c, b, nI p, rel, len, kin, due, wt, af, st, dl, lf)) :
    ∀ d i a, i + d = 5 → a ≤ 300 → (∀ j, j < i → p.testBit j = true → F j + sj_wf p.testBit (sj_N len) F (F j) ≤ a) → (a = 0 ∨ ∃ i, i < 5 ∧ p.testBit i = true ∧ a = F i + sj_wf p.testBit (sj_N len) F (F i)) →
      wX_span_8 post c b (nI p) rel len kin due wt af st dl lf (d + 1) (nI a) (nI i) := by
  intro d
  induction d with
  | zero =>
    intro i a hi _ h1 h2
    have hi : i = 5 := hi
    subst hi
    exact br_t (by decide) (k a h1 h2)
  | succ d ih =>
    intro i a hi ha h1 h2
    have hi5 : i < 5 := by omega
    have vi : vp_in (nI i) 5 := vp_in_nI hi5 (by omega)
    have ci : (nI i).toNatClampNeg = i := nI_clamp (by omega)
    obtain ⟨e1, e2⟩ := hst i hi5
    have wl := sj_wfl B (F := F) (a := F i)
    refine br_f (nI_ge (b := 5) hi5 (by decide)) (sx_pres B.1 hi5 (fun q => ?_) (fun q => ?_))
    · refine br_f (by decide) ⟨vi, vi, ?_⟩
      rw [ci, e1]
      refine sx_wf B hst (by omega) (nm_r (nI_add _ _) ?_)
      by_cases w : F i + sj_wf p.testBit (sj_N len) F (F i) ≤ a
      · refine br_t (nI_le w (by omega)) (nm_r (nI_1 i) (ih (i + 1) a (by omega) ha (fun j hj z => ?_) h2))
        by_cases e : j = i
        · subst e; exact w
        · exact h1 j (by omega) z
      · refine br_f (nI_ge (by omega) (by omega)) (nm_r (nI_1 i) (ih (i + 1) _ (by omega) (by omega) (fun j hj z => ?_) (Or.inr ⟨i, hi5, q, rfl⟩)))
        by_cases e : j = i
        · subst e; exact Nat.le_refl _
        · have := h1 j (by omega) z
          omega
    · refine br_t rfl (nm_r (nI_1 i) (ih (i + 1) a (by omega) ha (fun j hj z => ?_) h2))
      by_cases e : j = i
      · subst e; exact absurd z q
      · exact h1 j (by omega) z
theorem sx_span {post : Int32 → SX → Prop} {rk : Nat → Nat} (B : sj_bnd p rel len kin due wt) (haf : sj_le af 31) (hrk : sj_ord (sj_A p af) rk)
    (k : ∀ a, sj_G p rel len kin due wt af sj_M0 9998 a (sj_Fu p len) → (∀ e, e < a → ¬ sj_G p rel len kin due wt af sj_M0 9998 e (sj_Fu p len)) → ∀ st', post (nI a) (c, b, nI p, rel, len, kin, due, wt, af, st', dl, lf))
    (g : sj_G p rel len kin due wt af sj_M0 9998 34 (sj_Fu p len)) : wpX_span post (c, b, nI p, rel, len, kin, due, wt, af, st, dl, lf) := by
  obtain ⟨rk', h4, hrk'⟩ := sj_rk4 hrk
  obtain ⟨F, hF, hFu⟩ := sj_Fnat (R := sj_N rel) (L := sj_N len) hrk' h4 (U := 18) (fun j hj => (sj_Ne B.2.1 (by omega) hj).2) (fun i j hi hj _ => (sj_Ne B.2.2.1 (by omega) hi).2)
  have rI : ∀ j, j < 5 → (sj_N rel j : Int) = (rel j).toInt := fun j hj => by
    obtain ⟨e, l⟩ := sj_Ne B.2.1 (by omega) hj
    have q : (rel j).toInt = ((nI (sj_N rel j)).toInt) := congrArg Int32.toInt e
    rw [q, nI_toInt (by omega)]
  have hAH : ∀ i j, i < 5 → j < 5 → sj_A p af i j = true → p.testBit i = true ∧ p.testBit j = true := fun i j _ _ a => ⟨(sj_At a).1, (sj_At a).2.1⟩
  unfold wpX_span
  dsimp only
  refine sx_starts (F := fun j => (F j : Int)) B.1 haf B.2.2.1 (sj_isFc hF rI (fun _ _ => rfl)) hrk' h4 (fun j hj => by rw [← rI j hj]; omega) (fun j hj => by have := hFu j hj; show (F j : Int) ≤ 200; omega) (fun st' hst' => ?_)
  refine ⟨6, sx_sp8 (F := F) B (fun j hj => ⟨?_, by have := hFu j hj; omega⟩) (fun a h1 h2 => ?_) 5 0 0 (by omega) (by omega) (fun j hj => absurd hj (by omega)) (Or.inl rfl)⟩
  · have q : (st' j).toInt = (F j : Int) := hst' j hj
    have := hFu j hj
    rw [sj_inI, q, nI_toInt (by omega)]
  · have le34 : ∀ i, i < 5 → p.testBit i = true → F i + sj_wf p.testBit (sj_N len) F (F i) ≤ 34 := sj_spanle (sj_hL B) hAH hF g
    have a34 : a ≤ 34 := by
      rcases h2 with h2 | ⟨i, hi, q, h2⟩
      · omega
      · have := le34 i hi q
        omega
    refine k a ?_ (fun e he z => ?_) st'
    · refine sj_spange (sj_hL B) hAH hF (fun j t hj _ ht => ⟨trivial, ?_⟩) h1
      have := sj_Kb B (t := t + 1) hj (by omega)
      show sj_cost _ _ _ _ ≤ 9998
      omega
    · rcases h2 with h2 | ⟨i, hi, q, h2⟩
      · omega
      · have := sj_spanle (sj_hL B) hAH hF z i hi q
        omega
end
end
section
/-! ===== the least finish of a job ===== -/
section
variable {H : Nat → Bool} {L R : Nat → Nat} {A : Nat → Nat → Bool} {M M' K : Nat → Nat → Prop}
theorem sj_monoM {T : Nat} (hM : ∀ j u, j < 5 → H j = true → u < T → M j u → M' j u) : ∀ t s, t ≤ T → sj_rc H L R A M K t s → sj_rc H L R A M' K t s := by
  intro t
  induction t with
  | zero => exact fun s _ h => h
  | succ t ih =>
    intro s ht h
    rcases h with h | ⟨j, s', ⟨hj, hH, h1, h2, h3, h4, h5⟩, h, rfl⟩
    · exact Or.inl (ih s (by omega) h)
    · exact Or.inr ⟨j, s', ⟨hj, hH, h1, h2, h3, hM j t hj hH (by omega) h4, h5⟩, ih s' (by omega) h, rfl⟩
end
def sj_Mf (id f j t : Nat) : Prop := j = id → t < f
def sj_Gf (p : Nat) (rel len kin due wt af : Nat → Int32) (b : Int) (id f : Nat) : Prop := sj_G p rel len kin due wt af (sj_Mf id f) b 34 (sj_Fu p len)
theorem sj_Gfy {p : Nat} {rel len kin due wt af : Nat → Int32} {b : Int} {id f : Nat} (hid : id < 5) (hf : f ≤ 34) :
    sj_rc p.testBit (sj_N len) (sj_N rel) (sj_A p af) (sj_My (nI id) (nI f)) (sj_K kin due wt b) 34 (sj_Fu p len) ↔ sj_Gf p rel len kin due wt af b id f := by
  constructor
  · exact fun h => sj_monoM (T := 34) (fun j u hj _ hu m e => by
      have q := m (by rw [e])
      exact (nI_ltI (by omega) (by omega)).mp q) 34 _ (Nat.le_refl _) h
  · exact fun h => sj_monoM (T := 34) (fun j u hj _ hu m e => nI_lt (m ((nI_eq (by omega) (by omega)).mp e)) (by omega)) 34 _ (Nat.le_refl _) h
/-- a good plan does every job by 33 -/
theorem sj_Gf33 {p : Nat} {rel len kin due wt af : Nat → Int32} {b : Int} {id : Nat} (B : sj_bnd p rel len kin due wt) (h : sj_G p rel len kin due wt af sj_M0 b 34 (sj_Fu p len)) : sj_Gf p rel len kin due wt af b id 33 := by
  have h33 : sj_rc p.testBit (sj_N len) (sj_N rel) (sj_A p af) sj_M0 (sj_K kin due wt b) 33 (sj_Fu p len) :=
    sj_shift (sj_hL B) (fun j hj _ => (sj_Ne B.2.1 (by omega) hj).2) (fun _ _ _ _ m => m) (fun j t hj _ q => sj_Km B hj q) h
  exact Or.inl (sj_monoM (T := 33) (M' := sj_Mf id 33) (fun j u _ _ hu _ _ => hu) 33 _ (Nat.le_refl _) h33)
section
variable {c b : Int32} {p : Nat} {rel len kin due wt af : Nat → Int32}
theorem sx_ef45 {post : Int32 → SX → Prop} {J14 : Int32 → Int32 → Int32 → Int32 → (Nat → Int32) → (Nat → Int32) → (Nat → Int32) → (Nat → Int32) → (Nat → Int32) → (Nat → Int32) → (Nat → Int32) → (Nat → Int32) → (Nat → Int32) → Prop} {x1 : Int32} {rk : Nat → Nat} {st dl lf : Nat → Int32} {id f : Nat}
    (B : sj_bnd p rel len kin due wt) (haf : sj_le af 31) (hrk : sj_ord (sj_A p af) rk) {D : Nat → Nat} (hdl : ∀ j, j < 5 → dl j = nI (D j) ∧ D j ≤ 33)
    (hD : ∀ j t : Nat, j < 5 → p.testBit j = true → t < 33 → ((sj_Mf id f j t ∧ sj_K kin due wt b.toInt j (t + 1)) ↔ (t : Int) + 1 ≤ (D j : Int)))
    (k1 : sj_Gf p rel len kin due wt af b.toInt id f → ∀ st' dl' lf', post (nI f) (c, b, nI p, rel, len, kin, due, wt, af, st', dl', lf'))
    (k0 : ¬ sj_Gf p rel len kin due wt af b.toInt id f → ∀ st' dl' lf', J14 (nI (f + 1)) c b (nI p) rel len kin due wt af st' dl' lf') :
    wX_earliestFinish_45 post J14 x1 (nI f) c b (nI p) rel len kin due wt af st dl lf := by
  unfold wX_earliestFinish_45
  refine sx_met B haf hrk (M := sj_Mf id f) (K := sj_K kin due wt b.toInt) hdl (fun j t _ _ m e => ?_) (fun j t hj _ q => sj_Km B hj q) hD (fun rc s d l => ?_) (fun rc s d l => ?_)
  · have := m e
    omega
  · exact br_f (by decide) (k1 rc s d l)
  · exact br_t rfl (nm_r (nI_1 f) (k0 rc s d l))
theorem sx_ef14 {post : Int32 → SX → Prop} {rk : Nat → Nat} {id : Nat} (hid : id < 5) (B : sj_bnd p rel len kin due wt) (haf : sj_le af 31) (hrk : sj_ord (sj_A p af) rk) (g33 : sj_Gf p rel len kin due wt af b.toInt id 33)
    (k : ∀ f, 1 ≤ f → f ≤ 33 → sj_Gf p rel len kin due wt af b.toInt id f → (∀ f', 1 ≤ f' → f' < f → ¬ sj_Gf p rel len kin due wt af b.toInt id f') → ∀ st' dl' lf', post (nI f) (c, b, nI p, rel, len, kin, due, wt, af, st', dl', lf')) :
    ∀ d f st dl lf, f + d = 33 → 1 ≤ f → (∀ f', 1 ≤ f' → f' < f → ¬ sj_Gf p rel len kin due wt af b.toInt id f') → wX_earliestFinish_14 post (nI id) (d + 1) (nI f) c b (nI p) rel len kin due wt af st dl lf := by
  intro d
  induction d with
  | zero =>
    intro f st dl lf hf h1 n
    have hf : f = 33 := hf
    subst hf
    exact br_t (by decide) (k 33 h1 (by omega) g33 n st dl lf)
  | succ d ih =>
    intro f st dl lf hf h1 n
    have vi : vp_in (nI id) 5 := vp_in_nI hid (by omega)
    have ci : (nI id).toNatClampNeg = id := nI_clamp (by omega)
    have next : ¬ sj_Gf p rel len kin due wt af b.toInt id f → ∀ st' dl' lf', wX_earliestFinish_14 post (nI id) (d + 1) (nI (f + 1)) c b (nI p) rel len kin due wt af st' dl' lf' := by
      intro ng s d' l
      refine ih (f + 1) s d' l (by omega) (by omega) (fun f' a1 a2 => ?_)
      by_cases e : f' = f
      · subst e; exact ng
      · exact n f' a1 (by omega)
    refine br_f (nI_ge (b := 33) (by omega) (by decide)) (sx_setDl (fun dl' hdl' => ?_))
    have hN : ∀ j, j < 5 → dl' j = nI (sj_N dl' j) ∧ sj_lt kin due wt b j (sj_N dl' j) := fun j hj => by
      obtain ⟨D, e, h⟩ := hdl' j hj
      have h1 := h.1
      have q : sj_N dl' j = D := sj_NI e (by omega)
      rw [q]
      exact ⟨e, h⟩
    have hK : ∀ j t : Nat, j < 5 → t < 33 → (sj_K kin due wt b.toInt j (t + 1) ↔ (t : Int) + 1 ≤ (sj_N dl' j : Int)) := fun j t hj ht => sj_ltD B hj (hN j hj).2 t ht
    obtain ⟨ed, ld⟩ := hN id hid
    have ld3 := ld.1
    refine ⟨vi, ?_⟩
    show (dl' (nI id).toNatClampNeg ≤ nI f → _) ∧ (¬ dl' (nI id).toNatClampNeg ≤ nI f → _)
    rw [ci]
    by_cases q : sj_N dl' id ≤ f
    · refine br_t (by rw [ed]; exact nI_le q (by omega)) (sx_ef45 (D := sj_N dl') B haf hrk (fun j hj => ⟨(hN j hj).1, (hN j hj).2.1⟩) (fun j t hj _ ht => ?_) (fun g s d l => k f h1 (by omega) g n s d l) next)
      rw [← hK j t hj ht]
      refine ⟨fun z => z.2, fun z => ⟨fun e => ?_, z⟩⟩
      subst e
      have := (hK j t hj ht).mp z
      omega
    · refine br_f (by rw [ed]; exact nI_ge (by omega) (by omega)) ⟨vi, nm_e (sx_ef45 (D := fun j => if j = id then f else sj_N dl' j) B haf hrk (fun j hj => ?_) (fun j t hj _ ht => ?_) (fun g s d l => k f h1 (by omega) g n s d l) next)⟩
      · show upd dl' id (nI f) j = nI (if j = id then f else sj_N dl' j) ∧ (if j = id then f else sj_N dl' j) ≤ 33
        by_cases e : j = id
        · subst e
          rw [if_pos rfl, sj_us]
          exact ⟨rfl, by omega⟩
        · rw [if_neg e, sj_un e]
          exact ⟨(hN j hj).1, (hN j hj).2.1⟩
      · show (sj_Mf id f j t ∧ sj_K kin due wt b.toInt j (t + 1)) ↔ (t : Int) + 1 ≤ ((if j = id then f else sj_N dl' j : Nat) : Int)
        rw [hK j t hj ht]
        by_cases e : j = id
        · subst e
          rw [if_pos rfl]
          refine ⟨fun z => ?_, fun z => ⟨fun _ => by omega, by omega⟩⟩
          have := z.1 rfl
          omega
        · rw [if_neg e]
          exact ⟨fun z => z.2, fun z => ⟨fun w => absurd w e, z⟩⟩
end
section
variable {mo lim mb : Int32} {p : Nat} {hd rel len kin due wt af pr : Nat → Int32}
theorem sy_ef19 {post : Int32 → SY → Prop} {id : Nat} (hid : id < 5) (B : sj_bnd p rel len kin due wt) (h : sj_hd p hd) (hlk : sj_lk p af pr) (hlim : -200 ≤ lim.toInt ∧ lim.toInt ≤ 1000)
    (k : ∀ x2 : Int32, ((x2 = -2000 ∧ ∀ g, 0 < g → g ≤ 34 → ¬ sj_Gf p rel len kin due wt af lim.toInt id g) ∨ ∃ g, 0 < g ∧ g ≤ 34 ∧ x2 = nI g ∧ sj_Gf p rel len kin due wt af lim.toInt id g ∧ ∀ g', 0 < g' → g' < g → ¬ sj_Gf p rel len kin due wt af lim.toInt id g') →
      ∀ fu' fd' mb' be', post x2 (mo, lim, fu', fd', -1, mb', hd, rel, len, kin, due, wt, pr, be')) :
    ∀ f (x2 : Int32) fu fd mi mb be, f ≤ 34 → ((x2 = -2000 ∧ ∀ g, f < g → g ≤ 34 → ¬ sj_Gf p rel len kin due wt af lim.toInt id g) ∨ ∃ g, f < g ∧ g ≤ 34 ∧ x2 = nI g ∧ sj_Gf p rel len kin due wt af lim.toInt id g ∧ ∀ g', f < g' → g' < g → ¬ sj_Gf p rel len kin due wt af lim.toInt id g') →
      wY_earliestFinish_19 post (nI id) (f + 1) x2 (nI f) mo lim fu fd mi mb hd rel len kin due wt pr be := by
  intro f
  induction f with
  | zero =>
    intro x2 fu fd mi mb be _ g
    exact br_t (by decide) (k x2 g fu fd mb be)
  | succ f ih =>
    intro x2 fu fd mi mb be hf g
    refine br_f (nI_nlt (b := 1) (by omega) (by omega)) (sy_good B h hlk.2.1 (sj_rlk hlk) hlim (fun rc fu' fd' be' => ?_) (fun rc fu' fd' be' => ?_))
    · have gg := (sj_Gfy hid hf).mp rc
      exact br_f (by decide) (nm_r (pk_m1 f) (ih (nI (f + 1)) fu' fd' _ _ be' (by omega) (Or.inr ⟨f + 1, by omega, hf, rfl, gg, fun g' a1 a2 => absurd a1 (by omega)⟩)))
    · have ng : ¬ sj_Gf p rel len kin due wt af lim.toInt id (f + 1) := fun z => rc ((sj_Gfy hid hf).mpr z)
      refine br_t rfl (nm_r (pk_m1 f) (ih x2 fu' fd' _ _ be' (by omega) ?_))
      rcases g with ⟨e, n⟩ | ⟨w, w1, w2, e, w3, n⟩
      · refine Or.inl ⟨e, fun g' a1 a2 => ?_⟩
        by_cases z : g' = f + 1
        · subst z; exact ng
        · exact n g' (by omega) a2
      · refine Or.inr ⟨w, by omega, w2, e, w3, fun g' a1 a2 => ?_⟩
        by_cases z : g' = f + 1
        · subst z; exact ng
        · exact n g' (by omega) a2
end
/-! ===== how long a job may be put off ===== -/
def sj_Gd (p : Nat) (rel len kin due wt af : Nat → Int32) (b : Int) (id r0 d : Nat) : Prop := sj_G p (upd rel id (nI (r0 + d))) len kin due wt af sj_M0 b 34 (sj_Fu p len)
def sj_dI (G : Nat → Prop) (d : Nat) (x : Int32) : Prop := (x = 0 ∧ ∀ g, 1 ≤ g → g < d → ¬ G g) ∨ ∃ g, 1 ≤ g ∧ g < d ∧ x = nI g ∧ G g ∧ ∀ g', g < g' → g' < d → ¬ G g'
theorem sj_dI1 {G : Nat → Prop} {d : Nat} {x : Int32} (hd : 1 ≤ d) (g : G d) : sj_dI G (d + 1) (nI d) := Or.inr ⟨d, hd, by omega, rfl, g, fun g' a1 a2 => absurd a2 (by omega)⟩
theorem sj_dI0 {G : Nat → Prop} {d : Nat} {x : Int32} (h : sj_dI G d x) (n : ¬ G d) : sj_dI G (d + 1) x := by
  rcases h with ⟨e, h⟩ | ⟨g, h1, h2, e, h3, h⟩
  · refine Or.inl ⟨e, fun g' a1 a2 => ?_⟩
    by_cases z : g' = d
    · subst z; exact n
    · exact h g' a1 (by omega)
  · refine Or.inr ⟨g, h1, by omega, e, h3, fun g' a1 a2 => ?_⟩
    by_cases z : g' = d
    · subst z; exact n
    · exact h g' a1 (by omega)
theorem sj_dIu {G : Nat → Prop} {d : Nat} {x y : Int32} (h : sj_dI G d x) (h' : sj_dI G d y) : y = x := by
  rcases h with ⟨e, h⟩ | ⟨g, h1, h2, e, h3, h⟩ <;> rcases h' with ⟨e', h'⟩ | ⟨g', h1', h2', e', h3', h'⟩
  · rw [e, e']
  · exact absurd h3' (h g' h1' h2')
  · exact absurd h3 (h' g h1 h2)
  · rcases Nat.lt_trichotomy g g' with q | q | q
    · exact absurd h3' (h g' q h2')
    · rw [e, e', q]
    · exact absurd h3 (h' g q h2)
theorem sj_udl {rel rl : Nat → Int32} {id : Nat} {x : Int32} (h : ∀ k, k ≠ id → rl k = rel k) : upd rl id x = upd rel id x := by
  funext k
  by_cases e : k = id
  · subst e; rw [sj_us, sj_us]
  · rw [sj_un e, sj_un e, h k e]
theorem sj_bndD {p : Nat} {rel len kin due wt : Nat → Int32} (B : sj_bnd p rel len kin due wt) {id n : Nat} (hn : n ≤ 18) : sj_bnd p (upd rel id (nI n)) len kin due wt :=
  ⟨B.1, sj_leU B.2.1 hn, B.2.2.1, B.2.2.2.1, B.2.2.2.2.1, B.2.2.2.2.2.1, B.2.2.2.2.2.2⟩
section
variable {c b : Int32} {p : Nat} {rel len kin due wt af : Nat → Int32}
theorem sx_dl24 {post : Int32 → SX → Prop} {rk : Nat → Nat} {id r0 : Nat} (hid : id < 5) (B : sj_bnd p rel len kin due wt) (haf : sj_le af 31) (hrk : sj_ord (sj_A p af) rk) (hr : rel id = nI r0) (hr9 : r0 ≤ 9)
    (k : ∀ x3, sj_dI (sj_Gd p rel len kin due wt af b.toInt id r0) 10 x3 → ∀ st' dl' lf', post x3 (c, b, nI p, rel, len, kin, due, wt, af, st', dl', lf')) :
    ∀ m d x3 rl st dl lf, d + m = 10 → 1 ≤ d → (∀ k, k ≠ id → rl k = rel k) → sj_dI (sj_Gd p rel len kin due wt af b.toInt id r0) d x3 → wX_delay_24 post (nI id) (nI r0) (m + 1) x3 (nI d) c b (nI p) rl len kin due wt af st dl lf := by
  intro m
  induction m with
  | zero =>
    intro d x3 rl st dl lf hd _ hrl h
    have hd : d = 10 := hd
    subst hd
    have ci : (nI id).toNatClampNeg = id := nI_clamp (by omega)
    have e : upd rl (nI id).toNatClampNeg (nI r0) = rel := by rw [ci, sj_udl hrl, sj_uid1 hr]
    exact br_t (by decide) ⟨vp_in_nI hid (by omega), nm_r e (k x3 h st dl lf)⟩
  | succ m ih =>
    intro d x3 rl st dl lf hd h1 hrl h
    have ci : (nI id).toNatClampNeg = id := nI_clamp (by omega)
    have e : upd rl (nI id).toNatClampNeg (nI r0 + nI d) = upd rel id (nI (r0 + d)) := by rw [ci, nI_add, sj_udl hrl]
    have ho : ∀ k, k ≠ id → upd rel id (nI (r0 + d)) k = rel k := fun k hk => sj_un hk
    refine br_f (nI_nlt (a := 9) (by omega) (by omega)) ⟨vp_in_nI hid (by omega), nm_r e (sx_plan (sj_bndD B (by omega)) haf hrk (fun g s dd l => ?_) (fun g s dd l => ?_))⟩
    · exact br_f (by decide) (nm_r (nI_1 d) (ih (d + 1) (nI d) _ s dd l (by omega) (by omega) ho (sj_dI1 (x := 0) h1 g)))
    · exact br_t rfl (nm_r (nI_1 d) (ih (d + 1) x3 _ s dd l (by omega) (by omega) ho (sj_dI0 h g)))
end
section
variable {mo lim mb : Int32} {p : Nat} {hd rel len kin due wt af pr : Nat → Int32}
theorem sy_dl24 {post : Int32 → SY → Prop} {id r0 : Nat} (hid : id < 5) (B : sj_bnd p rel len kin due wt) (hh : sj_hd p hd) (hlk : sj_lk p af pr) (hlim : -200 ≤ lim.toInt ∧ lim.toInt ≤ 1000) (hr : rel id = nI r0) (hr9 : r0 ≤ 9)
    (k : ∀ x3, sj_dI (sj_Gd p rel len kin due wt af lim.toInt id r0) 10 x3 → ∀ fu' fd' be', post x3 (mo, lim, fu', fd', -1, mb, hd, rel, len, kin, due, wt, pr, be')) :
    ∀ m d x3 rl fu fd be, d + m = 10 → 1 ≤ d → (∀ k, k ≠ id → rl k = rel k) → sj_dI (sj_Gd p rel len kin due wt af lim.toInt id r0) d x3 → wY_delay_24 post (nI id) (nI r0) (m + 1) x3 (nI d) mo lim fu fd (-1) mb hd rl len kin due wt pr be := by
  intro m
  induction m with
  | zero =>
    intro d x3 rl fu fd be hd _ hrl h
    have hd : d = 10 := hd
    subst hd
    have ci : (nI id).toNatClampNeg = id := nI_clamp (by omega)
    have e : upd rl (nI id).toNatClampNeg (nI r0) = rel := by rw [ci, sj_udl hrl, sj_uid1 hr]
    exact br_t (by decide) ⟨vp_in_nI hid (by omega), nm_r e (k x3 h fu fd be)⟩
  | succ m ih =>
    intro d x3 rl fu fd be hd h1 hrl h
    have ci : (nI id).toNatClampNeg = id := nI_clamp (by omega)
    have e : upd rl (nI id).toNatClampNeg (nI r0 + nI d) = upd rel id (nI (r0 + d)) := by rw [ci, nI_add, sj_udl hrl]
    have ho : ∀ k, k ≠ id → upd rel id (nI (r0 + d)) k = rel k := fun k hk => sj_un hk
    refine br_f (nI_nlt (a := 9) (by omega) (by omega)) ⟨vp_in_nI hid (by omega), nm_r e (sy_good0 (af := af) (sj_bndD B (by omega)) hh hlk hlim (fun g fu' fd' be' => ?_) (fun g fu' fd' be' => ?_))⟩
    · exact br_f (by decide) (nm_r (nI_1 d) (ih (d + 1) (nI d) _ fu' fd' be' (by omega) (by omega) ho (sj_dI1 (x := 0) h1 g)))
    · exact br_t rfl (nm_r (nI_1 d) (ih (d + 1) x3 _ fu' fd' be' (by omega) (by omega) ho (sj_dI0 h g)))
end
end
section
/-! ===== the relation, and what keeps it ===== -/
theorem sj_VA {mo p e : Nat} {lim : Int32} {rel len kin due wt af pr : Nat → Int32} (V : sj_V mo lim p rel len kin due wt af pr) (he : e < mo) (hn : ¬ p.testBit e = true) {rn pn kn dn : Nat} (h1 : rn ≤ 9) (h2 : 1 ≤ pn ∧ pn ≤ 3) (h3 : kn ≤ 3) (h4 : dn ≤ 30)
    (g : sj_G (sj_ad p e) (upd rel e (nI rn)) (upd len e (nI pn)) (upd kin e (nI kn)) (upd due e (nI dn)) (upd wt e (nI 1)) af sj_M0 lim.toInt 34 (sj_Fu (sj_ad p e) (upd len e (nI pn)))) :
    sj_V mo lim (sj_ad p e) (upd rel e (nI rn)) (upd len e (nI pn)) (upd kin e (nI kn)) (upd due e (nI dn)) (upd wt e (nI 1)) af (upd pr e (nI 0)) := by
  obtain ⟨v1, v2, B, v4, v5, v6, ⟨rk, v7⟩, v8⟩ := V
  have he5 : e < 5 := by omega
  refine ⟨v1, v2, sj_bndA B he5 h1 h2 h3 h4, sj_leU v4 h1, fun j hj q => ?_, sj_lkA B.1 he5 hn v6, ⟨rk, sj_ordA v6 v7⟩, g⟩
  rw [sj_ad2 p B.1 e he5 j hj, Bool.or_eq_true, decide_eq_true_eq] at q
  rcases q with q | q
  · exact v5 j hj q
  · omega
theorem sj_VB {mo p e : Nat} {lim : Int32} {rel len kin due wt af pr : Nat → Int32} (V : sj_V mo lim p rel len kin due wt af pr) (hn : ¬ p.testBit e = true) {rn pn kn dn : Nat} (h1 : rn ≤ 9) (h2 : 1 ≤ pn ∧ pn ≤ 3) (h3 : kn ≤ 3) (h4 : dn ≤ 30) :
    sj_V mo lim p (upd rel e (nI rn)) (upd len e (nI pn)) (upd kin e (nI kn)) (upd due e (nI dn)) (upd wt e (nI 1)) af (upd pr e (nI 0)) := by
  obtain ⟨v1, v2, B, v4, v5, v6, v7, v8⟩ := V
  exact ⟨v1, v2, sj_bndB B hn h1 h2 h3 h4, sj_leU v4 h1, v5, sj_lkB hn v6, v7, sj_Gst hn v8⟩
theorem sj_hdB {p e : Nat} {hd : Nat → Int32} (hn : ¬ p.testBit e = true) (h : sj_hd p hd) : sj_hd p (upd (upd hd e 1) e 0) := by
  intro j hj
  by_cases z : j = e
  · subst z
    rw [sj_us, if_neg hn]
  · rw [sj_un z, sj_un z, h j hj]
theorem sj_Vl {mo p i j : Nat} {lim : Int32} {rel len kin due wt af pr : Nat → Int32} (V : sj_V mo lim p rel len kin due wt af pr) (hi : i < 5) (hj : j < 5) (a1 : p.testBit i = true) (a2 : p.testBit j = true) (cc : ¬ sj_C (sj_A p af) j i)
    (g : sj_G p rel len kin due wt (sj_af1 af i j) sj_M0 lim.toInt 34 (sj_Fu p len)) : sj_V mo lim p rel len kin due wt (sj_af1 af i j) (sj_af1 pr j i) := by
  obtain ⟨v1, v2, B, v4, v5, v6, ⟨rk, v7⟩, v8⟩ := V
  refine ⟨v1, v2, B, v4, v5, sj_lk1 v6 hi hj a1 a2, sj_rknew (A' := sj_A p (sj_af1 af i j)) v7 cc (fun x y hx hy z => ?_), g⟩
  obtain ⟨z1, z2, z3⟩ := sj_At z
  rw [sj_af1b v6.1 hi hj hy] at z3
  simp at z3
  rcases z3 with z3 | z3
  · exact Or.inl (sj_hb v6 x y hx hy z3)
  · exact Or.inr z3
theorem sj_Vu {mo p i j : Nat} {lim : Int32} {rel len kin due wt af pr : Nat → Int32} (V : sj_V mo lim p rel len kin due wt af pr) (hi : i < 5) (hj : j < 5) : sj_V mo lim p rel len kin due wt (sj_af0 af i j) (sj_af0 pr j i) := by
  obtain ⟨v1, v2, B, v4, v5, v6, ⟨rk, v7⟩, v8⟩ := V
  have sub : ∀ x y, x < 5 → y < 5 → sj_A p (sj_af0 af i j) x y = true → sj_A p af x y = true := by
    intro x y hx hy z
    obtain ⟨z1, z2, z3⟩ := sj_At z
    rw [sj_af0b v6.1 hi hj hy] at z3
    simp at z3
    exact sj_hb v6 x y hx hy z3.1
  exact ⟨v1, v2, B, v4, v5, sj_lk0 v6 hi hj, ⟨rk, fun x y hx hy z => v7 x y hx hy (sub x y hx hy z)⟩, sj_Gmono (fun _ _ _ => Nat.le_refl _) sub (fun _ _ _ _ m => m) (fun _ _ _ _ k => k) (fun _ _ _ => rfl) v8⟩
/-- a job gone with its links -/
def sj_gone (af af' : Nat → Int32) (id : Nat) : Prop := sj_le af' 31 ∧ ∀ x y, x < 5 → y < 5 → (sj_N af' x).testBit y = ((sj_N af x).testBit y && !(decide (x = id)) && !(decide (y = id)))
def sj_goneY (pr pr' : Nat → Int32) (id : Nat) : Prop := sj_le pr' 31 ∧ ∀ x y, x < 5 → y < 5 → (sj_N pr' x).testBit y = ((sj_N pr x).testBit y && !(decide (y = id)))
theorem sj_Vr {mo p id : Nat} {lim : Int32} {rel len kin due wt af pr af' pr' : Nat → Int32} (V : sj_V mo lim p rel len kin due wt af pr) (hid : id < 5) (ha : sj_gone af af' id) (hb : sj_goneY pr pr' id) : sj_V mo lim (sj_cl p id) rel len kin due wt af' pr' := by
  obtain ⟨v1, v2, B, v4, v5, v6, ⟨rk, v7⟩, v8⟩ := V
  have bt : ∀ j, j < 5 → (sj_cl p id).testBit j = true → p.testBit j = true ∧ j ≠ id := by
    intro j hj q
    rw [sj_cl2 p B.1 id hid j hj] at q
    simp at q
    exact q
  have sub : ∀ x y, x < 5 → y < 5 → sj_A (sj_cl p id) af' x y = true → sj_A p af x y = true := by
    intro x y hx hy z
    obtain ⟨z1, z2, z3⟩ := sj_At z
    rw [ha.2 x y hx hy] at z3
    simp at z3
    exact sj_hb v6 x y hx hy z3.1.1
  refine ⟨v1, v2, sj_bndc B hid, v4, fun j hj q => v5 j hj (bt j hj q).1, ⟨ha.1, hb.1, fun x y hx hy z => ?_, fun x y hx hy q => ?_⟩, ⟨rk, fun x y hx hy z => v7 x y hx hy (sub x y hx hy z)⟩, sj_Grem B hid sub v8⟩
  · rw [ha.2 x y hx hy] at z
    simp at z
    obtain ⟨p1, p2⟩ := v6.2.2.1 x y hx hy z.1.1
    rw [sj_cl2 p B.1 id hid x hx, sj_cl2 p B.1 id hid y hy, p1, p2]
    simp [z.1.2, z.2]
  · obtain ⟨q1, q2⟩ := bt y hy q
    rw [ha.2 x y hx hy, hb.2 y x hy hx, v6.2.2.2 x y hx hy q1]
    simp [q2]
/-- another rule for a job -/
theorem sj_bndR {p : Nat} {rel len kin due wt : Nat → Int32} (B : sj_bnd p rel len kin due wt) {id kn dn wn : Nat} (h3 : kn ≤ 3) (h4 : dn ≤ 30) (h5 : wn ≤ 5) : sj_bnd p rel len (upd kin id (nI kn)) (upd due id (nI dn)) (upd wt id (nI wn)) :=
  ⟨B.1, B.2.1, B.2.2.1, sj_leU B.2.2.2.1 h3, sj_leU B.2.2.2.2.1 h4, sj_leU B.2.2.2.2.2.1 h5, B.2.2.2.2.2.2⟩
theorem sj_Vs {mo p : Nat} {lim : Int32} {rel len kin due wt af pr : Nat → Int32} (V : sj_V mo lim p rel len kin due wt af pr) {id kn dn wn : Nat} (h3 : kn ≤ 3) (h4 : dn ≤ 30) (h5 : wn ≤ 5)
    (g : sj_G p rel len (upd kin id (nI kn)) (upd due id (nI dn)) (upd wt id (nI wn)) af sj_M0 lim.toInt 34 (sj_Fu p len)) : sj_V mo lim p rel len (upd kin id (nI kn)) (upd due id (nI dn)) (upd wt id (nI wn)) af pr := by
  obtain ⟨v1, v2, B, v4, v5, v6, v7, v8⟩ := V
  exact ⟨v1, v2, sj_bndR B h3 h4 h5, v4, v5, v6, v7, g⟩
/-- both states between calls: the same jobs, rules and links -/
def i_Rel (_ : Nat) (u : SX) (v : SY) : Prop := ∃ (mo p : Nat) (lim fu fd mb : Int32) (rel len kin due wt af st dl lf hd pr be : Nat → Int32),
  u = (nI mo, lim, nI p, rel, len, kin, due, wt, af, st, dl, lf) ∧ v = (nI mo, lim, fu, fd, -1, mb, hd, rel, len, kin, due, wt, pr, be) ∧ sj_hd p hd ∧ sj_V mo lim p rel len kin due wt af pr
theorem i_mk {k mo p : Nat} {lim fu fd mb : Int32} {rel len kin due wt af st dl lf hd pr be : Nat → Int32} (h : sj_hd p hd) (V : sj_V mo lim p rel len kin due wt af pr) :
    i_Rel k (nI mo, lim, nI p, rel, len, kin, due, wt, af, st, dl, lf) (nI mo, lim, fu, fd, -1, mb, hd, rel, len, kin, due, wt, pr, be) :=
  ⟨mo, p, lim, fu, fd, mb, rel, len, kin, due, wt, af, st, dl, lf, hd, pr, be, rfl, rfl, h, V⟩
theorem i_up {k : Nat} {u : SX} {v : SY} (h : i_Rel k u v) : i_Rel (k + 5) u v := h
/-! ===== a new object ===== -/
def sj_cp (x lo hi : Int32) : Int32 := if lo ≤ x then (if x ≤ hi then x else hi) else lo
theorem sx_clamp {post : Int32 → Prop} {x lo hi : Int32} (k : post (sj_cp x lo hi)) : wpX_clamp post x lo hi := by
  unfold sj_cp at k
  by_cases h1 : lo ≤ x
  · rw [if_pos h1] at k
    by_cases h2 : x ≤ hi
    · rw [if_pos h2] at k
      exact br_t h1 (br_t h2 k)
    · rw [if_neg h2] at k
      exact br_t h1 (br_f h2 k)
  · rw [if_neg h1] at k
    exact br_f h1 k
theorem sy_init {post : SY → Prop} {x y : Int32} (k : post (sj_cp x 1 5, sj_cp y (-200) 1000, 0, 0, -1, 0, fun _ => 0, fun _ => 0, fun _ => 0, fun _ => 0, fun _ => 0, fun _ => 0, fun _ => 0, fun _ => 0)) : wpY_init post x y := by
  have g : ∀ z0 : Int32, z0 = sj_cp x 1 5 → wY_init_87 post y z0 0 0 0 0 (-1) 0 (fun _ => 0) (fun _ => 0) (fun _ => 0) (fun _ => 0) (fun _ => 0) (fun _ => 0) (fun _ => 0) (fun _ => 0) := by
    intro z0 e
    rw [e]
    unfold wY_init_87
    unfold sj_cp at k ⊢
    by_cases h1 : -200 ≤ y
    · rw [if_pos h1] at k
      by_cases h2 : y ≤ 1000
      · rw [if_pos h2] at k
        exact br_t h1 (br_t h2 k)
      · rw [if_neg h2] at k
        exact br_t h1 (br_f h2 k)
    · rw [if_neg h1] at k
      exact br_f h1 k
  by_cases h1 : 1 ≤ x
  · by_cases h2 : x ≤ 5
    · exact br_t h1 (br_t h2 (g x (by unfold sj_cp; rw [if_pos h1, if_pos h2])))
    · exact br_t h1 (br_f h2 (g 5 (by unfold sj_cp; rw [if_pos h1, if_neg h2])))
  · exact br_f h1 (g 1 (by unfold sj_cp; rw [if_neg h1]))
theorem sj_cp15 (x : Int32) : ∃ m, 1 ≤ m ∧ m ≤ 5 ∧ sj_cp x 1 5 = nI m := by
  unfold sj_cp
  by_cases h1 : 1 ≤ x
  · by_cases h2 : x ≤ 5
    · rw [if_pos h1, if_pos h2]
      have e1 : (1 : Int32).toInt = 1 := by decide
      have e5 : (5 : Int32).toInt = 5 := by decide
      rw [sj_leI] at h1 h2
      refine ⟨x.toInt.toNat, by omega, by omega, ?_⟩
      rw [sj_inI, nI_toInt (by omega)]
      omega
    · rw [if_pos h1, if_neg h2]
      exact ⟨5, by omega, by omega, rfl⟩
  · rw [if_neg h1]
    exact ⟨1, by omega, by omega, rfl⟩
theorem sj_cpl (x : Int32) : -200 ≤ (sj_cp x (-200) 1000).toInt ∧ (sj_cp x (-200) 1000).toInt ≤ 1000 := by
  have e1 : (-200 : Int32).toInt = -200 := by decide
  have e5 : (1000 : Int32).toInt = 1000 := by decide
  unfold sj_cp
  by_cases h1 : -200 ≤ x
  · by_cases h2 : x ≤ 1000
    · rw [if_pos h1, if_pos h2]
      rw [sj_leI] at h1 h2
      omega
    · rw [if_pos h1, if_neg h2]
      omega
  · rw [if_neg h1]
    omega
theorem sj_V0 {mo : Nat} {lim : Int32} (h1 : 1 ≤ mo ∧ mo ≤ 5) (h2 : -200 ≤ lim.toInt ∧ lim.toInt ≤ 1000) : sj_V mo lim 0 (fun _ => 0) (fun _ => 0) (fun _ => 0) (fun _ => 0) (fun _ => 0) (fun _ => 0) (fun _ => 0) := by
  have nb : ∀ j, ¬ (0 : Nat).testBit j = true := fun j z => by rw [Nat.zero_testBit] at z; exact absurd z (by decide)
  have nz : ∀ i j, ¬ (sj_N (fun _ => 0) i).testBit j = true := fun i j z => nb j z
  refine ⟨h1, h2, ⟨by omega, sj_le0 _, sj_le0 _, sj_le0 _, sj_le0 _, sj_le0 _, fun j _ q => absurd q (nb j)⟩, sj_le0 _, fun j _ q => absurd q (nb j), ⟨sj_le0 _, sj_le0 _, fun i j _ _ q => absurd q (nz i j), fun i j _ _ q => absurd q (nb j)⟩, ⟨fun _ => 0, fun i j _ _ a => absurd (sj_At a).1 (nb i)⟩, ?_⟩
  rw [sj_Fu0 (by omega) rfl]
  exact sj_upto (t := 0) (by omega) rfl
theorem i_vc0 (k0 : Int32) (k1 : Int32) : wpX_init (fun u => wpY_init (fun v => i_Rel 2 u v) k0 k1) k0 k1 := by
  refine sx_clamp (sx_clamp (sy_init ?_))
  obtain ⟨m, m1, m5, e⟩ := sj_cp15 k0
  rw [e]
  exact i_mk (p := 0) (fun j _ => by rw [Nat.zero_testBit]; rfl) (sj_V0 ⟨m1, m5⟩ (sj_cpl k1))
end
section
/-! ===== the calls that ask ===== -/
section
variable {mo lim fu fd mi mb : Int32} {p : Nat} {hd rel len kin due wt pr be : Nat → Int32}
theorem sy_jobs4 {post : Int32 → Prop} (hp : p < 32) (h : sj_hd p hd) (k : post (nI p)) :
    ∀ d i m, i + d = 5 → m < 32 → (∀ a, a < 5 → m.testBit a = (p.testBit a && decide (a < i))) → wY_jobs_4 post mo lim fu fd mi mb hd rel len kin due wt pr be (d + 1) (nI m) (nI i) := by
  intro d
  induction d with
  | zero =>
    intro i m hi hm g
    have hi : i = 5 := hi
    subst hi
    have e : m = p := sj_bx m hm p hp (fun a ha => by rw [g a ha, decide_eq_true ha, Bool.and_true])
    rw [e]
    exact br_t (by decide) k
  | succ d ih =>
    intro i m hi hm g
    have hi5 : i < 5 := by omega
    have ci : (nI i).toNatClampNeg = i := nI_clamp (by omega)
    refine br_f (nI_ge (b := 5) hi5 (by decide)) ⟨vp_in_nI hi5 (by omega), ?_⟩
    rw [ci]
    by_cases q : p.testBit i = true
    · have e := sj_ad1 m hm i hi5
      refine br_f (sj_hd1 h hi5 q) (nm_r e.1 (nm_r (nI_1 i) (ih (i + 1) _ (by omega) e.2 (fun a ha => ?_))))
      rw [sj_ad2 m hm i hi5 a ha, g a ha]
      by_cases z : a = i
      · subst z
        rw [q]
        simp
      · have w : decide (a < i) = decide (a < i + 1) := decide_eq_decide.mpr (by omega)
        rw [w, decide_eq_false z, Bool.or_false]
    · have e : nI m ||| 0 = nI m := by
        have z := sj_or m 0
        rw [Nat.or_zero] at z
        exact z
      refine br_t (sj_hd0 h hi5 q) (nm_r e (nm_r (nI_1 i) (ih (i + 1) m (by omega) hm (fun a ha => ?_))))
      rw [g a ha]
      by_cases z : a = i
      · subst z
        have q' : p.testBit a = false := by
          cases w : p.testBit a
          · rfl
          · exact absurd w q
        rw [q']
        rfl
      · have w : decide (a < i) = decide (a < i + 1) := decide_eq_decide.mpr (by omega)
        rw [w]
theorem sy_jobs {post : Int32 → Prop} (hp : p < 32) (h : sj_hd p hd) (k : post (nI p)) : wpY_jobs post (mo, lim, fu, fd, mi, mb, hd, rel, len, kin, due, wt, pr, be) :=
  ⟨6, sy_jobs4 hp h k 5 0 0 (by omega) (by omega) (fun a _ => by rw [Nat.zero_testBit, decide_eq_false (by omega), Bool.and_false])⟩
end
theorem i_vc_jobs {k : Nat} {u : SX} {v : SY} (I : i_Rel k u v) (hk : k + 5 ≤ 2562) : wpX_jobs (fun r => wpY_jobs (fun r' => r' = r ∧ i_Rel (k + 5) u v) v) u := by
  have J := I
  obtain ⟨mo, p, lim, fu, fd, mb, rel, len, kin, due, wt, af, st, dl, lf, hd, pr, be, rfl, rfl, h, V⟩ := I
  unfold wpX_jobs
  dsimp only
  exact sy_jobs V.2.2.1.1 h ⟨rfl, J⟩
theorem i_vc_linked {k : Nat} {u : SX} {v : SY} (I : i_Rel k u v) (hk : k + 5 ≤ 2562) (v1 : Int32) (v2 : Int32) : wpX_linked (fun r => wpY_linked (fun r' => r' = r ∧ i_Rel (k + 5) u v) v v1 v2) u v1 v2 := by
  have J := I
  obtain ⟨mo, p, lim, fu, fd, mb, rel, len, kin, due, wt, af, st, dl, lf, hd, pr, be, rfl, rfl, h, V⟩ := I
  unfold wpX_linked
  dsimp only
  have hp := V.2.2.1.1
  have hlk := V.2.2.2.2.2.1
  by_cases q : sj_lkd p af v1 v2
  · obtain ⟨i, j, hi, hj, rfl, rfl, a⟩ := q
    exact sx_linkT hp hlk.1 hi hj a ⟨rfl, sy_linkT h hlk hi hj a ⟨rfl, J⟩⟩
  · exact sx_linkF hp hlk.1 q ⟨rfl, sy_linkF h hlk q ⟨rfl, J⟩⟩
theorem i_vc_costAt {k : Nat} {u : SX} {v : SY} (I : i_Rel k u v) (hk : k + 5 ≤ 2562) (v1 : Int32) (v2 : Int32) : wpX_costAt (fun r => wpY_costAt (fun r' => r' = r ∧ i_Rel (k + 5) u v) v v1 v2) u v1 v2 := by
  have J := I
  obtain ⟨mo, p, lim, fu, fd, mb, rel, len, kin, due, wt, af, st, dl, lf, hd, pr, be, rfl, rfl, h, V⟩ := I
  unfold wpX_costAt wpY_costAt
  dsimp only
  have hp := V.2.2.1.1
  by_cases q : sj_has p v1
  · obtain ⟨i, hi, rfl, a⟩ := q
    refine sx_presT hp hi a (br_f (by decide) ?_)
    by_cases w1 : v2 < 0
    · exact br_t w1 (br_t rfl (sy_thereT h hi a (br_f (by decide) (br_t w1 ⟨rfl, J⟩))))
    · by_cases w2 : 60 < v2
      · exact br_f w1 (br_t w2 (br_t rfl (sy_thereT h hi a (br_f (by decide) (br_f w1 (br_t w2 ⟨rfl, J⟩))))))
      · exact br_f w1 (br_f w2 (br_f (by decide) (sx_cost hi (sy_thereT h hi a (br_f (by decide) (br_f w1 (br_f w2 (sy_cost hi ⟨rfl, J⟩))))))))
  · exact sx_presF hp q (br_t rfl (sy_thereF h q (br_t rfl ⟨rfl, J⟩)))
theorem i_vc_worst {k : Nat} {u : SX} {v : SY} (I : i_Rel k u v) (hk : k + 5 ≤ 2562) : wpX_worst (fun r u' => wpY_worst (fun r' v' => r' = r ∧ i_Rel (k + 5) u' v') v) u := by
  obtain ⟨mo, p, lim, fu, fd, mb, rel, len, kin, due, wt, af, st, dl, lf, hd, pr, be, rfl, rfl, h, V⟩ := I
  have V' := V
  obtain ⟨v1, v2, B, v4, v5, hlk, ⟨rk, hrk⟩, g⟩ := V
  unfold wpX_worst wpY_worst
  dsimp only
  refine sx_lw B hlk.1 hrk (sj_Gw v2.2 g) (fun z => ?_) (fun z r r1 r2 g1 g2 s d l => ?_)
  · refine sy_solve0 B h hlk (fun be' fd' hv hf e1 e2 e3 e0 => ?_)
    dsimp only
    rw [e1, e3]
    exact ⟨e2, e0 (sj_Fu0 B.1 z), i_mk h V'⟩
  · refine sy_solve0 B h hlk (fun be' fd' hv hf e1 e2 e3 e0 => ?_)
    dsimp only
    rw [e1, e3]
    exact ⟨e2, sj_wv hv r1 r2 g1 g2, i_mk h V'⟩
theorem i_vc_worstWithout {k : Nat} {u : SX} {v : SY} (I : i_Rel k u v) (hk : k + 5 ≤ 2562) (v1 : Int32) : wpX_worstWithout (fun r u' => wpY_worstWithout (fun r' v' => r' = r ∧ i_Rel (k + 5) u' v') v v1) u v1 := by
  obtain ⟨mo, p, lim, fu, fd, mb, rel, len, kin, due, wt, af, st, dl, lf, hd, pr, be, rfl, rfl, h, V⟩ := I
  have V' := V
  obtain ⟨w1, w2, B, w4, w5, hlk, ⟨rk, hrk⟩, g⟩ := V
  unfold wpX_worstWithout wpY_worstWithout
  dsimp only
  by_cases q : sj_has p v1
  · obtain ⟨id, hid, rfl, a⟩ := q
    have hp := B.1
    have ec := sj_cl1 p hp id hid
    have ea := (sj_ad1 (sj_cl p id) ec.2 id hid).1
    rw [sj_adcl p hp id hid a] at ea
    have vi : vp_in (nI id) 5 := vp_in_nI hid (by omega)
    have ci : (nI id).toNatClampNeg = id := nI_clamp (by omega)
    have bt : ∀ j, j < 5 → (sj_cl p id).testBit j = true → p.testBit j = true ∧ j ≠ id := by
      intro j hj z
      rw [sj_cl2 p hp id hid j hj] at z
      simp at z
      exact z
    have sub : ∀ x y, x < 5 → y < 5 → sj_A (sj_cl p id) af x y = true → sj_A p af x y = true := fun x y hx hy z => sj_hb hlk x y hx hy (sj_At z).2.2
    have B' := sj_bndc B hid
    have g' := sj_Grem (af' := af) B hid sub g
    have hd' := sj_hdC hp hid h
    have hrl' : sj_rl (sj_cl p id) pr (sj_A (sj_cl p id) af) := by
      intro i j hi hj z
      have e := hlk.2.2.2 i j hi hj (bt j hj z).1
      unfold sj_A
      rw [e, z]
      simp
    have hback : upd (upd hd id 0) id 1 = hd := by
      refine sj_uid ?_
      rw [h id hid, if_pos a]
    have fin : ∀ (st' dl' lf' : Nat → Int32) (fu' fd' : Int32) (be' : Nat → Int32), i_Rel (k + 5) (nI mo, lim, nI p, rel, len, kin, due, wt, af, st', dl', lf') (nI mo, lim, fu', fd', -1, mb, hd, rel, len, kin, due, wt, pr, be') := fun _ _ _ _ _ _ => i_mk h V'
    -- the reference's run, whatever number the component found
    have run : ∀ (r : Int32) (st' dl' lf' : Nat → Int32), (∀ x : Int32, (sj_Fu (sj_cl p id) len = 0 → x = -2000) → (∀ b : Int, -2000 ≤ b → b ≤ 9998 → (x.toInt ≤ b ↔ sj_G (sj_cl p id) rel len kin due wt af sj_M0 b 34 (sj_Fu (sj_cl p id) len))) → x = r) →
        wpY_there (fun r_1 => (r_1 = 0 → (-2000 = r ∧ i_Rel (k + 5) (nI mo, lim, nI p, rel, len, kin, due, wt, af, st', dl', lf') (nI mo, lim, fu, fd, -1, mb, hd, rel, len, kin, due, wt, pr, be))) ∧ (¬ r_1 = 0 → (vp_in (nI id) 5 ∧ ∀ a_held_18, a_held_18 = upd hd (nI id).toNatClampNeg (vp_nar .boolean 0) → (wpY_solve (fun u => match u with | (f1, f2, f3, f4, f5, f6, h1, h2, h3, h4, h5, h6, h7, h8) => (vp_in (nI id) 5 ∧ ∀ a_held_35, a_held_35 = upd h1 (nI id).toNatClampNeg (vp_nar .boolean 1) → (vp_in (f3 &&& 1023) 1024 ∧ (h8 (f3 &&& 1023).toNatClampNeg = r ∧ i_Rel (k + 5) (nI mo, lim, nI p, rel, len, kin, due, wt, af, st', dl', lf') (f1, f2, f3, f4, f5, f6, a_held_35, h2, h3, h4, h5, h6, h7, h8))))) (nI mo, lim, fu, fd, -1, mb, a_held_18, rel, len, kin, due, wt, pr, be))))) (nI mo, lim, fu, fd, -1, mb, hd, rel, len, kin, due, wt, pr, be) (nI id) := by
      intro r st' dl' lf' hx
      refine sy_thereT h hid a (br_f (by decide) ⟨vi, ?_⟩)
      rw [ci]
      have hfl : sj_Fu (sj_cl p id) len < 1024 := sj_fcl (sj_hL B')
      have ef : nI (sj_Fu (sj_cl p id) len) &&& 1023 = nI (sj_Fu (sj_cl p id) len) := by rw [pk_andN (by omega) 10 (by decide), Nat.mod_eq_of_lt hfl]
      have cf : (nI (sj_Fu (sj_cl p id) len)).toNatClampNeg = sj_Fu (sj_cl p id) len := nI_clamp (by omega)
      refine nm_r (e' := upd hd id 0) rfl (sy_solve B' hd' hlk.2.1 hrl' (fun be' fd' hT hf => ?_))
      dsimp only
      rw [ef, cf]
      refine ⟨vi, nm_r (e' := hd) hback ⟨vp_in_nI hfl (by omega), hx _ (fun z => ?_) (fun b b1 b2 => ?_), fin st' dl' lf' _ _ _⟩⟩
      · have w := hT (sj_Fu (sj_cl p id) len) hfl
        have e1 : (-2000 : Int32).toInt = -2000 := by decide
        have rc0 : sj_rc (sj_cl p id).testBit (sj_N len) (sj_N rel) (sj_A (sj_cl p id) af) (sj_My (-1) mb) (sj_KK kin due wt (-2000)) 34 (sj_Fu (sj_cl p id) len) := sj_upto (t := 0) (by omega) z
        have := (w.2 (-2000) (by omega) (by omega)).mpr rc0
        rw [sj_inI, e1]
        omega
      · have w := (hT (sj_Fu (sj_cl p id) len) hfl).2 b b1 b2
        exact w.trans sj_G0
    refine sx_presT hp hid a (br_f (by decide) (nm_r ec.1 (sx_lw B' hlk.1 (rk := rk) (fun i j hi hj z => hrk i j hi hj (sub i j hi hj z)) (sj_Gw w2.2 g') (fun z => ?_) (fun z r r1 r2 g1 g2 s d l => ?_))))
    · exact nm_r ea (run (-2000) st dl lf (fun x e0 _ => e0 (sj_Fu0 ec.2 z)))
    · exact nm_r ea (run r s d l (fun x _ hv => sj_wv hv r1 r2 g1 g2))
  · exact sx_presF B.1 q (br_t rfl (sy_thereF h q (br_t rfl ⟨rfl, i_mk h V'⟩)))
theorem i_vc_span {k : Nat} {u : SX} {v : SY} (I : i_Rel k u v) (hk : k + 5 ≤ 2562) : wpX_span (fun r u' => wpY_span (fun r' v' => r' = r ∧ i_Rel (k + 5) u' v') v) u := by
  obtain ⟨mo, p, lim, fu, fd, mb, rel, len, kin, due, wt, af, st, dl, lf, hd, pr, be, rfl, rfl, h, V⟩ := I
  have V' := V
  obtain ⟨v1, v2, B, v4, v5, hlk, ⟨rk, hrk⟩, g⟩ := V
  have g9 : sj_G p rel len kin due wt af sj_M0 9998 34 (sj_Fu p len) := sj_Gw (by omega) g
  refine sx_span B hlk.1 hrk (fun a ga na st' => ?_) g9
  unfold wpY_span
  dsimp only
  refine sy_solve0 B h hlk (fun be' fd' hv hf e1 e2 e3 e0 => ⟨?_, i_mk h V'⟩)
  rcases hf with ⟨-, n⟩ | ⟨d, hd1, e, z, n⟩
  · exact absurd g9 (n 34 (Nat.le_refl _))
  · rcases Nat.lt_trichotomy d a with q | q | q
    · exact absurd z (na d q)
    · rw [e, q]
    · exact absurd ga (n a q)
theorem i_vc_earliestFinish {k : Nat} {u : SX} {v : SY} (I : i_Rel k u v) (hk : k + 5 ≤ 2562) (v1 : Int32) : wpX_earliestFinish (fun r u' => wpY_earliestFinish (fun r' v' => r' = r ∧ i_Rel (k + 5) u' v') v v1) u v1 := by
  obtain ⟨mo, p, lim, fu, fd, mb, rel, len, kin, due, wt, af, st, dl, lf, hd, pr, be, rfl, rfl, h, V⟩ := I
  have V' := V
  obtain ⟨w1, w2, B, w4, w5, hlk, ⟨rk, hrk⟩, g⟩ := V
  unfold wpX_earliestFinish wpY_earliestFinish
  dsimp only
  by_cases q : sj_has p v1
  · obtain ⟨id, hid, rfl, a⟩ := q
    refine sx_presT B.1 hid a (br_f (by decide) ⟨33, sx_ef14 hid B hlk.1 hrk (sj_Gf33 B g) (fun f f1 f2 gf n s d l => ?_) 32 1 st dl lf (by omega) (by omega) (fun f' a1 a2 => absurd a2 (by omega))⟩)
    refine sy_thereT h hid a (br_f (by decide) ⟨35, sy_ef19 hid B h hlk w2 (fun x2 hx fu' fd' mb' be' => ⟨?_, i_mk h V'⟩) 34 (-2000) fu fd (-1) mb be (by omega) (Or.inl ⟨rfl, fun g a1 a2 => absurd a1 (by omega)⟩)⟩)
    rcases hx with ⟨-, n'⟩ | ⟨g', a1, a2, e, z, n'⟩
    · exact absurd gf (n' f (by omega) (by omega))
    · rcases Nat.lt_trichotomy g' f with w | w | w
      · exact absurd z (n g' (by omega) w)
      · rw [e, w]
      · exact absurd gf (n' f (by omega) w)
  · exact sx_presF B.1 q (br_t rfl (sy_thereF h q (br_t rfl ⟨rfl, i_mk h V'⟩)))
theorem i_vc_delay {k : Nat} {u : SX} {v : SY} (I : i_Rel k u v) (hk : k + 5 ≤ 2562) (v1 : Int32) : wpX_delay (fun r u' => wpY_delay (fun r' v' => r' = r ∧ i_Rel (k + 5) u' v') v v1) u v1 := by
  obtain ⟨mo, p, lim, fu, fd, mb, rel, len, kin, due, wt, af, st, dl, lf, hd, pr, be, rfl, rfl, h, V⟩ := I
  have V' := V
  obtain ⟨w1, w2, B, w4, w5, hlk, ⟨rk, hrk⟩, g⟩ := V
  unfold wpX_delay wpY_delay
  dsimp only
  by_cases q : sj_has p v1
  · obtain ⟨id, hid, rfl, a⟩ := q
    obtain ⟨er, lr⟩ := sj_Ne w4 (by omega) hid
    have vi : vp_in (nI id) 5 := vp_in_nI hid (by omega)
    have ci : (nI id).toNatClampNeg = id := nI_clamp (by omega)
    have e2 : rel (nI id).toNatClampNeg = nI (sj_N rel id) := by rw [ci]; exact er
    refine sx_presT B.1 hid a (br_f (by decide) ⟨vi, nm_r e2 ⟨10, sx_dl24 hid B hlk.1 hrk er lr (fun x hx s d l => ?_) 9 1 0 rel st dl lf (by omega) (by omega) (fun _ _ => rfl) (Or.inl ⟨rfl, fun g a1 a2 => absurd a2 (by omega)⟩)⟩⟩)
    refine sy_thereT h hid a (br_f (by decide) ⟨vi, nm_r e2 ⟨10, sy_dl24 hid B h hlk w2 er lr (fun x' hx' fu' fd' be' => ⟨sj_dIu hx hx', i_mk h V'⟩) 9 1 0 rel fu fd be (by omega) (by omega) (fun _ _ => rfl) (Or.inl ⟨rfl, fun g a1 a2 => absurd a2 (by omega)⟩)⟩⟩)
  · exact sx_presF B.1 q (br_t rfl (sy_thereF h q (br_t rfl ⟨rfl, i_mk h V'⟩)))
end
section
/-! ===== the calls that change ===== -/
theorem i_vc_unlink {k : Nat} {u : SX} {v : SY} (I : i_Rel k u v) (hk : k + 5 ≤ 2562) (v1 : Int32) (v2 : Int32) : wpX_unlink (fun r u' => wpY_unlink (fun r' v' => r' = r ∧ i_Rel (k + 5) u' v') v v1 v2) u v1 v2 := by
  obtain ⟨mo, p, lim, fu, fd, mb, rel, len, kin, due, wt, af, st, dl, lf, hd, pr, be, rfl, rfl, h, V⟩ := I
  have hp := V.2.2.1.1
  have hlk := V.2.2.2.2.2.1
  unfold wpX_unlink wpY_unlink
  dsimp only
  by_cases q : sj_lkd p af v1 v2
  · obtain ⟨i, j, hi, hj, rfl, rfl, a⟩ := q
    have vi : vp_in (nI i) 5 := vp_in_nI hi (by omega)
    have vj : vp_in (nI j) 5 := vp_in_nI hj (by omega)
    exact sx_linkT hp hlk.1 hi hj a (br_f (by decide) ⟨vi, vi, nm_r (sj_af0e hlk.1 hi hj) (sy_linkT h hlk hi hj a (br_f (by decide) ⟨vj, vj, nm_r (sj_af0e hlk.2.1 hj hi) ⟨rfl, i_mk h (sj_Vu V hi hj)⟩⟩))⟩)
  · exact sx_linkF hp hlk.1 q (br_t rfl (sy_linkF h hlk q (br_t rfl ⟨rfl, i_mk h V⟩)))
section
variable {c b f : Int32} {rel len kin due wt af st dl lf : Nat → Int32}
theorem sx_rm33 {post : Int32 → SX → Prop} {id : Nat} (hid : id < 5) (k : ∀ a', sj_gone af a' id → post 1 (c, b, f, rel, len, kin, due, wt, a', st, dl, lf)) :
    ∀ d i a, i + d = 5 → sj_le a 31 → (∀ x y, x < 5 → y < 5 → (sj_N a x).testBit y = ((sj_N af x).testBit y && !(decide (x = id)) && !(decide (x < i) && decide (y = id)))) → wX_remove_33 post (nI id) c b f (d + 1) (nI i) rel len kin due wt a st dl lf := by
  intro d
  induction d with
  | zero =>
    intro i a hi ha g
    have hi : i = 5 := hi
    subst hi
    refine br_t (by decide) (k a ⟨ha, fun x y hx hy => ?_⟩)
    rw [g x y hx hy, decide_eq_true hx, Bool.true_and]
  | succ d ih =>
    intro i a hi ha g
    have hi5 : i < 5 := by omega
    have vi : vp_in (nI i) 5 := vp_in_nI hi5 (by omega)
    refine br_f (nI_ge (b := 5) hi5 (by decide)) ⟨vi, vi, nm_r (sj_af0e ha hi5 hid) (nm_r (nI_1 i) (ih (i + 1) _ (by omega) (sj_af0l ha hi5 hid) (fun x y hx hy => ?_)))⟩
    rw [sj_af0b ha hi5 hid hy, g x y hx hy]
    by_cases e : x = i
    · subst e
      rw [decide_eq_true rfl, decide_eq_false (show ¬ x < x by omega), decide_eq_true (show x < x + 1 by omega)]
      simp
    · have w : decide (x < i) = decide (x < i + 1) := decide_eq_decide.mpr (by omega)
      rw [decide_eq_false e, w]
      simp
end
section
variable {mo lim fu fd mi mb : Int32} {hd rel len kin due wt pr be : Nat → Int32}
theorem sy_rm19 {post : Int32 → SY → Prop} {id : Nat} (hid : id < 5) (k : ∀ a', sj_goneY pr a' id → post 1 (mo, lim, fu, fd, mi, mb, hd, rel, len, kin, due, wt, a', be)) :
    ∀ d i a, i + d = 5 → sj_le a 31 → (∀ x y, x < 5 → y < 5 → (sj_N a x).testBit y = ((sj_N pr x).testBit y && !(decide (x < i) && decide (y = id)))) → wY_remove_19 post (nI id) mo lim fu fd mi mb (d + 1) (nI i) hd rel len kin due wt a be := by
  intro d
  induction d with
  | zero =>
    intro i a hi ha g
    have hi : i = 5 := hi
    subst hi
    refine br_t (by decide) (k a ⟨ha, fun x y hx hy => ?_⟩)
    rw [g x y hx hy, decide_eq_true hx, Bool.true_and]
  | succ d ih =>
    intro i a hi ha g
    have hi5 : i < 5 := by omega
    have vi : vp_in (nI i) 5 := vp_in_nI hi5 (by omega)
    refine br_f (nI_ge (b := 5) hi5 (by decide)) ⟨vi, vi, nm_r (sj_af0e ha hi5 hid) (nm_r (nI_1 i) (ih (i + 1) _ (by omega) (sj_af0l ha hi5 hid) (fun x y hx hy => ?_)))⟩
    rw [sj_af0b ha hi5 hid hy, g x y hx hy]
    by_cases e : x = i
    · subst e
      rw [decide_eq_true rfl, decide_eq_false (show ¬ x < x by omega), decide_eq_true (show x < x + 1 by omega)]
      simp
    · have w : decide (x < i) = decide (x < i + 1) := decide_eq_decide.mpr (by omega)
      rw [decide_eq_false e, w]
      simp
end
theorem i_vc_remove {k : Nat} {u : SX} {v : SY} (I : i_Rel k u v) (hk : k + 5 ≤ 2562) (v1 : Int32) : wpX_remove (fun r u' => wpY_remove (fun r' v' => r' = r ∧ i_Rel (k + 5) u' v') v v1) u v1 := by
  obtain ⟨mo, p, lim, fu, fd, mb, rel, len, kin, due, wt, af, st, dl, lf, hd, pr, be, rfl, rfl, h, V⟩ := I
  have hp := V.2.2.1.1
  have hlk := V.2.2.2.2.2.1
  unfold wpX_remove wpY_remove
  dsimp only
  by_cases q : sj_has p v1
  · obtain ⟨id, hid, rfl, a⟩ := q
    have vi : vp_in (nI id) 5 := vp_in_nI hid (by omega)
    have ci : (nI id).toNatClampNeg = id := nI_clamp (by omega)
    have e0 : upd af (nI id).toNatClampNeg 0 = upd af id (nI 0) := by rw [ci, nI_0]
    have e1 : upd hd (nI id).toNatClampNeg (vp_nar .boolean 0) = upd hd id 0 := by rw [ci]; rfl
    refine sx_presT hp hid a (br_f (by decide) (nm_r (sj_cl1 p hp id hid).1 ⟨vi, nm_r e0 ⟨6, sx_rm33 (af := af) hid (fun a' ga => ?_) 5 0 _ (by omega) (sj_leU hlk.1 (by omega)) (fun x y hx hy => ?_)⟩⟩))
    · refine sy_thereT h hid a (br_f (by decide) ⟨vi, nm_r e1 ⟨6, sy_rm19 (pr := pr) hid (fun b' gb => ⟨rfl, i_mk (sj_hdC hp hid h) (sj_Vr V hid ga gb)⟩) 5 0 pr (by omega) hlk.2.1 (fun x y hx hy => ?_)⟩⟩)
      rw [decide_eq_false (show ¬ x < 0 by omega)]
      simp
    · by_cases z : x = id
      · subst z
        rw [sj_Ns (by omega), Nat.zero_testBit]
        simp
      · rw [sj_Nu z, decide_eq_false z, decide_eq_false (show ¬ x < 0 by omega)]
        simp
  · exact sx_presF hp q (br_t rfl (sy_thereF h q (br_t rfl ⟨rfl, i_mk h V⟩)))
/-- a number between two -/
theorem sj_rng {x : Int32} (lo hi : Nat) (hl : lo < 2 ^ 31) (hh : hi < 2 ^ 31) (h1 : ¬ x < nI lo) (h2 : ¬ nI hi < x) : ∃ n, lo ≤ n ∧ n ≤ hi ∧ x = nI n := by
  rw [sj_ltI, nI_toInt hl] at h1
  rw [sj_ltI, nI_toInt hh] at h2
  refine ⟨x.toInt.toNat, by omega, by omega, ?_⟩
  rw [sj_inI, nI_toInt (by omega)]
  omega
theorem i_vc_add {k : Nat} {u : SX} {v : SY} (I : i_Rel k u v) (hk : k + 5 ≤ 2562) (v1 : Int32) (v2 : Int32) : wpX_add (fun r u' => wpY_add (fun r' v' => r' = r ∧ i_Rel (k + 5) u' v') v v1 v2) u v1 v2 := by
  obtain ⟨mo, p, lim, fu, fd, mb, rel, len, kin, due, wt, af, st, dl, lf, hd, pr, be, rfl, rfl, h, V⟩ := I
  have V' := V
  obtain ⟨w1, w2, B, w4, w5, hlk, ⟨rk, hrk⟩, g⟩ := V
  unfold wpX_add wpY_add
  dsimp only
  by_cases a1 : v1 < 0
  · exact br_t a1 (br_t rfl (br_t a1 ⟨rfl, i_mk h V'⟩))
  by_cases a2 : 9 < v1
  · exact br_f a1 (br_t a2 (br_t rfl (br_f a1 (br_t a2 ⟨rfl, i_mk h V'⟩))))
  refine br_f a1 (br_f a2 (br_f (by decide) ?_))
  by_cases b1 : v2 < 1
  · exact br_t b1 (br_t rfl (br_f a1 (br_f a2 (br_t b1 ⟨rfl, i_mk h V'⟩))))
  by_cases b2 : 3 < v2
  · exact br_f b1 (br_t b2 (br_t rfl (br_f a1 (br_f a2 (br_f b1 (br_f (Int32.not_le.mpr b2) ⟨rfl, i_mk h V'⟩))))))
  refine br_f b1 (br_f b2 (br_f (by decide) ?_))
  obtain ⟨rn, -, r9, rfl⟩ := sj_rng 0 9 (by omega) (by omega) a1 a2
  obtain ⟨pn, p1, p3, rfl⟩ := sj_rng 1 3 (by omega) (by omega) b1 b2
  have pre : ∀ {A1 A2 A3 A4 T : Prop}, T → (nI rn < 0 → A1) ∧ (¬ nI rn < 0 → ((9 < nI rn → A2) ∧ (¬ 9 < nI rn → ((nI pn < 1 → A3) ∧ (¬ nI pn < 1 → ((nI pn ≤ 3 → T) ∧ (¬ nI pn ≤ 3 → A4))))))) := fun t => br_f a1 (br_f a2 (br_f b1 (br_t (Int32.not_lt.mp b2) t)))
  refine sx_admit (kn := 0) (dn := 0) B hlk hrk w1.2 r9 ⟨p1, p3⟩ (by omega) (by omega) (fun full => pre ?_) (fun e he hn hlow gg s d l => pre ?_) (fun e he hn hlow gg s d l => pre ?_)
  · exact sy_take (kn := 0) (dn := 0) B h hlk w2 w1.1 w1.2 w5 r9 ⟨p1, p3⟩ (by omega) (by omega) (fun _ => ⟨rfl, i_mk h V'⟩) (fun e he hn _ _ _ _ _ => absurd (full e he) hn) (fun e he hn _ _ _ _ _ => absurd (full e he) hn)
  · refine sy_take (kn := 0) (dn := 0) B h hlk w2 w1.1 w1.2 w5 r9 ⟨p1, p3⟩ (by omega) (by omega) (fun full => absurd (full e he) hn) (fun e' he' hn' hlow' gg' fu' fd' be' => ?_) (fun e' he' hn' hlow' gg' fu' fd' be' => ?_)
    · obtain rfl := sj_lfu hn hlow hn' hlow'
      exact ⟨rfl, i_mk (sj_hdA B.1 (by omega) h) (sj_VA V' he hn r9 ⟨p1, p3⟩ (by omega) (by omega) gg)⟩
    · obtain rfl := sj_lfu hn hlow hn' hlow'
      exact absurd gg gg'
  · refine sy_take (kn := 0) (dn := 0) B h hlk w2 w1.1 w1.2 w5 r9 ⟨p1, p3⟩ (by omega) (by omega) (fun full => absurd (full e he) hn) (fun e' he' hn' hlow' gg' fu' fd' be' => ?_) (fun e' he' hn' hlow' gg' fu' fd' be' => ?_)
    · obtain rfl := sj_lfu hn hlow hn' hlow'
      exact absurd gg' gg
    · obtain rfl := sj_lfu hn hlow hn' hlow'
      exact ⟨rfl, i_mk (sj_hdB hn h) (sj_VB V' hn r9 ⟨p1, p3⟩ (by omega) (by omega))⟩
/-- a rule within its bounds -/
def sj_ru (a b c : Int32) : Prop := ¬ a < 0 ∧ ¬ 3 < a ∧ ¬ b < 0 ∧ ¬ 30 < b ∧ ¬ c < 1 ∧ ¬ 5 < c
theorem sx_isRule {post : Int32 → Prop} {a b c : Int32} (k1 : sj_ru a b c → post 1) (k0 : ¬ sj_ru a b c → post 0) : wpX_isRule post a b c := by
  by_cases h1 : a < 0
  · exact br_t h1 (br_t rfl (k0 (fun z => z.1 h1)))
  by_cases h2 : 3 < a
  · exact br_f h1 (br_t h2 (br_t rfl (k0 (fun z => z.2.1 h2))))
  refine br_f h1 (br_f h2 (br_f (by decide) ?_))
  by_cases h3 : b < 0
  · exact br_t h3 (br_t rfl (k0 (fun z => z.2.2.1 h3)))
  by_cases h4 : 30 < b
  · exact br_f h3 (br_t h4 (br_t rfl (k0 (fun z => z.2.2.2.1 h4))))
  refine br_f h3 (br_f h4 (br_f (by decide) ?_))
  by_cases h5 : c < 1
  · exact br_t h5 (br_t rfl (k0 (fun z => z.2.2.2.2.1 h5)))
  by_cases h6 : 5 < c
  · exact br_f h5 (br_t h6 (br_t rfl (k0 (fun z => z.2.2.2.2.2 h6))))
  exact br_f h5 (br_f h6 (br_f (by decide) (k1 ⟨h1, h2, h3, h4, h5, h6⟩)))
theorem i_vc_addRuled {k : Nat} {u : SX} {v : SY} (I : i_Rel k u v) (hk : k + 5 ≤ 2562) (v1 : Int32) (v2 : Int32) (v3 : Int32) : wpX_addRuled (fun r u' => wpY_addRuled (fun r' v' => r' = r ∧ i_Rel (k + 5) u' v') v v1 v2 v3) u v1 v2 v3 := by
  obtain ⟨mo, p, lim, fu, fd, mb, rel, len, kin, due, wt, af, st, dl, lf, hd, pr, be, rfl, rfl, h, V⟩ := I
  have V' := V
  obtain ⟨w1, w2, B, w4, w5, hlk, ⟨rk, hrk⟩, g⟩ := V
  unfold wpX_addRuled wpY_addRuled
  dsimp only
  by_cases b1 : v1 < 1
  · exact br_t b1 (br_t rfl (br_t b1 ⟨rfl, i_mk h V'⟩))
  by_cases b2 : 3 < v1
  · exact br_f b1 (br_t b2 (br_t rfl (br_f b1 (br_t b2 ⟨rfl, i_mk h V'⟩))))
  refine br_f b1 (br_f b2 (br_f (by decide) (sx_isRule (fun ru => br_f (by decide) ?_) (fun ru => br_t rfl ?_))))
  · obtain ⟨c1, c2, c3, c4, -, -⟩ := ru
    obtain ⟨pn, p1, p3, rfl⟩ := sj_rng 1 3 (by omega) (by omega) b1 b2
    obtain ⟨kn, -, k3, rfl⟩ := sj_rng 0 3 (by omega) (by omega) c1 c2
    obtain ⟨dn, -, d3, rfl⟩ := sj_rng 0 30 (by omega) (by omega) c3 c4
    have pre : ∀ {A1 A2 A3 A4 A5 A6 T : Prop}, T → (nI pn < 1 → A1) ∧ (¬ nI pn < 1 → ((3 < nI pn → A2) ∧ (¬ 3 < nI pn → ((nI kn < 0 → A3) ∧ (¬ nI kn < 0 → ((3 < nI kn → A4) ∧ (¬ 3 < nI kn → ((nI dn < 0 → A5) ∧ (¬ nI dn < 0 → ((nI dn ≤ 30 → T) ∧ (¬ nI dn ≤ 30 → A6))))))))))) := fun t => br_f b1 (br_f b2 (br_f c1 (br_f c2 (br_f c3 (br_t (Int32.not_lt.mp c4) t)))))
    refine sx_admit (rn := 0) B hlk hrk w1.2 (by omega) ⟨p1, p3⟩ k3 d3 (fun full => pre ?_) (fun e he hn hlow gg s d l => pre ?_) (fun e he hn hlow gg s d l => pre ?_)
    · exact sy_take (rn := 0) B h hlk w2 w1.1 w1.2 w5 (by omega) ⟨p1, p3⟩ k3 d3 (fun _ => ⟨rfl, i_mk h V'⟩) (fun e he hn _ _ _ _ _ => absurd (full e he) hn) (fun e he hn _ _ _ _ _ => absurd (full e he) hn)
    · refine sy_take (rn := 0) B h hlk w2 w1.1 w1.2 w5 (by omega) ⟨p1, p3⟩ k3 d3 (fun full => absurd (full e he) hn) (fun e' he' hn' hlow' gg' fu' fd' be' => ?_) (fun e' he' hn' hlow' gg' fu' fd' be' => ?_)
      · obtain rfl := sj_lfu hn hlow hn' hlow'
        exact ⟨rfl, i_mk (sj_hdA B.1 (by omega) h) (sj_VA V' he hn (by omega) ⟨p1, p3⟩ k3 d3 gg)⟩
      · obtain rfl := sj_lfu hn hlow hn' hlow'
        exact absurd gg gg'
    · refine sy_take (rn := 0) B h hlk w2 w1.1 w1.2 w5 (by omega) ⟨p1, p3⟩ k3 d3 (fun full => absurd (full e he) hn) (fun e' he' hn' hlow' gg' fu' fd' be' => ?_) (fun e' he' hn' hlow' gg' fu' fd' be' => ?_)
      · obtain rfl := sj_lfu hn hlow hn' hlow'
        exact absurd gg' gg
      · obtain rfl := sj_lfu hn hlow hn' hlow'
        exact ⟨rfl, i_mk (sj_hdB hn h) (sj_VB V' hn (by omega) ⟨p1, p3⟩ k3 d3)⟩
  · refine br_f b1 (br_f b2 ?_)
    by_cases c1 : v2 < 0
    · exact br_t c1 ⟨rfl, i_mk h V'⟩
    by_cases c2 : 3 < v2
    · exact br_f c1 (br_t c2 ⟨rfl, i_mk h V'⟩)
    by_cases c3 : v3 < 0
    · exact br_f c1 (br_f c2 (br_t c3 ⟨rfl, i_mk h V'⟩))
    by_cases c4 : 30 < v3
    · exact br_f c1 (br_f c2 (br_f c3 (br_f (Int32.not_le.mpr c4) ⟨rfl, i_mk h V'⟩)))
    exact absurd ⟨c1, c2, c3, c4, by decide, by decide⟩ ru
theorem i_vc_setRule {k : Nat} {u : SX} {v : SY} (I : i_Rel k u v) (hk : k + 5 ≤ 2562) (v1 : Int32) (v2 : Int32) (v3 : Int32) (v4 : Int32) : wpX_setRule (fun r u' => wpY_setRule (fun r' v' => r' = r ∧ i_Rel (k + 5) u' v') v v1 v2 v3 v4) u v1 v2 v3 v4 := by
  obtain ⟨mo, p, lim, fu, fd, mb, rel, len, kin, due, wt, af, st, dl, lf, hd, pr, be, rfl, rfl, h, V⟩ := I
  have V' := V
  obtain ⟨w1, w2, B, w4, w5, hlk, ⟨rk, hrk⟩, g⟩ := V
  unfold wpX_setRule
  dsimp only
  by_cases q : sj_has p v1
  · obtain ⟨id, hid, rfl, a⟩ := q
    have vi : vp_in (nI id) 5 := vp_in_nI hid (by omega)
    have ci : (nI id).toNatClampNeg = id := nI_clamp (by omega)
    refine sx_presT B.1 hid a (br_f (by decide) (sx_isRule (fun ru => br_f (by decide) ⟨vi, ?_⟩) (fun ru => br_t rfl ?_)))
    · obtain ⟨c1, c2, c3, c4, c5, c6⟩ := ru
      obtain ⟨kn, -, k3, rfl⟩ := sj_rng 0 3 (by omega) (by omega) c1 c2
      obtain ⟨dn, -, d3, rfl⟩ := sj_rng 0 30 (by omega) (by omega) c3 c4
      obtain ⟨wn, -, w3, rfl⟩ := sj_rng 1 5 (by omega) (by omega) c5 c6
      have B' := sj_bndR (id := id) B k3 d3 w3
      -- the reference's run
      have run : ∀ (r : Int32) (PX : SY → Prop), (sj_G p rel len (upd kin id (nI kn)) (upd due id (nI dn)) (upd wt id (nI wn)) af sj_M0 lim.toInt 34 (sj_Fu p len) → ∀ fu' fd' be', PX (nI mo, lim, fu', fd', -1, mb, hd, rel, len, upd kin id (nI kn), upd due id (nI dn), upd wt id (nI wn), pr, be') ∧ 0 = r) →
          (¬ sj_G p rel len (upd kin id (nI kn)) (upd due id (nI dn)) (upd wt id (nI wn)) af sj_M0 lim.toInt 34 (sj_Fu p len) → ∀ fu' fd' be', PX (nI mo, lim, fu', fd', -1, mb, hd, rel, len, kin, due, wt, pr, be') ∧ -3 = r) →
          wpY_setRule (fun r' v' => r' = r ∧ PX v') (nI mo, lim, fu, fd, -1, mb, hd, rel, len, kin, due, wt, pr, be) (nI id) (nI kn) (nI dn) (nI wn) := by
        intro r PX k1 k0
        unfold wpY_setRule
        dsimp only
        refine sy_thereT h hid a (br_f (by decide) (br_f c1 (br_f c2 (br_f c3 (br_f c4 (br_f c5 (br_t (Int32.not_lt.mp c6) ⟨vi, ?_⟩)))))))
        rw [ci]
        refine nm_e ⟨vi, nm_e ⟨vi, nm_e ⟨vi, nm_e ⟨vi, nm_e ⟨vi, nm_e ?_⟩⟩⟩⟩⟩
        refine sy_good0 (af := af) B' h hlk w2 (fun gg fu' fd' be' => br_f (by decide) ?_) (fun gg fu' fd' be' => br_t rfl ⟨vi, nm_r (e' := kin) (sj_uid rfl) ⟨vi, nm_r (e' := due) (sj_uid rfl) ⟨vi, nm_r (e' := wt) (sj_uid rfl) ?_⟩⟩⟩)
        · exact ⟨(k1 gg fu' fd' be').2, (k1 gg fu' fd' be').1⟩
        · exact ⟨(k0 gg fu' fd' be').2, (k0 gg fu' fd' be').1⟩
      rw [ci]
      refine nm_e ⟨vi, nm_e ⟨vi, nm_e ?_⟩⟩
      unfold wpX_putRule
      dsimp only
      rw [ci]
      refine ⟨vi, nm_e ⟨vi, nm_e ⟨vi, nm_e ?_⟩⟩⟩
      refine sx_plan B' hlk.1 hrk (fun gg s d l => br_f (by decide) ?_) (fun gg s d l => br_t rfl ⟨vi, nm_r (e' := kin) (sj_uid rfl) ⟨vi, nm_r (e' := due) (sj_uid rfl) ⟨vi, nm_r (e' := wt) (sj_uid rfl) ?_⟩⟩⟩)
      · exact run 0 (fun v' => i_Rel (k + 5) (nI mo, lim, nI p, rel, len, upd kin id (nI kn), upd due id (nI dn), upd wt id (nI wn), af, s, d, l) v') (fun _ fu' fd' be' => ⟨i_mk h (sj_Vs V' k3 d3 w3 gg), rfl⟩) (fun n => absurd gg n)
      · exact run (-3) (fun v' => i_Rel (k + 5) (nI mo, lim, nI p, rel, len, kin, due, wt, af, s, d, l) v') (fun z => absurd z gg) (fun _ fu' fd' be' => ⟨i_mk h V', rfl⟩)
    · unfold wpY_setRule
      dsimp only
      refine sy_thereT h hid a (br_f (by decide) ?_)
      by_cases c1 : v2 < 0
      · exact br_t c1 ⟨rfl, i_mk h V'⟩
      by_cases c2 : 3 < v2
      · exact br_f c1 (br_t c2 ⟨rfl, i_mk h V'⟩)
      by_cases c3 : v3 < 0
      · exact br_f c1 (br_f c2 (br_t c3 ⟨rfl, i_mk h V'⟩))
      by_cases c4 : 30 < v3
      · exact br_f c1 (br_f c2 (br_f c3 (br_t c4 ⟨rfl, i_mk h V'⟩)))
      by_cases c5 : v4 < 1
      · exact br_f c1 (br_f c2 (br_f c3 (br_f c4 (br_t c5 ⟨rfl, i_mk h V'⟩))))
      by_cases c6 : 5 < v4
      · exact br_f c1 (br_f c2 (br_f c3 (br_f c4 (br_f c5 (br_f (Int32.not_le.mpr c6) ⟨rfl, i_mk h V'⟩)))))
      exact absurd ⟨c1, c2, c3, c4, c5, c6⟩ ru
  · refine sx_presF B.1 q (br_t rfl ?_)
    unfold wpY_setRule
    dsimp only
    exact sy_thereF h q (br_t rfl ⟨rfl, i_mk h V'⟩)
end
section
/-! ===== links ===== -/
theorem i_vc_link {k : Nat} {u : SX} {v : SY} (I : i_Rel k u v) (hk : k + 5 ≤ 2562) (v1 : Int32) (v2 : Int32) : wpX_link (fun r u' => wpY_link (fun r' v' => r' = r ∧ i_Rel (k + 5) u' v') v v1 v2) u v1 v2 := by
  obtain ⟨mo, p, lim, fu, fd, mb, rel, len, kin, due, wt, af, st, dl, lf, hd, pr, be, rfl, rfl, h, V⟩ := I
  have V' := V
  obtain ⟨w1, w2, B, w4, w5, hlk, ⟨rk, hrk⟩, g⟩ := V
  unfold wpX_link
  dsimp only
  refine sx_judge B hlk.1 (sj_hb hlk) hrk (fun hB => ?_) (fun i j hi hj e1 e2 ne a => ?_) (fun i j hi hj e1 e2 ne a1 a2 a cc => ?_) (fun i j hi hj e1 e2 ne a1 a2 a cc gg s d l => ?_) (fun i j hi hj e1 e2 ne a1 a2 a cc gg s d l => ?_)
  · exact br_f (by decide) (sy_mkB h hB ⟨rfl, i_mk h V'⟩)
  · subst e1 e2
    have vi : vp_in (nI i) 5 := vp_in_nI hi (by omega)
    exact br_t rfl ⟨vi, vi, nm_r ((sj_af1e hlk.1 hi hj).trans (sj_af1id hlk.1 hi hj (sj_At a).2.2)) (sy_mkO h hlk hi hj ne a ⟨rfl, i_mk h V'⟩)⟩
  · subst e1 e2
    exact br_f (by decide) (sy_mkC h hlk hrk hi hj ne a1 a2 a cc ⟨rfl, i_mk h V'⟩)
  · subst e1 e2
    have vi : vp_in (nI i) 5 := vp_in_nI hi (by omega)
    exact br_t rfl ⟨vi, vi, nm_r (sj_af1e hlk.1 hi hj) (sy_mkG B w2 h hlk hrk hi hj ne a1 a2 a cc (fun _ fu' fd' be' => ⟨rfl, i_mk h (sj_Vl V' hi hj a1 a2 cc gg)⟩) (fun n => absurd gg n))⟩
  · subst e1 e2
    exact br_f (by decide) (sy_mkG B w2 h hlk hrk hi hj ne a1 a2 a cc (fun z => absurd z gg) (fun _ fu' fd' be' => ⟨rfl, i_mk h V'⟩))
theorem i_vc_couldPrecede {k : Nat} {u : SX} {v : SY} (I : i_Rel k u v) (hk : k + 5 ≤ 2562) (v1 : Int32) (v2 : Int32) : wpX_couldPrecede (fun r u' => wpY_couldPrecede (fun r' v' => r' = r ∧ i_Rel (k + 5) u' v') v v1 v2) u v1 v2 := by
  obtain ⟨mo, p, lim, fu, fd, mb, rel, len, kin, due, wt, af, st, dl, lf, hd, pr, be, rfl, rfl, h, V⟩ := I
  have V' := V
  obtain ⟨w1, w2, B, w4, w5, hlk, ⟨rk, hrk⟩, g⟩ := V
  unfold wpX_couldPrecede wpY_couldPrecede
  dsimp only
  refine sx_judge B hlk.1 (sj_hb hlk) hrk (fun hB => ?_) (fun i j hi hj e1 e2 ne a => ?_) (fun i j hi hj e1 e2 ne a1 a2 a cc => ?_) (fun i j hi hj e1 e2 ne a1 a2 a cc gg s d l => ?_) (fun i j hi hj e1 e2 ne a1 a2 a cc gg s d l => ?_)
  · refine br_f (by decide) ?_
    by_cases q : sj_lkd p af v1 v2
    · have q' := q
      obtain ⟨i, j, hi, hj, e1, e2, a⟩ := q'
      subst e1 e2
      exact sy_linkT h hlk hi hj a (sy_mkB h hB (br_f (by decide) (br_f (by decide) ⟨rfl, i_mk h V'⟩)))
    · exact sy_linkF h hlk q (sy_mkB h hB (br_f (by decide) (br_f (by decide) ⟨rfl, i_mk h V'⟩)))
  · subst e1 e2
    exact br_t rfl (sy_linkT h hlk hi hj a (sy_mkO h hlk hi hj ne a (br_t rfl (br_f (by decide) (br_t rfl ⟨rfl, i_mk h V'⟩)))))
  · subst e1 e2
    exact br_f (by decide) (sy_linkF h hlk (fun z => a ((sj_lkdn hi hj).mp z)) (sy_mkC h hlk hrk hi hj ne a1 a2 a cc (br_f (by decide) (br_f (by decide) ⟨rfl, i_mk h V'⟩))))
  · subst e1 e2
    have vj : vp_in (nI j) 5 := vp_in_nI hj (by omega)
    have lk1 := sj_lk1 hlk hi hj a1 a2
    have nb : ¬ (sj_N pr j).testBit i = true := fun z => by
      rw [hlk.2.2.2 i j hi hj a2] at z
      exact a (sj_hb hlk i j hi hj z)
    have aa : sj_A p (sj_af1 af i j) i j = true := by
      unfold sj_A
      rw [a1, a2, sj_af1b hlk.1 hi hj hj]
      simp
    have rest : upd (sj_af1 pr j i) (nI j).toNatClampNeg (sj_af1 pr j i (nI j).toNatClampNeg &&& (((1 : Int32) <<< (nI i &&& 31)) ^^^ (-1))) = pr := by
      rw [sj_af0e (sj_af1l hlk.2.1 hj hi) hj hi, sj_af01 hlk.2.1 hj hi nb]
    refine br_t rfl (sy_linkF h hlk (fun z => a ((sj_lkdn hi hj).mp z)) (sy_mkG B w2 h hlk hrk hi hj ne a1 a2 a cc (fun _ fu' fd' be' => br_t rfl (br_t rfl ?_)) (fun n => absurd gg n)))
    unfold wpY_unlink
    dsimp only
    exact sy_linkT h lk1 hi hj aa (br_f (by decide) ⟨vj, vj, nm_r rest (br_t rfl ⟨rfl, i_mk h V'⟩)⟩)
  · subst e1 e2
    exact br_f (by decide) (sy_linkF h hlk (fun z => a ((sj_lkdn hi hj).mp z)) (sy_mkG B w2 h hlk hrk hi hj ne a1 a2 a cc (fun z => absurd z gg) (fun _ fu' fd' be' => br_f (by decide) (br_f (by decide) ⟨rfl, i_mk h V'⟩))))
end
