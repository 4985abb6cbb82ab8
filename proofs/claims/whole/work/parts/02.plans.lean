/-! ===== plans: what the table of the reference reaches ===== -/
section
variable (H : Nat → Bool) (L R : Nat → Nat) (A : Nat → Nat → Bool) (M K : Nat → Nat → Prop)
def sj_ok (t s j : Nat) : Prop :=
  j < 5 ∧ H j = true ∧ sj_dg s j < L j ∧ R j ≤ t ∧ (∀ i, i < 5 → A i j = true → L i ≤ sj_dg s i) ∧ M j t ∧ (sj_dg s j + 1 = L j → K j (t + 1))
def sj_rc : Nat → Nat → Prop
  | 0 => fun s => s = 0
  | t + 1 => fun s => sj_rc t s ∨ ∃ j s', sj_ok H L R A M K t s' j ∧ sj_rc t s' ∧ s = s' + 4 ^ j
/-- a plan as its codes -/
def sj_pt (T : Nat) (σ : Nat → Nat) : Prop :=
  σ 0 = 0 ∧ ∀ t, t < T → σ (t + 1) = σ t ∨ ∃ j, sj_ok H L R A M K t (σ t) j ∧ σ (t + 1) = σ t + 4 ^ j
end
section
variable {H : Nat → Bool} {L R : Nat → Nat} {A : Nat → Nat → Bool} {M K : Nat → Nat → Prop}
theorem sj_bd (hL : ∀ j, j < 5 → H j = true → 1 ≤ L j ∧ L j ≤ 3) : ∀ t s, sj_rc H L R A M K t s → s < 1024 ∧ ∀ j, j < 5 → sj_dg s j ≤ sj_x H L j := by
  intro t
  induction t with
  | zero =>
    intro s h
    have h : s = 0 := h
    subst h
    exact ⟨by omega, fun j _ => by rw [sj_dgz]; exact Nat.zero_le _⟩
  | succ t ih =>
    intro s h
    rcases h with h | ⟨j, s', ho, h, rfl⟩
    · exact ih s h
    · obtain ⟨b, d⟩ := ih s' h
      obtain ⟨hj, hH, hd, -⟩ := ho
      have hl := hL j hj hH
      refine ⟨sj_lt1024 hj (by omega) b, fun i hi => ?_⟩
      by_cases e : i = j
      · subst e
        rw [sj_bumpS hj (by omega), sj_xt hH]
        omega
      · rw [sj_bumpO hj (by omega) hi e]
        exact d i hi
theorem sj_up1 {t s : Nat} (h : sj_rc H L R A M K t s) : sj_rc H L R A M K (t + 1) s := Or.inl h
theorem sj_upto {s : Nat} : ∀ {t T : Nat}, t ≤ T → sj_rc H L R A M K t s → sj_rc H L R A M K T s := by
  intro t T
  induction T with
  | zero =>
    intro h r
    obtain rfl : t = 0 := by omega
    exact r
  | succ T ih =>
    intro h r
    by_cases e : t = T + 1
    · subst e; exact r
    · exact Or.inl (ih (by omega) r)
theorem sj_mono {L' R' : Nat → Nat} {A' : Nat → Nat → Bool} {M' K' : Nat → Nat → Prop} (hR : ∀ j, j < 5 → H j = true → R' j ≤ R j)
    (hA : ∀ i j, i < 5 → j < 5 → H j = true → A' i j = true → A i j = true ∧ H i = true) (hM : ∀ j t, j < 5 → H j = true → M j t → M' j t)
    (hK : ∀ j t, j < 5 → H j = true → K j (t + 1) → K' j (t + 1)) (hl : ∀ j, j < 5 → H j = true → L' j = L j) : ∀ t s, sj_rc H L R A M K t s → sj_rc H L' R' A' M' K' t s := by
  intro t
  induction t with
  | zero => exact fun s h => h
  | succ t ih =>
    intro s h
    rcases h with h | ⟨j, s', ⟨hj, hH, h1, h2, h3, h4, h5⟩, h, rfl⟩
    · exact Or.inl (ih s h)
    · have e := hl j hj hH
      refine Or.inr ⟨j, s', ⟨hj, hH, by omega, Nat.le_trans (hR j hj hH) h2, fun i hi a => ?_, hM j t hj hH h4, fun z => hK j t hj hH (h5 (by omega))⟩, ih s' h, rfl⟩
      obtain ⟨a1, a2⟩ := hA i j hi hj hH a
      have := h3 i hi a1
      rw [hl i hi a2]
      exact this
theorem sj_fce {L' : Nat → Nat} (hl : ∀ j, j < 5 → H j = true → L' j = L j) : sj_fc H L' = sj_fc H L := by
  have g : ∀ j, j < 5 → sj_x H L' j = sj_x H L j := by
    intro j hj
    unfold sj_x
    by_cases h : H j = true
    · rw [if_pos h, if_pos h, hl j hj h]
    · rw [if_neg h, if_neg h]
  unfold sj_fc
  rw [g 0 (by omega), g 1 (by omega), g 2 (by omega), g 3 (by omega), g 4 (by omega)]
theorem sj_path : ∀ T s, sj_rc H L R A M K T s → ∃ σ : Nat → Nat, sj_pt H L R A M K T σ ∧ σ T = s := by
  intro T
  induction T with
  | zero =>
    intro s h
    have h : s = 0 := h
    exact ⟨fun _ => 0, ⟨rfl, fun t ht => absurd ht (by omega)⟩, h.symm⟩
  | succ T ih =>
    intro s h
    have key : ∀ s', sj_rc H L R A M K T s' → (s = s' ∨ ∃ j, sj_ok H L R A M K T s' j ∧ s = s' + 4 ^ j) → ∃ σ : Nat → Nat, sj_pt H L R A M K (T + 1) σ ∧ σ (T + 1) = s := by
      intro s' h' hs
      obtain ⟨σ, ⟨h0, hp⟩, hT⟩ := ih s' h'
      refine ⟨fun x => if x ≤ T then σ x else s, ⟨?_, ?_⟩, ?_⟩
      · show (if 0 ≤ T then σ 0 else s) = 0
        rw [if_pos (Nat.zero_le _)]
        exact h0
      · intro t ht
        show (if t + 1 ≤ T then σ (t + 1) else s) = (if t ≤ T then σ t else s) ∨ ∃ j, sj_ok H L R A M K t (if t ≤ T then σ t else s) j ∧ (if t + 1 ≤ T then σ (t + 1) else s) = (if t ≤ T then σ t else s) + 4 ^ j
        rw [if_pos (show t ≤ T by omega)]
        by_cases e : t = T
        · subst e
          rw [if_neg (by omega), hT]
          exact hs
        · rw [if_pos (by omega)]
          exact hp t (by omega)
      · show (if T + 1 ≤ T then σ (T + 1) else s) = s
        rw [if_neg (by omega)]
    rcases h with h | ⟨j, s', ho, h, e⟩
    · exact key s h (Or.inl rfl)
    · exact key s' h (Or.inr ⟨j, ho, e⟩)
theorem sj_unpath {T : Nat} {σ : Nat → Nat} (h : sj_pt H L R A M K T σ) : ∀ t, t ≤ T → sj_rc H L R A M K t (σ t) := by
  intro t
  induction t with
  | zero => exact fun _ => h.1
  | succ t ih =>
    intro ht
    have r := ih (by omega)
    rcases h.2 t (by omega) with e | ⟨j, ho, e⟩
    · rw [e]; exact Or.inl r
    · exact Or.inr ⟨j, σ t, ho, r, e⟩
/-- no unit before the start -/
theorem sj_fwd (hL : ∀ j, j < 5 → H j = true → 1 ≤ L j ∧ L j ≤ 3) (F : Nat → Nat)
    (hF : ∀ j, j < 5 → H j = true → F j ≤ R j ∨ ∃ i, i < 5 ∧ H i = true ∧ A i j = true ∧ F j ≤ F i + L i) :
    ∀ t s, sj_rc H L R A M K t s → ∀ j, j < 5 → H j = true → 0 < sj_dg s j → F j + sj_dg s j ≤ t := by
  intro t
  induction t with
  | zero =>
    intro s h j _ _ hd
    have h : s = 0 := h
    subst h
    rw [sj_dgz] at hd
    omega
  | succ t ih =>
    intro s h j hj hH hd
    rcases h with h | ⟨k, s', ⟨hk, hHk, h1, h2, h3, -⟩, h, rfl⟩
    · have := ih s h j hj hH hd
      omega
    · have hl := hL k hk hHk
      by_cases e : j = k
      · subst e
        rw [sj_bumpS hj (by omega)]
        by_cases z : sj_dg s' j = 0
        · rcases hF j hj hH with f | ⟨i, hi, hHi, a, f⟩
          · omega
          · have q := h3 i hi a
            have l := hL i hi hHi
            have := ih s' h i hi hHi (by omega)
            omega
        · have := ih s' h j hj hH (by omega)
          omega
      · rw [sj_bumpO hk (by omega) hj e] at hd ⊢
        have := ih s' h j hj hH hd
        omega
/-- whoever has begun has all before it done -/
theorem sj_pre (hL : ∀ j, j < 5 → H j = true → 1 ≤ L j ∧ L j ≤ 3) :
    ∀ t s, sj_rc H L R A M K t s → ∀ i j, i < 5 → j < 5 → A i j = true → 0 < sj_dg s j → L i ≤ sj_dg s i := by
  intro t
  induction t with
  | zero =>
    intro s h i j _ _ _ hd
    have h : s = 0 := h
    subst h
    rw [sj_dgz] at hd
    omega
  | succ t ih =>
    intro s h i j hi hj a hd
    rcases h with h | ⟨k, s', ⟨hk, hHk, h1, h2, h3, -⟩, h, rfl⟩
    · exact ih s h i j hi hj a hd
    · have hl := hL k hk hHk
      have g : L i ≤ sj_dg s' i := by
        by_cases e : j = k
        · subst e
          exact h3 i hi a
        · rw [sj_bumpO hk (by omega) hj e] at hd
          exact ih s' h i j hi hj a hd
      by_cases e : i = k
      · subst e
        rw [sj_bumpS hk (by omega)]
        omega
      · rw [sj_bumpO hk (by omega) hi e]
        exact g
/-- no unit behind the deadline -/
theorem sj_bwd (hL : ∀ j, j < 5 → H j = true → 1 ≤ L j ∧ L j ≤ 3) {T : Nat} {σ : Nat → Nat} (hσ : sj_pt H L R A M K T σ) (hT : σ T = sj_fc H L) (E D : Nat → Int)
    (hE : ∀ j, j < 5 → H j = true → D j ≤ E j ∨ ∃ k, k < 5 ∧ H k = true ∧ A j k = true ∧ E k - (L k : Int) ≤ E j)
    (hD : ∀ j t, j < 5 → H j = true → t < T → M j t → K j (t + 1) → (t : Int) + 1 ≤ D j) :
    ∀ d t, t + d = T → ∀ j, j < 5 → H j = true → sj_dg (σ t) j < L j → (t : Int) + (L j : Int) ≤ E j + (sj_dg (σ t) j : Int) := by
  intro d
  induction d with
  | zero =>
    intro t ht j hj hH hd
    have ht : t = T := ht
    subst ht
    rw [hT, sj_fcd hL j hj, sj_xt hH] at hd
    omega
  | succ d ih =>
    intro t ht j hj hH hd
    have ih' := ih (t + 1) (by omega)
    rcases hσ.2 t (by omega) with e | ⟨k, ⟨hk, hHk, h1, h2, h3, h4, h5⟩, e⟩
    · rw [e] at ih'
      have := ih' j hj hH hd
      omega
    · have hl := hL k hk hHk
      by_cases ej : j = k
      · subst ej
        by_cases z : sj_dg (σ t) j + 1 = L j
        · have hkk := h5 z
          have g : (t : Int) + 1 ≤ E j := by
            rcases hE j hj hH with f | ⟨m, hm, hHm, a, f⟩
            · have := hD j t hj hH (by omega) h4 hkk
              omega
            · have hmj : m ≠ j := by
                intro e2
                subst e2
                have := h3 m hm a
                omega
              have m0 : sj_dg (σ t) m = 0 := by
                rcases Nat.eq_zero_or_pos (sj_dg (σ t) m) with q | q
                · exact q
                · have := sj_pre hL t (σ t) (sj_unpath hσ t (by omega)) j m hj hm a q
                  omega
              have lm := hL m hm hHm
              have b : sj_dg (σ (t + 1)) m = 0 := by rw [e, sj_bumpO hk (by omega) hm hmj, m0]
              have := ih' m hm hHm (by omega)
              omega
          omega
        · have b : sj_dg (σ (t + 1)) j = sj_dg (σ t) j + 1 := by rw [e, sj_bumpS hk (by omega)]
          have := ih' j hj hH (by omega)
          omega
      · have b : sj_dg (σ (t + 1)) j = sj_dg (σ t) j := by rw [e, sj_bumpO hk (by omega) hj ej]
        have := ih' j hj hH (by omega)
        omega
/-- the work that must lie between a and d fits there -/
theorem sj_hall (hL : ∀ j, j < 5 → H j = true → 1 ≤ L j ∧ L j ≤ 3) {T : Nat} {σ : Nat → Nat} (hσ : sj_pt H L R A M K T σ) (hT : σ T = sj_fc H L) (F : Nat → Nat) (E : Nat → Int)
    (hf : ∀ t s, sj_rc H L R A M K t s → ∀ j, j < 5 → H j = true → 0 < sj_dg s j → F j + sj_dg s j ≤ t)
    (he : ∀ d t, t + d = T → ∀ j, j < 5 → H j = true → sj_dg (σ t) j < L j → (t : Int) + (L j : Int) ≤ E j + (sj_dg (σ t) j : Int))
    (a : Nat) (d : Int) (J : Nat → Bool) (hJ : ∀ j, j < 5 → J j = true → H j = true ∧ a ≤ F j ∧ E j ≤ d) :
    sj_S (fun i => if J i = true then L i else 0) = 0 ∨ ((sj_S (fun i => if J i = true then L i else 0) : Nat) : Int) + (a : Int) ≤ d := by
  have g : ∀ t, t ≤ T → sj_S (fun i => if J i = true then sj_dg (σ t) i else 0) = 0 ∨ (sj_S (fun i => if J i = true then sj_dg (σ t) i else 0) + a ≤ t ∧ ((sj_S (fun i => if J i = true then sj_dg (σ t) i else 0) : Nat) : Int) + (a : Int) ≤ d) := by
    intro t
    induction t with
    | zero =>
      intro _
      refine Or.inl ?_
      rw [hσ.1]
      unfold sj_S
      simp [sj_dgz]
    | succ t ih =>
      intro ht
      have i0 := ih (by omega)
      rcases hσ.2 t (by omega) with e | ⟨k, ⟨hk, hHk, h1, h2, h3, h4, h5⟩, e⟩
      · rw [e]
        omega
      · have hl := hL k hk hHk
        by_cases q : J k = true
        · have b : sj_S (fun i => if J i = true then sj_dg (σ (t + 1)) i else 0) = sj_S (fun i => if J i = true then sj_dg (σ t) i else 0) + 1 := by
            refine sj_Sinc hk (fun i hi ne => ?_) ?_
            · show (if J i = true then sj_dg (σ (t + 1)) i else 0) = (if J i = true then sj_dg (σ t) i else 0)
              rw [e, sj_bumpO hk (by omega) hi ne]
            · show (if J k = true then sj_dg (σ (t + 1)) k else 0) = (if J k = true then sj_dg (σ t) k else 0) + 1
              rw [if_pos q, if_pos q, e, sj_bumpS hk (by omega)]
          obtain ⟨-, ja, jd⟩ := hJ k hk q
          have f := hf (t + 1) (σ (t + 1)) (sj_unpath hσ (t + 1) ht) k hk hHk (by rw [e, sj_bumpS hk (by omega)]; omega)
          rw [e, sj_bumpS hk (by omega)] at f
          have z := he (T - t) t (by omega) k hk hHk h1
          rw [b]
          omega
        · have b : sj_S (fun i => if J i = true then sj_dg (σ (t + 1)) i else 0) = sj_S (fun i => if J i = true then sj_dg (σ t) i else 0) := by
            refine sj_Seq (fun i hi => ?_)
            by_cases ne : i = k
            · subst ne
              rw [if_neg q, if_neg q]
            · rw [e, sj_bumpO hk (by omega) hi ne]
          rw [b]
          omega
  have r := g T (Nat.le_refl T)
  have b : sj_S (fun i => if J i = true then sj_dg (σ T) i else 0) = sj_S (fun i => if J i = true then L i else 0) := by
    refine sj_Seq (fun i hi => ?_)
    by_cases q : J i = true
    · rw [if_pos q, if_pos q, hT, sj_fcd hL i hi, sj_xt (hJ i hi q).1]
    · rw [if_neg q, if_neg q]
  rw [b] at r
  omega
end
