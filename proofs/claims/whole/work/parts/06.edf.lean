/-! ===== what the most-urgent-first walk rests on ===== -/
def sj_hl (H : Nat → Bool) (L F : Nat → Nat) (E : Nat → Int) : Prop :=
  ∀ (a : Nat) (d : Int) (J : Nat → Bool), (∀ j, j < 5 → J j = true → H j = true ∧ a ≤ F j ∧ E j ≤ d) → sj_S (fun i => if J i = true then L i else 0) = 0 ∨ ((sj_S (fun i => if J i = true then L i else 0) : Nat) : Int) + (a : Int) ≤ d
def sj_inst (H : Nat → Bool) (L R : Nat → Nat) (A : Nat → Nat → Bool) (M K : Nat → Nat → Prop) (F : Nat → Nat) (E : Nat → Int) : Prop :=
  (∀ j, j < 5 → H j = true → 1 ≤ L j ∧ L j ≤ 3) ∧ (∀ i j, i < 5 → j < 5 → A i j = true → H i = true ∧ F i + L i ≤ F j ∧ E i < E j) ∧
  (∀ j, j < 5 → H j = true → R j ≤ F j) ∧ (∀ j t : Nat, j < 5 → H j = true → t < 33 → (t : Int) + 1 ≤ E j → M j t ∧ K j (t + 1)) ∧
  (∀ j, j < 5 → H j = true → E j ≤ 33) ∧ (sj_rc H L R A M K 34 (sj_fc H L) → sj_hl H L F E)
section
variable {H : Nat → Bool} {L R : Nat → Nat} {A : Nat → Nat → Bool} {M K : Nat → Nat → Prop} {F : Nat → Nat} {E : Nat → Int}
theorem sj_mk (hL : ∀ j, j < 5 → H j = true → 1 ≤ L j ∧ L j ≤ 3) (hR : ∀ j, j < 5 → H j = true → R j ≤ 18)
    (hM : ∀ j t, j < 5 → H j = true → M j (t + 1) → M j t) (hK : ∀ j t, j < 5 → H j = true → K j (t + 2) → K j (t + 1))
    (hAH : ∀ i j, i < 5 → j < 5 → A i j = true → H i = true ∧ H j = true) (D : Nat → Int) (hD3 : ∀ j, j < 5 → D j ≤ 33)
    (hD : ∀ j t : Nat, j < 5 → H j = true → t < 33 → ((M j t ∧ K j (t + 1)) ↔ (t : Int) + 1 ≤ D j))
    (hF : sj_isF A L (fun j => (R j : Int)) (fun j => (F j : Int))) (hE : sj_isF (fun i j => A j i) L (fun j => - D j) (fun j => - E j)) : sj_inst H L R A M K F E := by
  have hED : ∀ j, j < 5 → E j ≤ D j := by
    intro j hj
    have : - D j ≤ - E j := hE.1 j hj
    omega
  refine ⟨hL, fun i j hi hj a => ?_, fun j hj hH => ?_, fun j t hj hH ht le => ?_, fun j hj _ => ?_, fun rc => ?_⟩
  · have f : (F i : Int) + (L i : Int) ≤ (F j : Int) := hF.2.1 i j hi hj a
    have e : - E j + (L j : Int) ≤ - E i := hE.2.1 j i hj hi a
    obtain ⟨a1, a2⟩ := hAH i j hi hj a
    have l := hL j hj a2
    exact ⟨a1, by omega, by omega⟩
  · have f : (R j : Int) ≤ (F j : Int) := hF.1 j hj
    omega
  · have := hED j hj
    exact (hD j t hj hH ht).mpr (by omega)
  · have := hED j hj
    have := hD3 j hj
    omega
  · obtain ⟨σ, hσ, hT⟩ := sj_path 33 _ (sj_shift hL hR hM hK rc)
    have fw := sj_fwd (M := M) (K := K) (R := R) (A := A) hL F (fun j hj hH => by
      rcases (show (F j : Int) = (R j : Int) ∨ ∃ i, i < 5 ∧ A i j = true ∧ (F j : Int) = (F i : Int) + (L i : Int) from hF.2.2 j hj) with f | ⟨i, hi, a, f⟩
      · exact Or.inl (by omega)
      · exact Or.inr ⟨i, hi, (hAH i j hi hj a).1, a, by omega⟩)
    have bw := sj_bwd hL hσ hT E D (fun j hj hH => by
      rcases (show - E j = - D j ∨ ∃ k, k < 5 ∧ A j k = true ∧ - E j = - E k + (L k : Int) from hE.2.2 j hj) with f | ⟨k, hk, a, f⟩
      · exact Or.inl (by omega)
      · exact Or.inr ⟨k, hk, (hAH j k hj hk a).2, a, by omega⟩) (fun j t hj hH ht m k => (hD j t hj hH ht).mp ⟨m, k⟩)
    exact fun a d J hJ => sj_hall hL hσ hT F E fw bw a d J hJ
/-- the walk's state at unit t -/
def sj_gw (H : Nat → Bool) (L R : Nat → Nat) (A : Nat → Nat → Bool) (M K : Nat → Nat → Prop) (F : Nat → Nat) (E : Nat → Int) (t s : Nat) : Prop :=
  sj_rc H L R A M K t s ∧ sj_gi H L F E t s
theorem sj_w0 : sj_gw H L R A M K F E 0 0 := ⟨rfl, sj_g0⟩
theorem sj_wbd (I : sj_inst H L R A M K F E) {t s : Nat} (w : sj_gw H L R A M K F E t s) : s < 1024 ∧ ∀ j, j < 5 → sj_dg s j ≤ sj_x H L j := sj_bd I.1 t s w.1
theorem sj_wbl (I : sj_inst H L R A M K F E) {t s : Nat} (w : sj_gw H L R A M K F E t s) : ∀ j, j < 5 → H j = true → sj_dg s j ≤ L j := by
  intro j hj hH
  have := (sj_wbd I w).2 j hj
  rw [sj_xt hH] at this
  exact this
theorem sj_widle {t s : Nat} (w : sj_gw H L R A M K F E t s) (h : ∀ i, i < 5 → H i = true → F i ≤ t → L i ≤ sj_dg s i) : sj_gw H L R A M K F E (t + 1) s :=
  ⟨Or.inl w.1, sj_gidle h⟩
theorem sj_wstep (I : sj_inst H L R A M K F E) {t s id : Nat} (w : sj_gw H L R A M K F E t s) (ht : t < 33) (hid : id < 5) (hH : H id = true) (hd : sj_dg s id < L id) (hF : F id ≤ t)
    (hm : ∀ i, i < 5 → H i = true → sj_dg s i < L i → F i ≤ t → E id ≤ E i) (hE : (t : Int) < E id) : sj_gw H L R A M K F E (t + 1) (s + 4 ^ id) := by
  obtain ⟨hL, hA, hR, hMK, -, -⟩ := I
  obtain ⟨m, k⟩ := hMK id t hid hH ht (by omega)
  exact ⟨Or.inr ⟨id, s, sj_gok hL hA hR hid hH hd hF hm m k, w.1, rfl⟩, sj_gstep w.2 hid hH (hL id hid hH).2 hd hF hm⟩
theorem sj_wfail (I : sj_inst H L R A M K F E) {t s id : Nat} (w : sj_gw H L R A M K F E t s) (hid : id < 5) (hH : H id = true) (hd : sj_dg s id < L id) (hE : E id ≤ (t : Int)) :
    ¬ sj_rc H L R A M K 34 (sj_fc H L) :=
  fun rc => sj_gfail w.2 hid hH hd hE (sj_wbl I w) (I.2.2.2.2.2 rc)
theorem sj_wend (I : sj_inst H L R A M K F E) {s : Nat} (w : sj_gw H L R A M K F E 33 s) : sj_rc H L R A M K 34 (sj_fc H L) ↔ ∀ j, j < 5 → sj_dg s j = sj_x H L j := by
  constructor
  · intro rc j hj
    have b := (sj_wbd I w).2 j hj
    by_cases hH : H j = true
    · rcases Nat.lt_or_ge (sj_dg s j) (L j) with z | z
      · exact absurd rc (sj_wfail I w hj hH z (I.2.2.2.2.1 j hj hH))
      · rw [sj_xt hH] at b ⊢
        omega
    · rw [sj_xf hH] at b ⊢
      omega
  · intro h
    have e := sj_ext (sj_wbd I w).1 h
    rw [← e]
    exact Or.inl w.1
/-! ===== span ===== -/
def sj_wf (H : Nat → Bool) (L F : Nat → Nat) (a : Nat) : Nat := sj_S (fun k => if (H k && decide (a ≤ F k)) = true then L k else 0)
theorem sj_spanle (hL : ∀ j, j < 5 → H j = true → 1 ≤ L j ∧ L j ≤ 3) (hAH : ∀ i j, i < 5 → j < 5 → A i j = true → H i = true ∧ H j = true)
    (hF : sj_isF A L (fun j => (R j : Int)) (fun j => (F j : Int))) {T : Nat} (rc : sj_rc H L R A M K T (sj_fc H L)) : ∀ i, i < 5 → H i = true → F i + sj_wf H L F (F i) ≤ T := by
  intro i hi hH
  obtain ⟨σ, hσ, hT⟩ := sj_path T _ rc
  have fw := sj_fwd (M := M) (K := K) (R := R) (A := A) hL F (fun j hj hH => by
      rcases (show (F j : Int) = (R j : Int) ∨ ∃ i, i < 5 ∧ A i j = true ∧ (F j : Int) = (F i : Int) + (L i : Int) from hF.2.2 j hj) with f | ⟨i, hi, a, f⟩
      · exact Or.inl (by omega)
      · exact Or.inr ⟨i, hi, (hAH i j hi hj a).1, a, by omega⟩)
  have bw := sj_bwd hL hσ hT (fun _ => (T : Int)) (fun _ => (T : Int)) (fun j hj hH => Or.inl (Int.le_refl _)) (fun j t hj hH ht m k => by omega)
  have h := sj_hall hL hσ hT F (fun _ => (T : Int)) fw bw (F i) (T : Int) (fun k => H k && decide (F i ≤ F k)) (fun j hj q => by
    simp at q
    exact ⟨q.1, q.2, Int.le_refl _⟩)
  have pos : sj_S (fun _ => 0) < sj_wf H L F (F i) := by
    refine sj_Slt (j := i) (fun k _ => Nat.zero_le _) hi ?_
    show 0 < if (H i && decide (F i ≤ F i)) = true then L i else 0
    rw [if_pos (by simp [hH])]
    have := hL i hi hH
    omega
  have e : sj_S (fun _ => 0) = 0 := rfl
  have h' : sj_wf H L F (F i) = 0 ∨ ((sj_wf H L F (F i) : Nat) : Int) + (F i : Int) ≤ (T : Int) := h
  omega
theorem sj_spange (hL : ∀ j, j < 5 → H j = true → 1 ≤ L j ∧ L j ≤ 3) (hAH : ∀ i j, i < 5 → j < 5 → A i j = true → H i = true ∧ H j = true)
    (hF : sj_isF A L (fun j => (R j : Int)) (fun j => (F j : Int))) {T : Nat} (hMK : ∀ j t, j < 5 → H j = true → t < T → M j t ∧ K j (t + 1))
    (h : ∀ i, i < 5 → H i = true → F i + sj_wf H L F (F i) ≤ T) : sj_rc H L R A M K T (sj_fc H L) := by
  have g : ∀ t, t ≤ T → ∃ s, sj_rc H L R A M K t s ∧ sj_gi H L F (fun i => (F i : Int)) t s := by
    intro t
    induction t with
    | zero => exact fun _ => ⟨0, rfl, sj_g0⟩
    | succ t ih =>
      intro ht
      obtain ⟨s, rc, gi⟩ := ih (by omega)
      by_cases c : ∃ i, i < 5 ∧ (H i = true ∧ sj_dg s i < L i ∧ F i ≤ t)
      · obtain ⟨id, hid, ⟨hH, hd, hf⟩, hm⟩ := sj_min5 (fun i => H i = true ∧ sj_dg s i < L i ∧ F i ≤ t) F c
        obtain ⟨m, k⟩ := hMK id t hid hH (by omega)
        have hm' : ∀ i, i < 5 → H i = true → sj_dg s i < L i → F i ≤ t → (F id : Int) ≤ (F i : Int) := by
          intro i hi a b c
          have := hm i hi ⟨a, b, c⟩
          omega
        refine ⟨s + 4 ^ id, Or.inr ⟨id, s, sj_gok (E := fun i => (F i : Int)) hL (fun i j hi hj a => ?_) (fun j hj _ => ?_) hid hH hd hf hm' m k, rc, rfl⟩, sj_gstep gi hid hH (hL id hid hH).2 hd hf hm'⟩
        · have f : (F i : Int) + (L i : Int) ≤ (F j : Int) := hF.2.1 i j hi hj a
          obtain ⟨a1, a2⟩ := hAH i j hi hj a
          have l := hL i hi a1
          exact ⟨a1, by omega, by show (F i : Int) < (F j : Int); omega⟩
        · have f : (R j : Int) ≤ (F j : Int) := hF.1 j hj
          omega
      · refine ⟨s, Or.inl rc, sj_gidle (fun i hi hH hf => ?_)⟩
        rcases Nat.lt_or_ge (sj_dg s i) (L i) with z | z
        · exact absurd ⟨i, hi, hH, z, hf⟩ c
        · exact z
  obtain ⟨s, rc, gi⟩ := g T (Nat.le_refl _)
  obtain ⟨b1, b2⟩ := sj_bd hL T s rc
  have all : ∀ j, j < 5 → sj_dg s j = sj_x H L j := by
    intro j hj
    have b := b2 j hj
    by_cases hH : H j = true
    · rw [sj_xt hH] at b ⊢
      rcases Nat.lt_or_ge (sj_dg s j) (L j) with z | z
      · exfalso
        obtain ⟨a, ha, h1, h2⟩ := gi (((F 0 + F 1 + F 2 + F 3 + F 4 : Nat)) : Int)
        have big : ∀ k, k < 5 → (F k : Int) ≤ ((F 0 + F 1 + F 2 + F 3 + F 4 : Nat) : Int) := sj_lt5 (by omega) (by omega) (by omega) (by omega) (by omega)
        have fa : a ≤ F j := by
          rcases Nat.lt_or_ge (F j) a with q | q
          · have := h1 j hj hH (big j hj) q
            omega
          · exact q
        obtain ⟨m, hm, ⟨mH, ma⟩, mm⟩ := sj_min5 (fun k => H k = true ∧ a ≤ F k) F ⟨j, hj, hH, fa⟩
        have q := h m hm mH
        have h2' : T ≤ a + sj_S (fun i => if (H i && decide (a ≤ F i) && decide ((F i : Int) ≤ ((F 0 + F 1 + F 2 + F 3 + F 4 : Nat) : Int))) = true then sj_dg s i else 0) := h2
        have lt : sj_S (fun i => if (H i && decide (a ≤ F i) && decide ((F i : Int) ≤ ((F 0 + F 1 + F 2 + F 3 + F 4 : Nat) : Int))) = true then sj_dg s i else 0) < sj_wf H L F (F m) := by
          refine sj_Slt (j := j) (fun i hi => ?_) hj ?_
          · show (if (H i && decide (a ≤ F i) && decide ((F i : Int) ≤ ((F 0 + F 1 + F 2 + F 3 + F 4 : Nat) : Int))) = true then sj_dg s i else 0) ≤ (if (H i && decide (F m ≤ F i)) = true then L i else 0)
            by_cases c : (H i && decide (a ≤ F i) && decide ((F i : Int) ≤ ((F 0 + F 1 + F 2 + F 3 + F 4 : Nat) : Int))) = true
            · obtain ⟨c1, c2, -⟩ := sj_Jd (E := fun i => (F i : Int)) c
              have bi := b2 i hi
              rw [sj_xt c1] at bi
              rw [if_pos c, if_pos (by simp [c1, mm i hi ⟨c1, c2⟩])]
              exact bi
            · rw [if_neg c]
              exact Nat.zero_le _
          · show (if (H j && decide (a ≤ F j) && decide ((F j : Int) ≤ ((F 0 + F 1 + F 2 + F 3 + F 4 : Nat) : Int))) = true then sj_dg s j else 0) < (if (H j && decide (F m ≤ F j)) = true then L j else 0)
            rw [if_pos (sj_Jt (E := fun i => (F i : Int)) hH fa (big j hj)), if_pos (by simp [hH, mm j hj ⟨hH, fa⟩])]
            exact z
        omega
      · omega
    · rw [sj_xf hH] at b ⊢
      omega
  have e := sj_ext b1 all
  rw [← e]
  exact rc
end
