/-! ===== the most urgent first ===== -/
def sj_gi (H : Nat → Bool) (L F : Nat → Nat) (E : Nat → Int) (t s : Nat) : Prop :=
  ∀ D : Int, ∃ a : Nat, a ≤ t ∧ (∀ i, i < 5 → H i = true → E i ≤ D → F i < a → L i ≤ sj_dg s i) ∧ t ≤ a + sj_S (fun i => if (H i && decide (a ≤ F i) && decide (E i ≤ D)) = true then sj_dg s i else 0)
theorem sj_Jt {H : Nat → Bool} {F : Nat → Nat} {E : Nat → Int} {a i : Nat} {D : Int} (h1 : H i = true) (h2 : a ≤ F i) (h3 : E i ≤ D) : (H i && decide (a ≤ F i) && decide (E i ≤ D)) = true := by
  simp [h1, h2, h3]
theorem sj_Jd {H : Nat → Bool} {F : Nat → Nat} {E : Nat → Int} {a i : Nat} {D : Int} (h : (H i && decide (a ≤ F i) && decide (E i ≤ D)) = true) : H i = true ∧ a ≤ F i ∧ E i ≤ D := by
  simp at h
  exact ⟨h.1.1, h.1.2, h.2⟩
section
variable {H : Nat → Bool} {L F : Nat → Nat} {E : Nat → Int}
theorem sj_g0 : sj_gi H L F E 0 0 := fun _ => ⟨0, Nat.le_refl _, fun _ _ _ _ z => absurd z (by omega), Nat.zero_le _⟩
theorem sj_gidle {t s : Nat} (h : ∀ i, i < 5 → H i = true → F i ≤ t → L i ≤ sj_dg s i) : sj_gi H L F E (t + 1) s :=
  fun _ => ⟨t + 1, Nat.le_refl _, fun i hi hH _ z => h i hi hH (by omega), Nat.le_add_right _ _⟩
theorem sj_gstep {t s id : Nat} (g : sj_gi H L F E t s) (hid : id < 5) (hH : H id = true) (hl : L id ≤ 3) (hd : sj_dg s id < L id) (hF : F id ≤ t)
    (hm : ∀ i, i < 5 → H i = true → sj_dg s i < L i → F i ≤ t → E id ≤ E i) : sj_gi H L F E (t + 1) (s + 4 ^ id) := by
  intro D
  obtain ⟨a, ha, h1, h2⟩ := g D
  by_cases c : E id ≤ D
  · have hFa : a ≤ F id := by
      rcases Nat.lt_or_ge (F id) a with z | z
      · have := h1 id hid hH c z
        omega
      · exact z
    refine ⟨a, by omega, fun i hi hHi e f => ?_, ?_⟩
    · have := h1 i hi hHi e f
      by_cases q : i = id
      · subst q; omega
      · rw [sj_bumpO hid (by omega) hi q]; exact this
    · have b : sj_S (fun i => if (H i && decide (a ≤ F i) && decide (E i ≤ D)) = true then sj_dg (s + 4 ^ id) i else 0) = sj_S (fun i => if (H i && decide (a ≤ F i) && decide (E i ≤ D)) = true then sj_dg s i else 0) + 1 := by
        refine sj_Sinc hid (fun i hi ne => ?_) ?_
        · show (if (H i && decide (a ≤ F i) && decide (E i ≤ D)) = true then sj_dg (s + 4 ^ id) i else 0) = (if (H i && decide (a ≤ F i) && decide (E i ≤ D)) = true then sj_dg s i else 0)
          rw [sj_bumpO hid (by omega) hi ne]
        · show (if (H id && decide (a ≤ F id) && decide (E id ≤ D)) = true then sj_dg (s + 4 ^ id) id else 0) = (if (H id && decide (a ≤ F id) && decide (E id ≤ D)) = true then sj_dg s id else 0) + 1
          rw [if_pos (sj_Jt hH hFa c), if_pos (sj_Jt hH hFa c), sj_bumpS hid (by omega)]
      rw [b]
      omega
  · refine ⟨t + 1, Nat.le_refl _, fun i hi hHi e f => ?_, Nat.le_add_right _ _⟩
    have ne : i ≠ id := by
      intro q
      subst q
      exact c e
    rw [sj_bumpO hid (by omega) hi ne]
    rcases Nat.lt_or_ge (sj_dg s i) (L i) with z | z
    · have := hm i hi hHi z (by omega)
      omega
    · exact z
/-- work left too late: more work than room -/
theorem sj_gfail {t s id : Nat} (g : sj_gi H L F E t s) (hid : id < 5) (hH : H id = true) (hd : sj_dg s id < L id) (hE : E id ≤ (t : Int))
    (hb : ∀ j, j < 5 → H j = true → sj_dg s j ≤ L j)
    (hall : ∀ (a : Nat) (d : Int) (J : Nat → Bool), (∀ j, j < 5 → J j = true → H j = true ∧ a ≤ F j ∧ E j ≤ d) → sj_S (fun i => if J i = true then L i else 0) = 0 ∨ ((sj_S (fun i => if J i = true then L i else 0) : Nat) : Int) + (a : Int) ≤ d) : False := by
  obtain ⟨a, ha, h1, h2⟩ := g (E id)
  have hFa : a ≤ F id := by
    rcases Nat.lt_or_ge (F id) a with z | z
    · have := h1 id hid hH (Int.le_refl _) z
      omega
    · exact z
  have hh := hall a (E id) (fun i => H i && decide (a ≤ F i) && decide (E i ≤ E id)) (fun j _ q => sj_Jd q)
  have lt : sj_S (fun i => if (H i && decide (a ≤ F i) && decide (E i ≤ E id)) = true then sj_dg s i else 0) < sj_S (fun i => if (H i && decide (a ≤ F i) && decide (E i ≤ E id)) = true then L i else 0) := by
    refine sj_Slt (j := id) (fun i hi => ?_) hid ?_
    · show (if (H i && decide (a ≤ F i) && decide (E i ≤ E id)) = true then sj_dg s i else 0) ≤ (if (H i && decide (a ≤ F i) && decide (E i ≤ E id)) = true then L i else 0)
      by_cases q : (H i && decide (a ≤ F i) && decide (E i ≤ E id)) = true
      · rw [if_pos q, if_pos q]
        exact hb i hi (sj_Jd q).1
      · rw [if_neg q, if_neg q]
        exact Nat.le_refl _
    · show (if (H id && decide (a ≤ F id) && decide (E id ≤ E id)) = true then sj_dg s id else 0) < (if (H id && decide (a ≤ F id) && decide (E id ≤ E id)) = true then L id else 0)
      rw [if_pos (sj_Jt hH hFa (Int.le_refl _)), if_pos (sj_Jt hH hFa (Int.le_refl _))]
      exact hd
  have hh' : sj_S (fun i => if (H i && decide (a ≤ F i) && decide (E i ≤ E id)) = true then L i else 0) = 0 ∨ ((sj_S (fun i => if (H i && decide (a ≤ F i) && decide (E i ≤ E id)) = true then L i else 0) : Nat) : Int) + (a : Int) ≤ E id := hh
  omega
/-- the chosen job may have the unit -/
theorem sj_gok {R : Nat → Nat} {A : Nat → Nat → Bool} {M K : Nat → Nat → Prop} {t s id : Nat} (hL : ∀ j, j < 5 → H j = true → 1 ≤ L j ∧ L j ≤ 3)
    (hA : ∀ i j, i < 5 → j < 5 → A i j = true → H i = true ∧ F i + L i ≤ F j ∧ E i < E j)
    (hR : ∀ j, j < 5 → H j = true → R j ≤ F j) (hid : id < 5) (hH : H id = true) (hd : sj_dg s id < L id) (hF : F id ≤ t)
    (hm : ∀ i, i < 5 → H i = true → sj_dg s i < L i → F i ≤ t → E id ≤ E i) (hM : M id t) (hK : K id (t + 1)) : sj_ok H L R A M K t s id := by
  refine ⟨hid, hH, hd, Nat.le_trans (hR id hid hH) hF, fun i hi a => ?_, hM, fun _ => hK⟩
  obtain ⟨h1, h2, h3⟩ := hA i id hi hid a
  rcases Nat.lt_or_ge (sj_dg s i) (L i) with z | z
  · have l := hL i hi h1
    have := hm i hi h1 z (by omega)
    omega
  · exact z
end
/-- a least one of five -/
theorem sj_min5 (P : Nat → Prop) (v : Nat → Nat) (h : ∃ i, i < 5 ∧ P i) : ∃ i, i < 5 ∧ P i ∧ ∀ k, k < 5 → P k → v i ≤ v k := by
  obtain ⟨i, hi, hp⟩ := h
  generalize e : v i = n
  induction n using Nat.strongRecOn generalizing i with
  | ind n ih =>
    by_cases c : ∃ k, k < 5 ∧ P k ∧ v k < n
    · obtain ⟨k, hk, pk, lt⟩ := c
      exact ih (v k) lt k hk pk rfl
    · refine ⟨i, hi, hp, fun k hk pk => ?_⟩
      rcases Nat.lt_or_ge (v k) n with z | z
      · exact absurd ⟨k, hk, pk, z⟩ c
      · omega
