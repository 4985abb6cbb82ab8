/-! ===== a plan of 34 units gives one of 33; a job taken out ===== -/
section
variable {H : Nat → Bool} {L R : Nat → Nat} {A : Nat → Nat → Bool} {M K : Nat → Nat → Prop}
theorem sj_shift (hL : ∀ j, j < 5 → H j = true → 1 ≤ L j ∧ L j ≤ 3) (hR : ∀ j, j < 5 → H j = true → R j ≤ 18)
    (hM : ∀ j t, j < 5 → H j = true → M j (t + 1) → M j t) (hK : ∀ j t, j < 5 → H j = true → K j (t + 2) → K j (t + 1))
    (h : sj_rc H L R A M K 34 (sj_fc H L)) : sj_rc H L R A M K 33 (sj_fc H L) := by
  obtain ⟨σ, hσ, hT⟩ := sj_path 34 _ h
  have ex : ∃ u, 18 ≤ u ∧ u < 34 ∧ σ (u + 1) = σ u := by
    apply Classical.byContradiction
    intro hn
    have g : ∀ k, k ≤ 16 → k ≤ sj_S (sj_dg (σ (18 + k))) := by
      intro k
      induction k with
      | zero => intro _; exact Nat.zero_le _
      | succ k ih =>
        intro hk
        have i0 := ih (by omega)
        rcases hσ.2 (18 + k) (by omega) with e | ⟨j, ⟨hj, hH, h1, -⟩, e⟩
        · exact absurd ⟨18 + k, by omega, by omega, e⟩ hn
        · have hl := hL j hj hH
          have b : sj_S (sj_dg (σ (18 + k + 1))) = sj_S (sj_dg (σ (18 + k))) + 1 := by
            refine sj_Sinc hj (fun i hi ne => ?_) ?_
            · rw [e, sj_bumpO hj (by omega) hi ne]
            · rw [e, sj_bumpS hj (by omega)]
          have b' : sj_S (sj_dg (σ (18 + (k + 1)))) = sj_S (sj_dg (σ (18 + k))) + 1 := b
          omega
    have z : 16 ≤ sj_S (sj_dg (σ 34)) := g 16 (Nat.le_refl _)
    have d0 := sj_dg3' (σ 34) 0
    have d1 := sj_dg3' (σ 34) 1
    have d2 := sj_dg3' (σ 34) 2
    have d3 := sj_dg3' (σ 34) 3
    have d4 := sj_dg3' (σ 34) 4
    unfold sj_S at z
    omega
  obtain ⟨u, hu, hu2, e⟩ := ex
  have hp : sj_pt H L R A M K 33 (fun t => if t ≤ u then σ t else σ (t + 1)) := by
    refine ⟨?_, fun t ht => ?_⟩
    · show (if 0 ≤ u then σ 0 else σ (0 + 1)) = 0
      rw [if_pos (Nat.zero_le _)]
      exact hσ.1
    · show (if t + 1 ≤ u then σ (t + 1) else σ (t + 1 + 1)) = (if t ≤ u then σ t else σ (t + 1)) ∨ ∃ j, sj_ok H L R A M K t (if t ≤ u then σ t else σ (t + 1)) j ∧ (if t + 1 ≤ u then σ (t + 1) else σ (t + 1 + 1)) = (if t ≤ u then σ t else σ (t + 1)) + 4 ^ j
      by_cases c : t + 1 ≤ u
      · rw [if_pos c, if_pos (by omega)]
        exact hσ.2 t (by omega)
      · have q : (if t ≤ u then σ t else σ (t + 1)) = σ (t + 1) := by
          by_cases c2 : t ≤ u
          · have ht2 : t = u := by omega
            subst ht2
            rw [if_pos c2, e]
          · rw [if_neg c2]
        rw [if_neg c, q]
        rcases hσ.2 (t + 1) (by omega) with e2 | ⟨j, ⟨hj, hH, h1, h2, h3, h4, h5⟩, e2⟩
        · exact Or.inl e2
        · have r := hR j hj hH
          exact Or.inr ⟨j, ⟨hj, hH, h1, by omega, h3, hM j t hj hH h4, fun z => hK j t hj hH (h5 z)⟩, e2⟩
  have r := sj_unpath hp 33 (Nat.le_refl _)
  have q : (if 33 ≤ u then σ 33 else σ (33 + 1)) = sj_fc H L := by
    by_cases c : 33 ≤ u
    · have hu3 : u = 33 := by omega
      subst hu3
      rw [if_pos c, ← e]
      exact hT
    · rw [if_neg c]
      exact hT
  have r' : sj_rc H L R A M K 33 (if 33 ≤ u then σ 33 else σ (33 + 1)) := r
  rw [q] at r'
  exact r'
end
def sj_dr (s d : Nat) : Nat := s - sj_dg s d * 4 ^ d
theorem sj_drd {s d : Nat} (hd : d < 5) : ∀ i, i < 5 → sj_dg (sj_dr s d) i = if i = d then 0 else sj_dg s i := by
  intro i hi
  unfold sj_dr
  rcases sj_c5 hd with rfl | rfl | rfl | rfl | rfl <;> rcases sj_c5 hi with rfl | rfl | rfl | rfl | rfl <;>
    simp only [sj_dg0, sj_dg1, sj_dg2, sj_dg3, sj_dg4, sj_p0, sj_p1, sj_p2, sj_p3, sj_p4] <;> simp <;> omega
theorem sj_drs {s d : Nat} (hd : d < 5) (h : sj_dg s d < 3) : sj_dr (s + 4 ^ d) d = sj_dr s d := by
  unfold sj_dr
  rw [sj_bumpS hd h, Nat.add_mul]
  omega
theorem sj_drle {s d : Nat} (hd : d < 5) : sj_dg s d * 4 ^ d ≤ s := by
  rcases sj_c5 hd with rfl | rfl | rfl | rfl | rfl <;>
    simp only [sj_dg0, sj_dg1, sj_dg2, sj_dg3, sj_dg4, sj_p0, sj_p1, sj_p2, sj_p3, sj_p4] <;> omega
theorem sj_dro {s d j : Nat} (hd : d < 5) (hj : j < 5) (h : sj_dg s j < 3) (ne : d ≠ j) : sj_dr (s + 4 ^ j) d = sj_dr s d + 4 ^ j := by
  have q := sj_drle (s := s) hd
  unfold sj_dr
  rw [sj_bumpO hj h hd ne]
  exact Nat.sub_add_comm q
section
variable {H : Nat → Bool} {L R : Nat → Nat} {A : Nat → Nat → Bool} {M K : Nat → Nat → Prop}
theorem sj_rem (hL : ∀ j, j < 5 → H j = true → 1 ≤ L j ∧ L j ≤ 3) {d : Nat} (hd : d < 5) {H' : Nat → Bool} {A' : Nat → Nat → Bool}
    (hH' : ∀ j, j < 5 → j ≠ d → H j = true → H' j = true) (hA : ∀ i j, i < 5 → j < 5 → A' i j = true → A i j = true ∧ i ≠ d) :
    ∀ t s, sj_rc H L R A M K t s → sj_rc H' L R A' M K t (sj_dr s d) := by
  intro t
  induction t with
  | zero =>
    intro s h
    have h : s = 0 := h
    subst h
    show 0 - sj_dg 0 d * 4 ^ d = 0
    omega
  | succ t ih =>
    intro s h
    rcases h with h | ⟨j, s', ⟨hj, hH, h1, h2, h3, h4, h5⟩, h, rfl⟩
    · exact Or.inl (ih s h)
    · have hl := hL j hj hH
      by_cases e : j = d
      · subst e
        rw [sj_drs hj (by omega)]
        exact Or.inl (ih s' h)
      · have q : sj_dg (sj_dr s' d) j = sj_dg s' j := by rw [sj_drd hd j hj, if_neg e]
        rw [sj_dro hd hj (by omega) (fun z => e z.symm)]
        refine Or.inr ⟨j, sj_dr s' d, ⟨hj, hH' j hj e hH, by omega, h2, fun i hi a => ?_, h4, fun z => h5 (by omega)⟩, ih s' h, rfl⟩
        obtain ⟨a1, a2⟩ := hA i j hi hj a
        rw [sj_drd hd i hi, if_neg a2]
        exact h3 i hi a1
theorem sj_drfc (hL : ∀ j, j < 5 → H j = true → 1 ≤ L j ∧ L j ≤ 3) {d : Nat} (hd : d < 5) {H' : Nat → Bool}
    (hH' : ∀ j, j < 5 → H' j = (H j && !(decide (j = d)))) : sj_dr (sj_fc H L) d = sj_fc H' L := by
  have b := sj_fcl hL
  refine sj_ext (by unfold sj_dr; omega) (fun j hj => ?_)
  rw [sj_drd hd j hj, sj_fcd hL j hj]
  by_cases e : j = d
  · subst e
    rw [if_pos rfl, sj_xf (by rw [hH' j hj]; simp)]
  · rw [if_neg e]
    unfold sj_x
    rw [hH' j hj]
    simp [e]
end
