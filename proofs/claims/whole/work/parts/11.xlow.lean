/-! ===== the component: its small methods ===== -/
def sj_has (p : Nat) (x : Int32) : Prop := ∃ j, j < 5 ∧ x = nI j ∧ p.testBit j = true
theorem sj_hasn {p j : Nat} (hj : j < 5) : sj_has p (nI j) ↔ p.testBit j = true := by
  constructor
  · rintro ⟨i, hi, e, h⟩
    have := (nI_eq (by omega) (by omega)).mp e
    rw [this]
    exact h
  · exact fun h => ⟨j, hj, rfl, h⟩
section
variable {c b : Int32} {p : Nat} {rel len kin due wt af st dl lf : Nat → Int32}
theorem sx_presT {post : Int32 → Prop} (hp : p < 32) {j : Nat} (hj : j < 5) (h : p.testBit j = true) (k : post 1) : wpX_isPresent post (c, b, nI p, rel, len, kin, due, wt, af, st, dl, lf) (nI j) :=
  br_f (nI_pos (by omega)) (br_f (nI_ge (b := 5) hj (by decide)) (br_f (fun z => by rw [sj_bit p hp j hj, h] at z; exact absurd z (by decide)) k))
theorem sx_presF {post : Int32 → Prop} (hp : p < 32) {x : Int32} (h : ¬ sj_has p x) (k : post 0) : wpX_isPresent post (c, b, nI p, rel, len, kin, due, wt, af, st, dl, lf) x := by
  rcases pk_ix x (n := 5) (by decide) with a | a | ⟨j, hj, rfl⟩
  · exact br_t a k
  · by_cases q : x < 0
    · exact br_t q k
    · exact br_f q (br_t a k)
  · have e : p.testBit j = false := by
      cases q : p.testBit j
      · rfl
      · exact absurd ((sj_hasn hj).mpr q) h
    exact br_f (nI_pos (by omega)) (br_f (nI_ge (b := 5) hj (by decide)) (br_t ((sj_bit p hp j hj).mpr e) k))
theorem sx_pres {post : Int32 → Prop} (hp : p < 32) {j : Nat} (hj : j < 5) (k1 : p.testBit j = true → post 1) (k0 : ¬ p.testBit j = true → post 0) : wpX_isPresent post (c, b, nI p, rel, len, kin, due, wt, af, st, dl, lf) (nI j) := by
  by_cases q : p.testBit j = true
  · exact sx_presT hp hj q (k1 q)
  · exact sx_presF hp (fun z => q ((sj_hasn hj).mp z)) (k0 q)
theorem sx_cost {post : Int32 → Prop} {f : Int32} {j : Nat} (hj : j < 5) {t : Int32} (k : post (sj_c32 (kin j) (due j) (wt j) t)) : wpX_cost post (c, b, f, rel, len, kin, due, wt, af, st, dl, lf) (nI j) t := by
  have hi : vp_in (nI j) 5 := vp_in_nI hj (by omega)
  have e : (nI j).toNatClampNeg = j := nI_clamp (by omega)
  unfold wpX_cost
  dsimp only
  rw [e]
  refine ⟨hi, nm_e ⟨hi, ?_⟩⟩
  unfold sj_c32 at k
  by_cases h1 : kin j = 1
  · rw [if_pos h1] at k
    exact br_t h1 ⟨hi, k⟩
  · rw [if_neg h1] at k
    by_cases h2 : t - due j ≤ 0
    · rw [if_pos h2] at k
      exact br_f h1 (br_f (Int32.not_lt.mpr h2) k)
    · rw [if_neg h2] at k
      refine br_f h1 (br_t (Int32.not_le.mp h2) ⟨hi, ?_⟩)
      by_cases h3 : kin j = 0
      · rw [if_pos h3] at k
        exact br_t h3 ⟨hi, k⟩
      · rw [if_neg h3] at k
        refine br_f h3 ⟨hi, ?_⟩
        by_cases h4 : kin j = 2
        · rw [if_pos h4] at k
          exact br_t h4 ⟨hi, k⟩
        · rw [if_neg h4] at k
          exact br_f h4 k
/-- the last time whose cost is at most bd -/
def sj_lt (kin due wt : Nat → Int32) (bd : Int32) (j D : Nat) : Prop :=
  D ≤ 33 ∧ (D = 0 ∨ sj_c32 (kin j) (due j) (wt j) (nI D) ≤ bd) ∧ ∀ t, D < t → t ≤ 33 → ¬ sj_c32 (kin j) (due j) (wt j) (nI t) ≤ bd
theorem sx_last3 {post : Int32 → Prop} {f bd : Int32} {j : Nat} (hj : j < 5) (k : ∀ D, sj_lt kin due wt bd j D → post (nI D)) :
    ∀ t, t ≤ 33 → (∀ t', t < t' → t' ≤ 33 → ¬ sj_c32 (kin j) (due j) (wt j) (nI t') ≤ bd) → wX_lastTimeWithin_3 post (nI j) bd c b f rel len kin due wt af st dl lf (t + 1) (nI t) := by
  intro t
  induction t with
  | zero =>
    intro _ h
    exact br_t (by decide) (k 0 ⟨by omega, Or.inl rfl, h⟩)
  | succ t ih =>
    intro ht h
    refine br_f (nI_nlt (b := 1) (by omega) (by omega)) (sx_cost hj ?_)
    by_cases q : sj_c32 (kin j) (due j) (wt j) (nI (t + 1)) ≤ bd
    · exact br_f (Int32.not_lt.mpr q) (k (t + 1) ⟨ht, Or.inr q, h⟩)
    · refine br_t (Int32.not_le.mp q) (nm_r (pk_m1 t) (ih (by omega) (fun t' h1 h2 => ?_)))
      by_cases e : t' = t + 1
      · subst e; exact q
      · exact h t' (by omega) h2
theorem sx_last {post : Int32 → Prop} {f bd : Int32} {j : Nat} (hj : j < 5) (k : ∀ D, sj_lt kin due wt bd j D → post (nI D)) : wpX_lastTimeWithin post (c, b, f, rel, len, kin, due, wt, af, st, dl, lf) (nI j) bd :=
  ⟨34, sx_last3 hj k 33 (by omega) (fun t h1 h2 => absurd h1 (by omega))⟩
theorem sx_setDl2 {post : SX → Prop} {f bd : Int32} (k : ∀ dl', (∀ j, j < 5 → ∃ D, dl' j = nI D ∧ sj_lt kin due wt bd j D) → post (c, b, f, rel, len, kin, due, wt, af, st, dl', lf)) :
    ∀ d i dl, i + d = 5 → (∀ j, j < i → ∃ D, dl j = nI D ∧ sj_lt kin due wt bd j D) → wX_setDeadlines_2 post bd c b f (d + 1) (nI i) rel len kin due wt af st dl lf := by
  intro d
  induction d with
  | zero =>
    intro i dl hi h
    have hi : i = 5 := hi
    subst hi
    exact br_t (by decide) (k dl h)
  | succ d ih =>
    intro i dl hi h
    have hi5 : i < 5 := by omega
    refine br_f (nI_ge (b := 5) hi5 (by decide)) (sx_last hi5 (fun D hD => ⟨vp_in_nI hi5 (by omega), ?_⟩))
    refine nm_r (congrArg (fun z => upd dl z (nI D)) (nI_clamp (by omega))) (nm_r (nI_1 i) (ih (i + 1) (upd dl i (nI D)) (by omega) (fun j hj => ?_)))
    by_cases e : j = i
    · subst e; exact ⟨D, sj_us, hD⟩
    · rw [sj_un e]; exact h j (by omega)
theorem sx_setDl {post : SX → Prop} {f bd : Int32} (k : ∀ dl', (∀ j, j < 5 → ∃ D, dl' j = nI D ∧ sj_lt kin due wt bd j D) → post (c, b, f, rel, len, kin, due, wt, af, st, dl', lf)) : wpX_setDeadlines post (c, b, f, rel, len, kin, due, wt, af, st, dl, lf) bd :=
  ⟨6, sx_setDl2 k 5 0 dl (by omega) (fun j hj => absurd hj (by omega))⟩
theorem sx_fol {post : Int32 → Prop} (hp : p < 32) (haf : sj_le af 31) {i : Nat} (hi : i < 5) (k : ∀ m, m < 32 → (∀ j, j < 5 → m.testBit j = sj_A p af i j) → post (nI m)) : wpX_followers post (c, b, nI p, rel, len, kin, due, wt, af, st, dl, lf) (nI i) := by
  have hv : vp_in (nI i) 5 := vp_in_nI hi (by omega)
  by_cases q : p.testBit i = true
  · refine br_f (fun z => by rw [sj_bit p hp i hi, q] at z; exact absurd z (by decide)) ⟨hv, ?_⟩
    obtain ⟨e, le⟩ := sj_Ne haf (by omega) hi
    have e2 : af (nI i).toNatClampNeg &&& nI p = nI (sj_N af i &&& p) := by rw [nI_clamp (by omega), e, sj_and]
    show post (af (nI i).toNatClampNeg &&& nI p)
    rw [e2]
    refine k _ (sj_and32 _ (by omega) _ hp) (fun j hj => ?_)
    unfold sj_A
    rw [Nat.testBit_and, q]
    cases (sj_N af i).testBit j <;> cases p.testBit j <;> rfl
  · have q' : p.testBit i = false := by
      cases z : p.testBit i
      · rfl
      · exact absurd z q
    refine br_t ((sj_bit p hp i hi).mpr q') (k 0 (by omega) (fun j hj => ?_))
    unfold sj_A
    rw [q', Nat.zero_testBit]
    rfl
end
