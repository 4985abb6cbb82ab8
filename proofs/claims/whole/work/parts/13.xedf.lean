/-! ===== the component: the most urgent first ===== -/
theorem sj_lpos {H : Nat → Bool} {L : Nat → Nat} {s j : Nat} (h : 0 < sj_x H L j - sj_dg s j) : H j = true ∧ sj_dg s j < L j := by
  by_cases q : H j = true
  · rw [sj_xt q] at h
    exact ⟨q, by omega⟩
  · rw [sj_xf q] at h
    omega
theorem sj_isFc {A : Nat → Nat → Bool} {L : Nat → Nat} {B B' F F' : Nat → Int} (h : sj_isF A L B F) (e : ∀ j, j < 5 → B j = B' j) (e' : ∀ j, j < 5 → F j = F' j) : sj_isF A L B' F' := by
  refine ⟨fun j hj => ?_, fun i j hi hj a => ?_, fun j hj => ?_⟩
  · rw [← e j hj, ← e' j hj]; exact h.1 j hj
  · rw [← e' j hj, ← e' i hi]; exact h.2.1 i j hi hj a
  · rcases h.2.2 j hj with q | ⟨i, hi, a, q⟩
    · exact Or.inl (by rw [← e j hj, ← e' j hj]; exact q)
    · exact Or.inr ⟨i, hi, a, by rw [← e' i hi, ← e' j hj]; exact q⟩
def sj_P (f : Nat → Nat) : Nat → Nat
  | 0 => 0
  | n + 1 => sj_P f n + f n
theorem sj_P5 (f : Nat → Nat) : sj_P f 5 = sj_S f := by
  show 0 + f 0 + f 1 + f 2 + f 3 + f 4 = f 0 + f 1 + f 2 + f 3 + f 4
  omega
section
variable {c b : Int32} {p : Nat} {rel len kin due wt af st dl lf : Nat → Int32}
theorem sx_mu4 {post : Int32 → Prop} {f : Int32} {t : Nat} {F l : Nat → Nat} {E : Nat → Int} (hlf : ∀ j, j < 5 → lf j = nI (l j) ∧ l j ≤ 3) (hst : ∀ j, j < 5 → st j = nI (F j) ∧ F j ≤ 200)
    (hdl : ∀ j, j < 5 → (dl j).toInt = E j) (ht : t ≤ 33) (k0 : (∀ j, j < 5 → 0 < l j → ¬ F j ≤ t) → post (-1))
    (k1 : ∀ id, id < 5 → 0 < l id → F id ≤ t → (∀ i, i < 5 → 0 < l i → F i ≤ t → E id ≤ E i) → post (nI id)) :
    ∀ d i x2, i + d = 5 → ((x2 = -1 ∧ ∀ j, j < i → 0 < l j → ¬ F j ≤ t) ∨ ∃ id, id < i ∧ x2 = nI id ∧ 0 < l id ∧ F id ≤ t ∧ ∀ j, j < i → 0 < l j → F j ≤ t → E id ≤ E j) →
      wX_mostUrgent_4 post (nI t) c b f rel len kin due wt af st dl lf (d + 1) x2 (nI i) := by
  intro d
  induction d with
  | zero =>
    intro i x2 hi h
    have hi : i = 5 := hi
    subst hi
    rcases h with ⟨rfl, h⟩ | ⟨id, h1, rfl, h2, h3, h4⟩
    · exact br_t (by decide) (k0 h)
    · exact br_t (by decide) (k1 id h1 h2 h3 h4)
  | succ d ih =>
    intro i x2 hi h
    have hi5 : i < 5 := by omega
    have vi : vp_in (nI i) 5 := vp_in_nI hi5 (by omega)
    have ci : (nI i).toNatClampNeg = i := nI_clamp (by omega)
    obtain ⟨e1, e2⟩ := hlf i hi5
    obtain ⟨e3, e4⟩ := hst i hi5
    refine br_f (nI_ge (b := 5) hi5 (by decide)) ⟨vi, ?_⟩
    rw [ci, e1, e3]
    -- the job can't have the unit: the choice stays
    have skip : ¬ (0 < l i ∧ F i ≤ t) → wX_mostUrgent_4 post (nI t) c b f rel len kin due wt af st dl lf (d + 1) x2 (nI (i + 1)) := by
      intro n
      refine ih (i + 1) x2 (by omega) ?_
      rcases h with ⟨hx, h⟩ | ⟨id, h1, hx, h2, h3, h4⟩
      · refine Or.inl ⟨hx, fun j hj z => ?_⟩
        by_cases e : j = i
        · subst e; exact fun w => n ⟨z, w⟩
        · exact h j (by omega) z
      · refine Or.inr ⟨id, by omega, hx, h2, h3, fun j hj z w => ?_⟩
        by_cases e : j = i
        · subst e; exact absurd ⟨z, w⟩ n
        · exact h4 j (by omega) z w
    by_cases z : l i = 0
    · rw [z]
      exact br_t (by decide) (nm_r (nI_1 i) (skip (by omega)))
    · refine br_f (nI_nle (by omega) (by omega)) ⟨vi, ?_⟩
      by_cases w : t < F i
      · exact br_t (nI_lt w (by omega)) (nm_r (nI_1 i) (skip (by omega)))
      · refine br_f (nI_nlt (by omega) (by omega)) ?_
        rcases h with ⟨rfl, h⟩ | ⟨id, h1, rfl, h2, h3, h4⟩
        · refine br_t (by decide) (nm_r (nI_1 i) (ih (i + 1) (nI i) (by omega) (Or.inr ⟨i, by omega, rfl, by omega, by omega, fun j hj a a' => ?_⟩)))
          by_cases e : j = i
          · subst e; exact Int.le_refl _
          · exact absurd a' (h j (by omega) a)
        · have cd : (nI id).toNatClampNeg = id := nI_clamp (by omega)
          refine br_f (nI_pos (by omega)) ⟨vi, vp_in_nI (by omega) (by omega), ?_⟩
          rw [cd]
          have d1 := hdl id (by omega)
          have d2 := hdl i hi5
          by_cases q : dl id ≤ dl i
          · refine br_t q (nm_r (nI_1 i) (ih (i + 1) (nI id) (by omega) (Or.inr ⟨id, by omega, rfl, h2, h3, fun j hj a a' => ?_⟩)))
            rw [sj_leI, d1, d2] at q
            by_cases e : j = i
            · subst e; exact q
            · exact h4 j (by omega) a a'
          · refine br_f q (nm_r (nI_1 i) (ih (i + 1) (nI i) (by omega) (Or.inr ⟨i, by omega, rfl, by omega, by omega, fun j hj a a' => ?_⟩)))
            rw [sj_leI, d1, d2] at q
            by_cases e : j = i
            · subst e; exact Int.le_refl _
            · have := h4 j (by omega) a a'
              omega
theorem sx_mu {post : Int32 → Prop} {f : Int32} {t : Nat} {F l : Nat → Nat} {E : Nat → Int} (hlf : ∀ j, j < 5 → lf j = nI (l j) ∧ l j ≤ 3) (hst : ∀ j, j < 5 → st j = nI (F j) ∧ F j ≤ 200)
    (hdl : ∀ j, j < 5 → (dl j).toInt = E j) (ht : t ≤ 33) (k0 : (∀ j, j < 5 → 0 < l j → ¬ F j ≤ t) → post (-1))
    (k1 : ∀ id, id < 5 → 0 < l id → F id ≤ t → (∀ i, i < 5 → 0 < l i → F i ≤ t → E id ≤ E i) → post (nI id)) : wpX_mostUrgent post (c, b, f, rel, len, kin, due, wt, af, st, dl, lf) (nI t) :=
  ⟨6, sx_mu4 hlf hst hdl ht k0 k1 5 0 (-1) (by omega) (Or.inl ⟨rfl, fun j hj => absurd hj (by omega)⟩)⟩
theorem sx_muf50 {post : Int32 → SX → Prop} {f : Int32} {H : Nat → Bool} {L R : Nat → Nat} {A : Nat → Nat → Bool} {M K : Nat → Nat → Prop} {F : Nat → Nat} {E : Nat → Int} (I : sj_inst H L R A M K F E)
    (hst : ∀ j, j < 5 → st j = nI (F j) ∧ F j ≤ 200) (hdl : ∀ j, j < 5 → (dl j).toInt = E j)
    (k1 : sj_rc H L R A M K 34 (sj_fc H L) → ∀ lf', post 1 (c, b, f, rel, len, kin, due, wt, af, st, dl, lf')) (k0 : ¬ sj_rc H L R A M K 34 (sj_fc H L) → ∀ lf', post 0 (c, b, f, rel, len, kin, due, wt, af, st, dl, lf')) :
    ∀ d t s w lf, t + d = 33 → sj_gw H L R A M K F E t s → (∀ j, j < 5 → lf j = nI (sj_x H L j - sj_dg s j)) → w = sj_S (fun j => sj_x H L j - sj_dg s j) →
      wX_mostUrgentFirstIsInTime_50 post c b f (d + 1) (nI w) (nI t) rel len kin due wt af st dl lf := by
  have x3 : ∀ j, j < 5 → sj_x H L j ≤ 3 := fun j hj => sj_x3 I.1 hj
  intro d
  induction d with
  | zero =>
    intro t s w lf ht g hlf hw
    have ht : t = 33 := ht
    subst ht
    have e := sj_wend I g
    have bd := (sj_wbd I g).2
    have hw' : w = (sj_x H L 0 - sj_dg s 0) + (sj_x H L 1 - sj_dg s 1) + (sj_x H L 2 - sj_dg s 2) + (sj_x H L 3 - sj_dg s 3) + (sj_x H L 4 - sj_dg s 4) := hw
    have w15 : w ≤ 15 := by
      have a := x3 0 (by omega)
      have a1 := x3 1 (by omega)
      have a2 := x3 2 (by omega)
      have a3 := x3 3 (by omega)
      have a4 := x3 4 (by omega)
      omega
    refine br_t (by decide) ?_
    by_cases z : w = 0
    · rw [z]
      refine br_t rfl (k1 (e.mpr (fun j hj => ?_)) lf)
      have q := bd j hj
      rcases sj_c5 hj with rfl | rfl | rfl | rfl | rfl <;> omega
    · refine br_f (nI_ne0 (by omega) (by omega)) (k0 (fun rc => z ?_) lf)
      have a := e.mp rc
      have a0 := a 0 (by omega)
      have a1 := a 1 (by omega)
      have a2 := a 2 (by omega)
      have a3 := a 3 (by omega)
      have a4 := a 4 (by omega)
      omega
  | succ d ih =>
    intro t s w lf ht g hlf hw
    refine br_f (nI_ge (b := 33) (by omega) (by decide)) ?_
    refine sx_mu (l := fun j => sj_x H L j - sj_dg s j) (fun j hj => ⟨hlf j hj, by have := x3 j hj; show sj_x H L j - sj_dg s j ≤ 3; omega⟩) hst hdl (by omega) (fun n => ?_) (fun id hid hl hf hmin => ?_)
    · refine br_t (by decide) (nm_r (nI_1 t) (ih (t + 1) s w lf (by omega) (sj_widle g (fun i hi hH hfi => ?_)) hlf hw))
      rcases Nat.lt_or_ge (sj_dg s i) (L i) with q | q
      · have pos : 0 < sj_x H L i - sj_dg s i := by rw [sj_xt hH]; omega
        exact absurd hfi (n i hi pos)
      · exact q
    · obtain ⟨hH, hd⟩ := sj_lpos (H := H) (L := L) (s := s) (j := id) hl
      have cd : (nI id).toNatClampNeg = id := nI_clamp (by omega)
      have vd : vp_in (nI id) 5 := vp_in_nI hid (by omega)
      have hl3 := (I.1 id hid hH).2
      refine br_f (nI_pos (by omega)) ⟨vd, ?_⟩
      rw [cd]
      have tI : (nI t).toInt = (t : Int) := nI_toInt (by omega)
      have ed := hdl id hid
      by_cases q : nI t < dl id
      · have q' : (t : Int) < E id := by
          rw [sj_ltI, tI, ed] at q
          exact q
        obtain ⟨n, hn⟩ : ∃ n, sj_x H L id - sj_dg s id = n + 1 := ⟨sj_x H L id - sj_dg s id - 1, by have hl' : 0 < sj_x H L id - sj_dg s id := hl; omega⟩
        have eb : sj_x H L id - sj_dg (s + 4 ^ id) id = n := by
          rw [sj_bumpS hid (by omega)]
          omega
        have sw : w = sj_S (fun j => sj_x H L j - sj_dg (s + 4 ^ id) j) + 1 := by
          rw [hw]
          refine sj_Sinc hid (fun i hi ne => ?_) ?_
          · show sj_x H L i - sj_dg s i = sj_x H L i - sj_dg (s + 4 ^ id) i
            rw [sj_bumpO hid (by omega) hi ne]
          · show sj_x H L id - sj_dg s id = sj_x H L id - sj_dg (s + 4 ^ id) id + 1
            omega
        refine br_t q ⟨vd, vd, nm_e ?_⟩
        rw [sw]
        refine nm_r (pk_m1 _) (nm_r (nI_1 t) (ih (t + 1) (s + 4 ^ id) _ _ (by omega) (sj_wstep I g (by omega) hid hH hd hf (fun i hi hHi hdi hfi => ?_) q') (fun j hj => ?_) rfl))
        · have pos : 0 < sj_x H L i - sj_dg s i := by rw [sj_xt hHi]; omega
          exact hmin i hi pos hfi
        · by_cases e : j = id
          · subst e
            rw [sj_us, hlf j hj, hn, nI_pred, eb]
          · rw [sj_un e, hlf j hj, sj_bumpO hid (by omega) hj e]
      · refine br_f q (k0 (sj_wfail I g hid hH hd ?_) lf)
        rw [sj_ltI, tI, ed] at q
        omega
theorem sx_muf4 {post : Int32 → SX → Prop} (hp : p < 32) {R : Nat → Nat} {A : Nat → Nat → Bool} {M K : Nat → Nat → Prop} {F : Nat → Nat} {E : Nat → Int} (I : sj_inst p.testBit (sj_N len) R A M K F E) (hlen : sj_le len 3)
    (hst : ∀ j, j < 5 → st j = nI (F j) ∧ F j ≤ 200) (hdl : ∀ j, j < 5 → (dl j).toInt = E j)
    (k1 : sj_rc p.testBit (sj_N len) R A M K 34 (sj_fc p.testBit (sj_N len)) → ∀ lf', post 1 (c, b, nI p, rel, len, kin, due, wt, af, st, dl, lf')) (k0 : ¬ sj_rc p.testBit (sj_N len) R A M K 34 (sj_fc p.testBit (sj_N len)) → ∀ lf', post 0 (c, b, nI p, rel, len, kin, due, wt, af, st, dl, lf')) :
    ∀ d i w lf, i + d = 5 → (∀ j, j < i → lf j = nI (sj_x p.testBit (sj_N len) j)) → w = sj_P (sj_x p.testBit (sj_N len)) i →
      wX_mostUrgentFirstIsInTime_4 post c b (nI p) (d + 1) (nI w) (nI i) rel len kin due wt af st dl lf := by
  intro d
  induction d with
  | zero =>
    intro i w lf hi h hw
    have hi : i = 5 := hi
    subst hi
    refine br_t (by decide) ⟨34, sx_muf50 I hst hdl k1 k0 33 0 0 w lf (by omega) sj_w0 (fun j hj => ?_) ?_⟩
    · rw [sj_dgz, h j hj]
      rfl
    · rw [hw, sj_P5]
      exact sj_Seq (fun j _ => by rw [sj_dgz]; rfl)
  | succ d ih =>
    intro i w lf hi h hw
    have hi5 : i < 5 := by omega
    have vi : vp_in (nI i) 5 := vp_in_nI hi5 (by omega)
    have ci : (nI i).toNatClampNeg = i := nI_clamp (by omega)
    have join : ∀ z0 : Int32, z0 = nI (sj_x p.testBit (sj_N len) i) → wX_mostUrgentFirstIsInTime_32 post (wX_mostUrgentFirstIsInTime_4 post c b (nI p) (d + 1)) (nI w) (nI i) z0 (nI i) c b (nI p) rel len kin due wt af st dl lf := by
      intro z0 ez
      unfold wX_mostUrgentFirstIsInTime_32
      rw [ci, ez]
      refine ⟨vi, nm_e ⟨vi, ?_⟩⟩
      rw [sj_us]
      refine nm_r (nI_add w _) (nm_r (nI_1 i) (ih (i + 1) _ _ (by omega) (fun j hj => ?_) (by rw [hw]; rfl)))
      by_cases e : j = i
      · subst e; exact sj_us
      · rw [sj_un e]; exact h j (by omega)
    refine br_f (nI_ge (b := 5) hi5 (by decide)) (sx_pres hp hi5 (fun q => ?_) (fun q => ?_))
    · refine br_f (by decide) ⟨vi, ?_⟩
      refine join _ ?_
      rw [ci, sj_xt q]
      exact (sj_Ne hlen (by omega) hi5).1
    · refine br_t rfl (join _ ?_)
      rw [sj_xf q]
      rfl
theorem sx_muf {post : Int32 → SX → Prop} (hp : p < 32) {R : Nat → Nat} {A : Nat → Nat → Bool} {M K : Nat → Nat → Prop} {F : Nat → Nat} {E : Nat → Int} (I : sj_inst p.testBit (sj_N len) R A M K F E) (hlen : sj_le len 3)
    (hst : ∀ j, j < 5 → st j = nI (F j) ∧ F j ≤ 200) (hdl : ∀ j, j < 5 → (dl j).toInt = E j)
    (k1 : sj_rc p.testBit (sj_N len) R A M K 34 (sj_fc p.testBit (sj_N len)) → ∀ lf', post 1 (c, b, nI p, rel, len, kin, due, wt, af, st, dl, lf')) (k0 : ¬ sj_rc p.testBit (sj_N len) R A M K 34 (sj_fc p.testBit (sj_N len)) → ∀ lf', post 0 (c, b, nI p, rel, len, kin, due, wt, af, st, dl, lf')) :
    wpX_mostUrgentFirstIsInTime post (c, b, nI p, rel, len, kin, due, wt, af, st, dl, lf) :=
  ⟨6, sx_muf4 hp I hlen hst hdl k1 k0 5 0 0 lf (by omega) (fun j hj => absurd hj (by omega)) rfl⟩
end
