/-! ===== the least greatest cost ===== -/
def sj_st : Nat → Nat
  | 0 => 0
  | e + 1 => 2 ^ e
theorem sj_half (e : Nat) : 2 ^ e / 2 = sj_st e := by
  cases e with
  | zero => rfl
  | succ e => show 2 ^ (e + 1) / 2 = 2 ^ e; rw [Nat.pow_succ]; omega
section
variable {c b : Int32} {p : Nat} {rel len kin due wt af : Nat → Int32}
theorem sx_lw19 {post : Int32 → SX → Prop} {rk : Nat → Nat} (B : sj_bnd p rel len kin due wt) (haf : sj_le af 31) (hrk : sj_ord (sj_A p af) rk)
    (k : ∀ r : Int32, -150 ≤ r.toInt → r.toInt ≤ 1897 → sj_G p rel len kin due wt af sj_M0 r.toInt 34 (sj_Fu p len) → ¬ sj_G p rel len kin due wt af sj_M0 (r.toInt - 1) 34 (sj_Fu p len) → ∀ st' dl' lf', post r (c, b, nI p, rel, len, kin, due, wt, af, st', dl', lf')) :
    ∀ e (x1 : Int32) st dl lf, -151 ≤ x1.toInt → x1.toInt + ((2 ^ e : Nat) : Int) ≤ 1897 → ¬ sj_G p rel len kin due wt af sj_M0 x1.toInt 34 (sj_Fu p len) → sj_G p rel len kin due wt af sj_M0 (x1.toInt + ((2 ^ e : Nat) : Int)) 34 (sj_Fu p len) →
      wX_leastWorst_19 post (e + 1) x1 (nI (sj_st e)) c b (nI p) rel len kin due wt af st dl lf := by
  intro e
  induction e with
  | zero =>
    intro x1 st dl lf h1 h2 n g
    have e1 : (1 : Int32).toInt = 1 := by decide
    have q2 : ((2 ^ 0 : Nat) : Int) = 1 := rfl
    rw [q2] at h2 g
    have ad : (x1 + 1).toInt = x1.toInt + 1 := by rw [sj_addI (by omega) (by omega) (by omega) (by omega), e1]
    refine br_t (by decide) (k (x1 + 1) (by omega) (by omega) (by rw [ad]; exact g) (fun z => n ?_) st dl lf)
    have w : (x1 + 1).toInt - 1 = x1.toInt := by omega
    rw [w] at z
    exact z
  | succ e ih =>
    intro x1 st dl lf h1 h2 n g
    have pw : 2 ^ (e + 1) = 2 ^ e * 2 := Nat.pow_succ 2 e
    have pos : 0 < 2 ^ e := Nat.pow_pos (by omega)
    rw [pw] at h2 g
    have hh := sj_half e
    have ss : sj_st (e + 1) = 2 ^ e := rfl
    rw [ss]
    generalize 2 ^ e = w at *
    have wI : (nI w).toInt = (w : Int) := nI_toInt (by omega)
    have ad : (x1 + nI w).toInt = x1.toInt + (w : Int) := by rw [sj_addI (by omega) (by omega) (by omega) (by omega), wI]
    have hd : nI w / 2 = nI (sj_st e) := by
      have := pk_div (a := w) (d := 2) (by omega) (by omega) (by omega)
      rw [hh] at this
      exact this
    refine br_f (nI_nlt (b := 1) (by omega) (by omega)) ?_
    refine sx_plan B haf hrk (fun g2 s d l => ?_) (fun g2 s d l => ?_)
    · rw [ad] at g2
      exact br_f (by decide) ⟨by decide, nm_r hd (ih x1 s d l h1 (by omega) n g2)⟩
    · refine br_t rfl (nm_e ⟨by decide, nm_r hd (ih (x1 + nI w) s d l (by omega) (by omega) g2 ?_)⟩)
      have q : (x1 + nI w).toInt + (w : Int) = x1.toInt + ((w * 2 : Nat) : Int) := by rw [ad]; omega
      rw [q]
      exact g
theorem sx_lw {post : Int32 → SX → Prop} {rk : Nat → Nat} {st dl lf : Nat → Int32} (B : sj_bnd p rel len kin due wt) (haf : sj_le af 31) (hrk : sj_ord (sj_A p af) rk) (g : sj_G p rel len kin due wt af sj_M0 1000 34 (sj_Fu p len))
    (k0 : p = 0 → post (-2000) (c, b, nI p, rel, len, kin, due, wt, af, st, dl, lf))
    (k : p ≠ 0 → ∀ r : Int32, -150 ≤ r.toInt → r.toInt ≤ 1897 → sj_G p rel len kin due wt af sj_M0 r.toInt 34 (sj_Fu p len) → ¬ sj_G p rel len kin due wt af sj_M0 (r.toInt - 1) 34 (sj_Fu p len) → ∀ st' dl' lf', post r (c, b, nI p, rel, len, kin, due, wt, af, st', dl', lf')) :
    wpX_leastWorst post (c, b, nI p, rel, len, kin, due, wt, af, st, dl, lf) := by
  have hp := B.1
  by_cases z : p = 0
  · refine br_t (by rw [z]; rfl) (k0 z)
  · refine br_f (nI_ne0 (by omega) (by omega)) ⟨12, sx_lw19 B haf hrk (k z) 11 (-151) st dl lf (by decide) (by decide) (sj_Glow B z (by decide)) (sj_Gw (by decide) g)⟩
end
section
variable {mo lim fu fd mb : Int32} {p : Nat} {hd rel len kin due wt af pr be : Nat → Int32}
/-- the table, with no job that must be done -/
theorem sy_solve0 {post : SY → Prop} (B : sj_bnd p rel len kin due wt) (h : sj_hd p hd) (hlk : sj_lk p af pr)
    (k : ∀ be' fd', (∀ b : Int, -2000 ≤ b → b ≤ 9998 → ((be' (sj_Fu p len)).toInt ≤ b ↔ sj_G p rel len kin due wt af sj_M0 b 34 (sj_Fu p len))) → sj_FD fd' 34 (fun d => sj_G p rel len kin due wt af sj_M0 9998 d (sj_Fu p len)) →
      (nI (sj_Fu p len) &&& 1023) = nI (sj_Fu p len) → vp_in (nI (sj_Fu p len)) 1024 → (nI (sj_Fu p len)).toNatClampNeg = sj_Fu p len → (sj_Fu p len = 0 → be' (sj_Fu p len) = -2000) →
      post (mo, lim, nI (sj_Fu p len), fd', -1, mb, hd, rel, len, kin, due, wt, pr, be')) :
    wpY_solve post (mo, lim, fu, fd, -1, mb, hd, rel, len, kin, due, wt, pr, be) := by
  have hfl : sj_Fu p len < 1024 := sj_fcl (sj_hL B)
  have ef : nI (sj_Fu p len) &&& 1023 = nI (sj_Fu p len) := by rw [pk_andN (by omega) 10 (by decide), Nat.mod_eq_of_lt hfl]
  have cf : (nI (sj_Fu p len)).toNatClampNeg = sj_Fu p len := nI_clamp (by omega)
  refine sy_solve B h hlk.2.1 (sj_rlk hlk) (fun be' fd' hT hf => k be' fd' (fun b b1 b2 => ?_) ?_ ef (vp_in_nI hfl (by omega)) cf (fun z => ?_))
  · have q := (hT (sj_Fu p len) hfl).2 b b1 b2
    exact q.trans sj_G0
  · rcases hf with ⟨e, n⟩ | ⟨d, hd1, e, z, n⟩
    · exact Or.inl ⟨e, fun d hd2 w => n d hd2 (sj_G0.mpr w)⟩
    · exact Or.inr ⟨d, hd1, e, sj_G0.mp z, fun d' hd2 w => n d' hd2 (sj_G0.mpr w)⟩
  · have q := hT (sj_Fu p len) hfl
    have e1 : (-2000 : Int32).toInt = -2000 := by decide
    have rc0 : sj_rc p.testBit (sj_N len) (sj_N rel) (sj_A p af) (sj_My (-1) mb) (sj_KK kin due wt (-2000)) 34 (sj_Fu p len) := sj_upto (t := 0) (by omega) z
    have := (q.2 (-2000) (by omega) (by omega)).mpr rc0
    rw [sj_inI, e1]
    omega
end
/-- with no jobs there is no work -/
theorem sj_Fu0 {p : Nat} {len : Nat → Int32} (hp : p < 32) (h : p = 0) : sj_Fu p len = 0 := by
  subst h
  have x0 : ∀ j, sj_x (Nat.testBit 0) (sj_N len) j = 0 := fun j => sj_xf (by rw [Nat.zero_testBit]; decide)
  show sj_fc (Nat.testBit 0) (sj_N len) = 0
  unfold sj_fc
  rw [x0, x0, x0, x0, x0]
/-- one number is both -/
theorem sj_wv {p : Nat} {rel len kin due wt af : Nat → Int32} {v r : Int32} (hv : ∀ b : Int, -2000 ≤ b → b ≤ 9998 → (v.toInt ≤ b ↔ sj_G p rel len kin due wt af sj_M0 b 34 (sj_Fu p len)))
    (h1 : -150 ≤ r.toInt) (h2 : r.toInt ≤ 1897) (g : sj_G p rel len kin due wt af sj_M0 r.toInt 34 (sj_Fu p len)) (n : ¬ sj_G p rel len kin due wt af sj_M0 (r.toInt - 1) 34 (sj_Fu p len)) : v = r := by
  have a := (hv r.toInt (by omega) (by omega)).mpr g
  have a2 : ¬ v.toInt ≤ r.toInt - 1 := fun z => n ((hv (r.toInt - 1) (by omega) (by omega)).mp z)
  rw [sj_inI]
  omega
/-! ===== span ===== -/
section
variable {c b : Int32} {p : Nat} {rel len kin due wt af st dl lf : Nat → Int32}
def sj_wk (p : Nat) (len : Nat → Int32) (F : Nat → Nat) (a k : Nat) : Nat := if (p.testBit k && decide (a ≤ F k)) = true then sj_N len k else 0
theorem sj_wkS {F : Nat → Nat} {a : Nat} : sj_P (sj_wk p len F a) 5 = sj_wf p.testBit (sj_N len) F a := sj_P5 _
theorem sj_wfl (B : sj_bnd p rel len kin due wt) {F : Nat → Nat} {a : Nat} : sj_wf p.testBit (sj_N len) F a ≤ 15 := by
  have : sj_wf p.testBit (sj_N len) F a ≤ sj_S (fun _ => 3) := sj_Sle (fun i hi => by
    have l := (sj_Ne B.2.2.1 (by omega) hi).2
    show (if (p.testBit i && decide (a ≤ F i)) = true then sj_N len i else 0) ≤ 3
    split <;> omega)
  exact this
theorem sx_wf4 {post : Int32 → Prop} {F : Nat → Nat} {a : Nat} (B : sj_bnd p rel len kin due wt) (hst : ∀ j, j < 5 → st j = nI (F j) ∧ F j ≤ 200) (ha : a ≤ 200) (k : post (nI (sj_wf p.testBit (sj_N len) F a))) :
    ∀ d i, i + d = 5 → wX_workFrom_4 post (nI a) c b (nI p) rel len kin due wt af st dl lf (d + 1) (nI (sj_P (sj_wk p len F a) i)) (nI i) := by
  intro d
  induction d with
  | zero =>
    intro i hi
    have hi : i = 5 := hi
    subst hi
    rw [sj_wkS]
    exact br_t (by decide) k
  | succ d ih =>
    intro i hi
    have hi5 : i < 5 := by omega
    have vi : vp_in (nI i) 5 := vp_in_nI hi5 (by omega)
    have ci : (nI i).toNatClampNeg = i := nI_clamp (by omega)
    obtain ⟨e1, e2⟩ := hst i hi5
    obtain ⟨e3, e4⟩ := sj_Ne B.2.2.1 (by omega) hi5
    have nx := ih (i + 1) (by omega)
    have e5 : sj_P (sj_wk p len F a) (i + 1) = sj_P (sj_wk p len F a) i + sj_wk p len F a i := rfl
    rw [e5] at nx
    refine br_f (nI_ge (b := 5) hi5 (by decide)) (sx_pres B.1 hi5 (fun q => ?_) (fun q => ?_))
    · refine br_f (by decide) ⟨vi, ?_⟩
      rw [ci, e1]
      by_cases w : F i < a
      · have z : sj_wk p len F a i = 0 := if_neg (by rw [decide_eq_false (by omega), Bool.and_false]; decide)
        rw [z, Nat.add_zero] at nx
        exact br_t (nI_lt w (by omega)) (nm_r (nI_1 i) nx)
      · have z : sj_wk p len F a i = sj_N len i := if_pos (by rw [q, decide_eq_true (by omega)]; rfl)
        rw [z] at nx
        refine br_f (nI_nlt (by omega) (by omega)) ⟨vi, ?_⟩
        rw [e3]
        exact nm_r (nI_add _ _) (nm_r (nI_1 i) nx)
    · have q' : p.testBit i = false := by
        cases z : p.testBit i
        · rfl
        · exact absurd z q
      have z : sj_wk p len F a i = 0 := if_neg (by rw [q', Bool.false_and]; decide)
      rw [z, Nat.add_zero] at nx
      exact br_t rfl (nm_r (nI_1 i) nx)
theorem sx_wf {post : Int32 → Prop} {F : Nat → Nat} {a : Nat} (B : sj_bnd p rel len kin due wt) (hst : ∀ j, j < 5 → st j = nI (F j) ∧ F j ≤ 200) (ha : a ≤ 200) (k : post (nI (sj_wf p.testBit (sj_N len) F a))) :
    wpX_workFrom post (c, b, nI p, rel, len, kin, due, wt, af, st, dl, lf) (nI a) :=
  ⟨6, sx_wf4 B hst ha k 5 0 (by omega)⟩
theorem sx_sp8 {post : Int32 → SX → Prop} {F : Nat → Nat} (B : sj_bnd p rel len kin due wt) (hst : ∀ j, j < 5 → st j = nI (F j) ∧ F j ≤ 200)
    (k : ∀ a, (∀ i, i < 5 → p.testBit i = true → F i + sj_wf p.testBit (sj_N len) F (F i) ≤ a) → (a = 0 ∨ ∃ i, i < 5 ∧ p.testBit i = true ∧ a = F i + sj_wf p.testBit (sj_N len) F (F i)) → post (nI a) (c, b, nI p, rel, len, kin, due, wt, af, st, dl, lf)) :
    ∀ d i a, i + d = 5 → a ≤ 300 → (∀ j, j < i → p.testBit j = true → F j + sj_wf p.testBit (sj_N len) F (F j) ≤ a) → (a = 0 ∨ ∃ i, i < 5 ∧ p.testBit i = true ∧ a = F i + sj_wf p.testBit (sj_N len) F (F i)) →
      wX_span_8 post c b (nI p) rel len kin due wt af st dl lf (d + 1) (nI a) (nI i) := by
  intro d
  induction d with
  | zero =>
    intro i a hi _ h1 h2
    have hi : i = 5 := hi
    subst hi
    exact br_t (by decide) (k a h1 h2)
  | succ d ih =>
    intro i a hi ha h1 h2
    have hi5 : i < 5 := by omega
    have vi : vp_in (nI i) 5 := vp_in_nI hi5 (by omega)
    have ci : (nI i).toNatClampNeg = i := nI_clamp (by omega)
    obtain ⟨e1, e2⟩ := hst i hi5
    have wl := sj_wfl B (F := F) (a := F i)
    refine br_f (nI_ge (b := 5) hi5 (by decide)) (sx_pres B.1 hi5 (fun q => ?_) (fun q => ?_))
    · refine br_f (by decide) ⟨vi, vi, ?_⟩
      rw [ci, e1]
      refine sx_wf B hst (by omega) (nm_r (nI_add _ _) ?_)
      by_cases w : F i + sj_wf p.testBit (sj_N len) F (F i) ≤ a
      · refine br_t (nI_le w (by omega)) (nm_r (nI_1 i) (ih (i + 1) a (by omega) ha (fun j hj z => ?_) h2))
        by_cases e : j = i
        · subst e; exact w
        · exact h1 j (by omega) z
      · refine br_f (nI_ge (by omega) (by omega)) (nm_r (nI_1 i) (ih (i + 1) _ (by omega) (by omega) (fun j hj z => ?_) (Or.inr ⟨i, hi5, q, rfl⟩)))
        by_cases e : j = i
        · subst e; exact Nat.le_refl _
        · have := h1 j (by omega) z
          omega
    · refine br_t rfl (nm_r (nI_1 i) (ih (i + 1) a (by omega) ha (fun j hj z => ?_) h2))
      by_cases e : j = i
      · subst e; exact absurd z q
      · exact h1 j (by omega) z
theorem sx_span {post : Int32 → SX → Prop} {rk : Nat → Nat} (B : sj_bnd p rel len kin due wt) (haf : sj_le af 31) (hrk : sj_ord (sj_A p af) rk)
    (k : ∀ a, sj_G p rel len kin due wt af sj_M0 9998 a (sj_Fu p len) → (∀ e, e < a → ¬ sj_G p rel len kin due wt af sj_M0 9998 e (sj_Fu p len)) → ∀ st', post (nI a) (c, b, nI p, rel, len, kin, due, wt, af, st', dl, lf))
    (g : sj_G p rel len kin due wt af sj_M0 9998 34 (sj_Fu p len)) : wpX_span post (c, b, nI p, rel, len, kin, due, wt, af, st, dl, lf) := by
  obtain ⟨rk', h4, hrk'⟩ := sj_rk4 hrk
  obtain ⟨F, hF, hFu⟩ := sj_Fnat (R := sj_N rel) (L := sj_N len) hrk' h4 (U := 18) (fun j hj => (sj_Ne B.2.1 (by omega) hj).2) (fun i j hi hj _ => (sj_Ne B.2.2.1 (by omega) hi).2)
  have rI : ∀ j, j < 5 → (sj_N rel j : Int) = (rel j).toInt := fun j hj => by
    obtain ⟨e, l⟩ := sj_Ne B.2.1 (by omega) hj
    have q : (rel j).toInt = ((nI (sj_N rel j)).toInt) := congrArg Int32.toInt e
    rw [q, nI_toInt (by omega)]
  have hAH : ∀ i j, i < 5 → j < 5 → sj_A p af i j = true → p.testBit i = true ∧ p.testBit j = true := fun i j _ _ a => ⟨(sj_At a).1, (sj_At a).2.1⟩
  unfold wpX_span
  dsimp only
  refine sx_starts (F := fun j => (F j : Int)) B.1 haf B.2.2.1 (sj_isFc hF rI (fun _ _ => rfl)) hrk' h4 (fun j hj => by rw [← rI j hj]; omega) (fun j hj => by have := hFu j hj; show (F j : Int) ≤ 200; omega) (fun st' hst' => ?_)
  refine ⟨6, sx_sp8 (F := F) B (fun j hj => ⟨?_, by have := hFu j hj; omega⟩) (fun a h1 h2 => ?_) 5 0 0 (by omega) (by omega) (fun j hj => absurd hj (by omega)) (Or.inl rfl)⟩
  · have q : (st' j).toInt = (F j : Int) := hst' j hj
    have := hFu j hj
    rw [sj_inI, q, nI_toInt (by omega)]
  · have le34 : ∀ i, i < 5 → p.testBit i = true → F i + sj_wf p.testBit (sj_N len) F (F i) ≤ 34 := sj_spanle (sj_hL B) hAH hF g
    have a34 : a ≤ 34 := by
      rcases h2 with h2 | ⟨i, hi, q, h2⟩
      · omega
      · have := le34 i hi q
        omega
    refine k a ?_ (fun e he z => ?_) st'
    · refine sj_spange (sj_hL B) hAH hF (fun j t hj _ ht => ⟨trivial, ?_⟩) h1
      have := sj_Kb B (t := t + 1) hj (by omega)
      show sj_cost _ _ _ _ ≤ 9998
      omega
    · rcases h2 with h2 | ⟨i, hi, q, h2⟩
      · omega
      · have := sj_spanle (sj_hL B) hAH hF z i hi q
        omega
end
