/-! ===== the calls that change ===== -/
theorem i_vc_unlink {k : Nat} {u : SX} {v : SY} (I : i_Rel k u v) (hk : k + 5 ≤ 2562) (v1 : Int32) (v2 : Int32) : wpX_unlink (fun r u' => wpY_unlink (fun r' v' => r' = r ∧ i_Rel (k + 5) u' v') v v1 v2) u v1 v2 := by
  obtain ⟨mo, p, lim, fu, fd, mb, rel, len, kin, due, wt, af, st, dl, lf, hd, pr, be, rfl, rfl, h, V⟩ := I
  have hp := V.2.2.1.1
  have hlk := V.2.2.2.2.2.1
  unfold wpX_unlink wpY_unlink
  dsimp only
  by_cases q : sj_lkd p af v1 v2
  · obtain ⟨i, j, hi, hj, rfl, rfl, a⟩ := q
    have vi : vp_in (nI i) 5 := vp_in_nI hi (by omega)
    have vj : vp_in (nI j) 5 := vp_in_nI hj (by omega)
    exact sx_linkT hp hlk.1 hi hj a (br_f (by decide) ⟨vi, vi, nm_r (sj_af0e hlk.1 hi hj) (sy_linkT h hlk hi hj a (br_f (by decide) ⟨vj, vj, nm_r (sj_af0e hlk.2.1 hj hi) ⟨rfl, i_mk h (sj_Vu V hi hj)⟩⟩))⟩)
  · exact sx_linkF hp hlk.1 q (br_t rfl (sy_linkF h hlk q (br_t rfl ⟨rfl, i_mk h V⟩)))
section
variable {c b f : Int32} {rel len kin due wt af st dl lf : Nat → Int32}
theorem sx_rm33 {post : Int32 → SX → Prop} {id : Nat} (hid : id < 5) (k : ∀ a', sj_gone af a' id → post 1 (c, b, f, rel, len, kin, due, wt, a', st, dl, lf)) :
    ∀ d i a, i + d = 5 → sj_le a 31 → (∀ x y, x < 5 → y < 5 → (sj_N a x).testBit y = ((sj_N af x).testBit y && !(decide (x = id)) && !(decide (x < i) && decide (y = id)))) → wX_remove_33 post (nI id) c b f (d + 1) (nI i) rel len kin due wt a st dl lf := by
  intro d
  induction d with
  | zero =>
    intro i a hi ha g
    have hi : i = 5 := hi
    subst hi
    refine br_t (by decide) (k a ⟨ha, fun x y hx hy => ?_⟩)
    rw [g x y hx hy, decide_eq_true hx, Bool.true_and]
  | succ d ih =>
    intro i a hi ha g
    have hi5 : i < 5 := by omega
    have vi : vp_in (nI i) 5 := vp_in_nI hi5 (by omega)
    refine br_f (nI_ge (b := 5) hi5 (by decide)) ⟨vi, vi, nm_r (sj_af0e ha hi5 hid) (nm_r (nI_1 i) (ih (i + 1) _ (by omega) (sj_af0l ha hi5 hid) (fun x y hx hy => ?_)))⟩
    rw [sj_af0b ha hi5 hid hy, g x y hx hy]
    by_cases e : x = i
    · subst e
      rw [decide_eq_true rfl, decide_eq_false (show ¬ x < x by omega), decide_eq_true (show x < x + 1 by omega)]
      simp
    · have w : decide (x < i) = decide (x < i + 1) := decide_eq_decide.mpr (by omega)
      rw [decide_eq_false e, w]
      simp
end
section
variable {mo lim fu fd mi mb : Int32} {hd rel len kin due wt pr be : Nat → Int32}
theorem sy_rm19 {post : Int32 → SY → Prop} {id : Nat} (hid : id < 5) (k : ∀ a', sj_goneY pr a' id → post 1 (mo, lim, fu, fd, mi, mb, hd, rel, len, kin, due, wt, a', be)) :
    ∀ d i a, i + d = 5 → sj_le a 31 → (∀ x y, x < 5 → y < 5 → (sj_N a x).testBit y = ((sj_N pr x).testBit y && !(decide (x < i) && decide (y = id)))) → wY_remove_19 post (nI id) mo lim fu fd mi mb (d + 1) (nI i) hd rel len kin due wt a be := by
  intro d
  induction d with
  | zero =>
    intro i a hi ha g
    have hi : i = 5 := hi
    subst hi
    refine br_t (by decide) (k a ⟨ha, fun x y hx hy => ?_⟩)
    rw [g x y hx hy, decide_eq_true hx, Bool.true_and]
  | succ d ih =>
    intro i a hi ha g
    have hi5 : i < 5 := by omega
    have vi : vp_in (nI i) 5 := vp_in_nI hi5 (by omega)
    refine br_f (nI_ge (b := 5) hi5 (by decide)) ⟨vi, vi, nm_r (sj_af0e ha hi5 hid) (nm_r (nI_1 i) (ih (i + 1) _ (by omega) (sj_af0l ha hi5 hid) (fun x y hx hy => ?_)))⟩
    rw [sj_af0b ha hi5 hid hy, g x y hx hy]
    by_cases e : x = i
    · subst e
      rw [decide_eq_true rfl, decide_eq_false (show ¬ x < x by omega), decide_eq_true (show x < x + 1 by omega)]
      simp
    · have w : decide (x < i) = decide (x < i + 1) := decide_eq_decide.mpr (by omega)
      rw [decide_eq_false e, w]
      simp
end
theorem i_vc_remove {k : Nat} {u : SX} {v : SY} (I : i_Rel k u v) (hk : k + 5 ≤ 2562) (v1 : Int32) : wpX_remove (fun r u' => wpY_remove (fun r' v' => r' = r ∧ i_Rel (k + 5) u' v') v v1) u v1 := by
  obtain ⟨mo, p, lim, fu, fd, mb, rel, len, kin, due, wt, af, st, dl, lf, hd, pr, be, rfl, rfl, h, V⟩ := I
  have hp := V.2.2.1.1
  have hlk := V.2.2.2.2.2.1
  unfold wpX_remove wpY_remove
  dsimp only
  by_cases q : sj_has p v1
  · obtain ⟨id, hid, rfl, a⟩ := q
    have vi : vp_in (nI id) 5 := vp_in_nI hid (by omega)
    have ci : (nI id).toNatClampNeg = id := nI_clamp (by omega)
    have e0 : upd af (nI id).toNatClampNeg 0 = upd af id (nI 0) := by rw [ci, nI_0]
    have e1 : upd hd (nI id).toNatClampNeg (vp_nar .boolean 0) = upd hd id 0 := by rw [ci]; rfl
    refine sx_presT hp hid a (br_f (by decide) (nm_r (sj_cl1 p hp id hid).1 ⟨vi, nm_r e0 ⟨6, sx_rm33 (af := af) hid (fun a' ga => ?_) 5 0 _ (by omega) (sj_leU hlk.1 (by omega)) (fun x y hx hy => ?_)⟩⟩))
    · refine sy_thereT h hid a (br_f (by decide) ⟨vi, nm_r e1 ⟨6, sy_rm19 (pr := pr) hid (fun b' gb => ⟨rfl, i_mk (sj_hdC hp hid h) (sj_Vr V hid ga gb)⟩) 5 0 pr (by omega) hlk.2.1 (fun x y hx hy => ?_)⟩⟩)
      rw [decide_eq_false (show ¬ x < 0 by omega)]
      simp
    · by_cases z : x = id
      · subst z
        rw [sj_Ns (by omega), Nat.zero_testBit]
        simp
      · rw [sj_Nu z, decide_eq_false z, decide_eq_false (show ¬ x < 0 by omega)]
        simp
  · exact sx_presF hp q (br_t rfl (sy_thereF h q (br_t rfl ⟨rfl, i_mk h V⟩)))
/-- a number between two -/
theorem sj_rng {x : Int32} (lo hi : Nat) (hl : lo < 2 ^ 31) (hh : hi < 2 ^ 31) (h1 : ¬ x < nI lo) (h2 : ¬ nI hi < x) : ∃ n, lo ≤ n ∧ n ≤ hi ∧ x = nI n := by
  rw [sj_ltI, nI_toInt hl] at h1
  rw [sj_ltI, nI_toInt hh] at h2
  refine ⟨x.toInt.toNat, by omega, by omega, ?_⟩
  rw [sj_inI, nI_toInt (by omega)]
  omega
theorem i_vc_add {k : Nat} {u : SX} {v : SY} (I : i_Rel k u v) (hk : k + 5 ≤ 2562) (v1 : Int32) (v2 : Int32) : wpX_add (fun r u' => wpY_add (fun r' v' => r' = r ∧ i_Rel (k + 5) u' v') v v1 v2) u v1 v2 := by
  obtain ⟨mo, p, lim, fu, fd, mb, rel, len, kin, due, wt, af, st, dl, lf, hd, pr, be, rfl, rfl, h, V⟩ := I
  have V' := V
  obtain ⟨w1, w2, B, w4, w5, hlk, ⟨rk, hrk⟩, g⟩ := V
  unfold wpX_add wpY_add
  dsimp only
  by_cases a1 : v1 < 0
  · exact br_t a1 (br_t rfl (br_t a1 ⟨rfl, i_mk h V'⟩))
  by_cases a2 : 9 < v1
  · exact br_f a1 (br_t a2 (br_t rfl (br_f a1 (br_t a2 ⟨rfl, i_mk h V'⟩))))
  refine br_f a1 (br_f a2 (br_f (by decide) ?_))
  by_cases b1 : v2 < 1
  · exact br_t b1 (br_t rfl (br_f a1 (br_f a2 (br_t b1 ⟨rfl, i_mk h V'⟩))))
  by_cases b2 : 3 < v2
  · exact br_f b1 (br_t b2 (br_t rfl (br_f a1 (br_f a2 (br_f b1 (br_f (Int32.not_le.mpr b2) ⟨rfl, i_mk h V'⟩))))))
  refine br_f b1 (br_f b2 (br_f (by decide) ?_))
  obtain ⟨rn, -, r9, rfl⟩ := sj_rng 0 9 (by omega) (by omega) a1 a2
  obtain ⟨pn, p1, p3, rfl⟩ := sj_rng 1 3 (by omega) (by omega) b1 b2
  have pre : ∀ {A1 A2 A3 A4 T : Prop}, T → (nI rn < 0 → A1) ∧ (¬ nI rn < 0 → ((9 < nI rn → A2) ∧ (¬ 9 < nI rn → ((nI pn < 1 → A3) ∧ (¬ nI pn < 1 → ((nI pn ≤ 3 → T) ∧ (¬ nI pn ≤ 3 → A4))))))) := fun t => br_f a1 (br_f a2 (br_f b1 (br_t (Int32.not_lt.mp b2) t)))
  refine sx_admit (kn := 0) (dn := 0) B hlk hrk w1.2 r9 ⟨p1, p3⟩ (by omega) (by omega) (fun full => pre ?_) (fun e he hn hlow gg s d l => pre ?_) (fun e he hn hlow gg s d l => pre ?_)
  · exact sy_take (kn := 0) (dn := 0) B h hlk w2 w1.1 w1.2 w5 r9 ⟨p1, p3⟩ (by omega) (by omega) (fun _ => ⟨rfl, i_mk h V'⟩) (fun e he hn _ _ _ _ _ => absurd (full e he) hn) (fun e he hn _ _ _ _ _ => absurd (full e he) hn)
  · refine sy_take (kn := 0) (dn := 0) B h hlk w2 w1.1 w1.2 w5 r9 ⟨p1, p3⟩ (by omega) (by omega) (fun full => absurd (full e he) hn) (fun e' he' hn' hlow' gg' fu' fd' be' => ?_) (fun e' he' hn' hlow' gg' fu' fd' be' => ?_)
    · obtain rfl := sj_lfu hn hlow hn' hlow'
      exact ⟨rfl, i_mk (sj_hdA B.1 (by omega) h) (sj_VA V' he hn r9 ⟨p1, p3⟩ (by omega) (by omega) gg)⟩
    · obtain rfl := sj_lfu hn hlow hn' hlow'
      exact absurd gg gg'
  · refine sy_take (kn := 0) (dn := 0) B h hlk w2 w1.1 w1.2 w5 r9 ⟨p1, p3⟩ (by omega) (by omega) (fun full => absurd (full e he) hn) (fun e' he' hn' hlow' gg' fu' fd' be' => ?_) (fun e' he' hn' hlow' gg' fu' fd' be' => ?_)
    · obtain rfl := sj_lfu hn hlow hn' hlow'
      exact absurd gg' gg
    · obtain rfl := sj_lfu hn hlow hn' hlow'
      exact ⟨rfl, i_mk (sj_hdB hn h) (sj_VB V' hn r9 ⟨p1, p3⟩ (by omega) (by omega))⟩
/-- a rule within its bounds -/
def sj_ru (a b c : Int32) : Prop := ¬ a < 0 ∧ ¬ 3 < a ∧ ¬ b < 0 ∧ ¬ 30 < b ∧ ¬ c < 1 ∧ ¬ 5 < c
theorem sx_isRule {post : Int32 → Prop} {a b c : Int32} (k1 : sj_ru a b c → post 1) (k0 : ¬ sj_ru a b c → post 0) : wpX_isRule post a b c := by
  by_cases h1 : a < 0
  · exact br_t h1 (br_t rfl (k0 (fun z => z.1 h1)))
  by_cases h2 : 3 < a
  · exact br_f h1 (br_t h2 (br_t rfl (k0 (fun z => z.2.1 h2))))
  refine br_f h1 (br_f h2 (br_f (by decide) ?_))
  by_cases h3 : b < 0
  · exact br_t h3 (br_t rfl (k0 (fun z => z.2.2.1 h3)))
  by_cases h4 : 30 < b
  · exact br_f h3 (br_t h4 (br_t rfl (k0 (fun z => z.2.2.2.1 h4))))
  refine br_f h3 (br_f h4 (br_f (by decide) ?_))
  by_cases h5 : c < 1
  · exact br_t h5 (br_t rfl (k0 (fun z => z.2.2.2.2.1 h5)))
  by_cases h6 : 5 < c
  · exact br_f h5 (br_t h6 (br_t rfl (k0 (fun z => z.2.2.2.2.2 h6))))
  exact br_f h5 (br_f h6 (br_f (by decide) (k1 ⟨h1, h2, h3, h4, h5, h6⟩)))
theorem i_vc_addRuled {k : Nat} {u : SX} {v : SY} (I : i_Rel k u v) (hk : k + 5 ≤ 2562) (v1 : Int32) (v2 : Int32) (v3 : Int32) : wpX_addRuled (fun r u' => wpY_addRuled (fun r' v' => r' = r ∧ i_Rel (k + 5) u' v') v v1 v2 v3) u v1 v2 v3 := by
  obtain ⟨mo, p, lim, fu, fd, mb, rel, len, kin, due, wt, af, st, dl, lf, hd, pr, be, rfl, rfl, h, V⟩ := I
  have V' := V
  obtain ⟨w1, w2, B, w4, w5, hlk, ⟨rk, hrk⟩, g⟩ := V
  unfold wpX_addRuled wpY_addRuled
  dsimp only
  by_cases b1 : v1 < 1
  · exact br_t b1 (br_t rfl (br_t b1 ⟨rfl, i_mk h V'⟩))
  by_cases b2 : 3 < v1
  · exact br_f b1 (br_t b2 (br_t rfl (br_f b1 (br_t b2 ⟨rfl, i_mk h V'⟩))))
  refine br_f b1 (br_f b2 (br_f (by decide) (sx_isRule (fun ru => br_f (by decide) ?_) (fun ru => br_t rfl ?_))))
  · obtain ⟨c1, c2, c3, c4, -, -⟩ := ru
    obtain ⟨pn, p1, p3, rfl⟩ := sj_rng 1 3 (by omega) (by omega) b1 b2
    obtain ⟨kn, -, k3, rfl⟩ := sj_rng 0 3 (by omega) (by omega) c1 c2
    obtain ⟨dn, -, d3, rfl⟩ := sj_rng 0 30 (by omega) (by omega) c3 c4
    have pre : ∀ {A1 A2 A3 A4 A5 A6 T : Prop}, T → (nI pn < 1 → A1) ∧ (¬ nI pn < 1 → ((3 < nI pn → A2) ∧ (¬ 3 < nI pn → ((nI kn < 0 → A3) ∧ (¬ nI kn < 0 → ((3 < nI kn → A4) ∧ (¬ 3 < nI kn → ((nI dn < 0 → A5) ∧ (¬ nI dn < 0 → ((nI dn ≤ 30 → T) ∧ (¬ nI dn ≤ 30 → A6))))))))))) := fun t => br_f b1 (br_f b2 (br_f c1 (br_f c2 (br_f c3 (br_t (Int32.not_lt.mp c4) t)))))
    refine sx_admit (rn := 0) B hlk hrk w1.2 (by omega) ⟨p1, p3⟩ k3 d3 (fun full => pre ?_) (fun e he hn hlow gg s d l => pre ?_) (fun e he hn hlow gg s d l => pre ?_)
    · exact sy_take (rn := 0) B h hlk w2 w1.1 w1.2 w5 (by omega) ⟨p1, p3⟩ k3 d3 (fun _ => ⟨rfl, i_mk h V'⟩) (fun e he hn _ _ _ _ _ => absurd (full e he) hn) (fun e he hn _ _ _ _ _ => absurd (full e he) hn)
    · refine sy_take (rn := 0) B h hlk w2 w1.1 w1.2 w5 (by omega) ⟨p1, p3⟩ k3 d3 (fun full => absurd (full e he) hn) (fun e' he' hn' hlow' gg' fu' fd' be' => ?_) (fun e' he' hn' hlow' gg' fu' fd' be' => ?_)
      · obtain rfl := sj_lfu hn hlow hn' hlow'
        exact ⟨rfl, i_mk (sj_hdA B.1 (by omega) h) (sj_VA V' he hn (by omega) ⟨p1, p3⟩ k3 d3 gg)⟩
      · obtain rfl := sj_lfu hn hlow hn' hlow'
        exact absurd gg gg'
    · refine sy_take (rn := 0) B h hlk w2 w1.1 w1.2 w5 (by omega) ⟨p1, p3⟩ k3 d3 (fun full => absurd (full e he) hn) (fun e' he' hn' hlow' gg' fu' fd' be' => ?_) (fun e' he' hn' hlow' gg' fu' fd' be' => ?_)
      · obtain rfl := sj_lfu hn hlow hn' hlow'
        exact absurd gg' gg
      · obtain rfl := sj_lfu hn hlow hn' hlow'
        exact ⟨rfl, i_mk (sj_hdB hn h) (sj_VB V' hn (by omega) ⟨p1, p3⟩ k3 d3)⟩
  · refine br_f b1 (br_f b2 ?_)
    by_cases c1 : v2 < 0
    · exact br_t c1 ⟨rfl, i_mk h V'⟩
    by_cases c2 : 3 < v2
    · exact br_f c1 (br_t c2 ⟨rfl, i_mk h V'⟩)
    by_cases c3 : v3 < 0
    · exact br_f c1 (br_f c2 (br_t c3 ⟨rfl, i_mk h V'⟩))
    by_cases c4 : 30 < v3
    · exact br_f c1 (br_f c2 (br_f c3 (br_f (Int32.not_le.mpr c4) ⟨rfl, i_mk h V'⟩)))
    exact absurd ⟨c1, c2, c3, c4, by decide, by decide⟩ ru
theorem i_vc_setRule {k : Nat} {u : SX} {v : SY} (I : i_Rel k u v) (hk : k + 5 ≤ 2562) (v1 : Int32) (v2 : Int32) (v3 : Int32) (v4 : Int32) : wpX_setRule (fun r u' => wpY_setRule (fun r' v' => r' = r ∧ i_Rel (k + 5) u' v') v v1 v2 v3 v4) u v1 v2 v3 v4 := by
  obtain ⟨mo, p, lim, fu, fd, mb, rel, len, kin, due, wt, af, st, dl, lf, hd, pr, be, rfl, rfl, h, V⟩ := I
  have V' := V
  obtain ⟨w1, w2, B, w4, w5, hlk, ⟨rk, hrk⟩, g⟩ := V
  unfold wpX_setRule
  dsimp only
  by_cases q : sj_has p v1
  · obtain ⟨id, hid, rfl, a⟩ := q
    have vi : vp_in (nI id) 5 := vp_in_nI hid (by omega)
    have ci : (nI id).toNatClampNeg = id := nI_clamp (by omega)
    refine sx_presT B.1 hid a (br_f (by decide) (sx_isRule (fun ru => br_f (by decide) ⟨vi, ?_⟩) (fun ru => br_t rfl ?_)))
    · obtain ⟨c1, c2, c3, c4, c5, c6⟩ := ru
      obtain ⟨kn, -, k3, rfl⟩ := sj_rng 0 3 (by omega) (by omega) c1 c2
      obtain ⟨dn, -, d3, rfl⟩ := sj_rng 0 30 (by omega) (by omega) c3 c4
      obtain ⟨wn, -, w3, rfl⟩ := sj_rng 1 5 (by omega) (by omega) c5 c6
      have B' := sj_bndR (id := id) B k3 d3 w3
      -- the reference's run
      have run : ∀ (r : Int32) (PX : SY → Prop), (sj_G p rel len (upd kin id (nI kn)) (upd due id (nI dn)) (upd wt id (nI wn)) af sj_M0 lim.toInt 34 (sj_Fu p len) → ∀ fu' fd' be', PX (nI mo, lim, fu', fd', -1, mb, hd, rel, len, upd kin id (nI kn), upd due id (nI dn), upd wt id (nI wn), pr, be') ∧ 0 = r) →
          (¬ sj_G p rel len (upd kin id (nI kn)) (upd due id (nI dn)) (upd wt id (nI wn)) af sj_M0 lim.toInt 34 (sj_Fu p len) → ∀ fu' fd' be', PX (nI mo, lim, fu', fd', -1, mb, hd, rel, len, kin, due, wt, pr, be') ∧ -3 = r) →
          wpY_setRule (fun r' v' => r' = r ∧ PX v') (nI mo, lim, fu, fd, -1, mb, hd, rel, len, kin, due, wt, pr, be) (nI id) (nI kn) (nI dn) (nI wn) := by
        intro r PX k1 k0
        unfold wpY_setRule
        dsimp only
        refine sy_thereT h hid a (br_f (by decide) (br_f c1 (br_f c2 (br_f c3 (br_f c4 (br_f c5 (br_t (Int32.not_lt.mp c6) ⟨vi, ?_⟩)))))))
        rw [ci]
        refine nm_e ⟨vi, nm_e ⟨vi, nm_e ⟨vi, nm_e ⟨vi, nm_e ⟨vi, nm_e ?_⟩⟩⟩⟩⟩
        refine sy_good0 (af := af) B' h hlk w2 (fun gg fu' fd' be' => br_f (by decide) ?_) (fun gg fu' fd' be' => br_t rfl ⟨vi, nm_r (e' := kin) (sj_uid rfl) ⟨vi, nm_r (e' := due) (sj_uid rfl) ⟨vi, nm_r (e' := wt) (sj_uid rfl) ?_⟩⟩⟩)
        · exact ⟨(k1 gg fu' fd' be').2, (k1 gg fu' fd' be').1⟩
        · exact ⟨(k0 gg fu' fd' be').2, (k0 gg fu' fd' be').1⟩
      rw [ci]
      refine nm_e ⟨vi, nm_e ⟨vi, nm_e ?_⟩⟩
      unfold wpX_putRule
      dsimp only
      rw [ci]
      refine ⟨vi, nm_e ⟨vi, nm_e ⟨vi, nm_e ?_⟩⟩⟩
      refine sx_plan B' hlk.1 hrk (fun gg s d l => br_f (by decide) ?_) (fun gg s d l => br_t rfl ⟨vi, nm_r (e' := kin) (sj_uid rfl) ⟨vi, nm_r (e' := due) (sj_uid rfl) ⟨vi, nm_r (e' := wt) (sj_uid rfl) ?_⟩⟩⟩)
      · exact run 0 (fun v' => i_Rel (k + 5) (nI mo, lim, nI p, rel, len, upd kin id (nI kn), upd due id (nI dn), upd wt id (nI wn), af, s, d, l) v') (fun _ fu' fd' be' => ⟨i_mk h (sj_Vs V' k3 d3 w3 gg), rfl⟩) (fun n => absurd gg n)
      · exact run (-3) (fun v' => i_Rel (k + 5) (nI mo, lim, nI p, rel, len, kin, due, wt, af, s, d, l) v') (fun z => absurd z gg) (fun _ fu' fd' be' => ⟨i_mk h V', rfl⟩)
    · unfold wpY_setRule
      dsimp only
      refine sy_thereT h hid a (br_f (by decide) ?_)
      by_cases c1 : v2 < 0
      · exact br_t c1 ⟨rfl, i_mk h V'⟩
      by_cases c2 : 3 < v2
      · exact br_f c1 (br_t c2 ⟨rfl, i_mk h V'⟩)
      by_cases c3 : v3 < 0
      · exact br_f c1 (br_f c2 (br_t c3 ⟨rfl, i_mk h V'⟩))
      by_cases c4 : 30 < v3
      · exact br_f c1 (br_f c2 (br_f c3 (br_t c4 ⟨rfl, i_mk h V'⟩)))
      by_cases c5 : v4 < 1
      · exact br_f c1 (br_f c2 (br_f c3 (br_f c4 (br_t c5 ⟨rfl, i_mk h V'⟩))))
      by_cases c6 : 5 < v4
      · exact br_f c1 (br_f c2 (br_f c3 (br_f c4 (br_f c5 (br_f (Int32.not_le.mpr c6) ⟨rfl, i_mk h V'⟩)))))
      exact absurd ⟨c1, c2, c3, c4, c5, c6⟩ ru
  · refine sx_presF B.1 q (br_t rfl ?_)
    unfold wpY_setRule
    dsimp only
    exact sy_thereF h q (br_t rfl ⟨rfl, i_mk h V'⟩)
