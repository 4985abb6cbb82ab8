/-! ===== the calls that ask ===== -/
section
variable {mo lim fu fd mi mb : Int32} {p : Nat} {hd rel len kin due wt pr be : Nat → Int32}
theorem sy_jobs4 {post : Int32 → Prop} (hp : p < 32) (h : sj_hd p hd) (k : post (nI p)) :
    ∀ d i m, i + d = 5 → m < 32 → (∀ a, a < 5 → m.testBit a = (p.testBit a && decide (a < i))) → wY_jobs_4 post mo lim fu fd mi mb hd rel len kin due wt pr be (d + 1) (nI m) (nI i) := by
  intro d
  induction d with
  | zero =>
    intro i m hi hm g
    have hi : i = 5 := hi
    subst hi
    have e : m = p := sj_bx m hm p hp (fun a ha => by rw [g a ha, decide_eq_true ha, Bool.and_true])
    rw [e]
    exact br_t (by decide) k
  | succ d ih =>
    intro i m hi hm g
    have hi5 : i < 5 := by omega
    have ci : (nI i).toNatClampNeg = i := nI_clamp (by omega)
    refine br_f (nI_ge (b := 5) hi5 (by decide)) ⟨vp_in_nI hi5 (by omega), ?_⟩
    rw [ci]
    by_cases q : p.testBit i = true
    · have e := sj_ad1 m hm i hi5
      refine br_f (sj_hd1 h hi5 q) (nm_r e.1 (nm_r (nI_1 i) (ih (i + 1) _ (by omega) e.2 (fun a ha => ?_))))
      rw [sj_ad2 m hm i hi5 a ha, g a ha]
      by_cases z : a = i
      · subst z
        rw [q]
        simp
      · have w : decide (a < i) = decide (a < i + 1) := decide_eq_decide.mpr (by omega)
        rw [w, decide_eq_false z, Bool.or_false]
    · have e : nI m ||| 0 = nI m := by
        have z := sj_or m 0
        rw [Nat.or_zero] at z
        exact z
      refine br_t (sj_hd0 h hi5 q) (nm_r e (nm_r (nI_1 i) (ih (i + 1) m (by omega) hm (fun a ha => ?_))))
      rw [g a ha]
      by_cases z : a = i
      · subst z
        have q' : p.testBit a = false := by
          cases w : p.testBit a
          · rfl
          · exact absurd w q
        rw [q']
        rfl
      · have w : decide (a < i) = decide (a < i + 1) := decide_eq_decide.mpr (by omega)
        rw [w]
theorem sy_jobs {post : Int32 → Prop} (hp : p < 32) (h : sj_hd p hd) (k : post (nI p)) : wpY_jobs post (mo, lim, fu, fd, mi, mb, hd, rel, len, kin, due, wt, pr, be) :=
  ⟨6, sy_jobs4 hp h k 5 0 0 (by omega) (by omega) (fun a _ => by rw [Nat.zero_testBit, decide_eq_false (by omega), Bool.and_false])⟩
end
theorem i_vc_jobs {k : Nat} {u : SX} {v : SY} (I : i_Rel k u v) (hk : k + 5 ≤ 2562) : wpX_jobs (fun r => wpY_jobs (fun r' => r' = r ∧ i_Rel (k + 5) u v) v) u := by
  have J := I
  obtain ⟨mo, p, lim, fu, fd, mb, rel, len, kin, due, wt, af, st, dl, lf, hd, pr, be, rfl, rfl, h, V⟩ := I
  unfold wpX_jobs
  dsimp only
  exact sy_jobs V.2.2.1.1 h ⟨rfl, J⟩
theorem i_vc_linked {k : Nat} {u : SX} {v : SY} (I : i_Rel k u v) (hk : k + 5 ≤ 2562) (v1 : Int32) (v2 : Int32) : wpX_linked (fun r => wpY_linked (fun r' => r' = r ∧ i_Rel (k + 5) u v) v v1 v2) u v1 v2 := by
  have J := I
  obtain ⟨mo, p, lim, fu, fd, mb, rel, len, kin, due, wt, af, st, dl, lf, hd, pr, be, rfl, rfl, h, V⟩ := I
  unfold wpX_linked
  dsimp only
  have hp := V.2.2.1.1
  have hlk := V.2.2.2.2.2.1
  by_cases q : sj_lkd p af v1 v2
  · obtain ⟨i, j, hi, hj, rfl, rfl, a⟩ := q
    exact sx_linkT hp hlk.1 hi hj a ⟨rfl, sy_linkT h hlk hi hj a ⟨rfl, J⟩⟩
  · exact sx_linkF hp hlk.1 q ⟨rfl, sy_linkF h hlk q ⟨rfl, J⟩⟩
theorem i_vc_costAt {k : Nat} {u : SX} {v : SY} (I : i_Rel k u v) (hk : k + 5 ≤ 2562) (v1 : Int32) (v2 : Int32) : wpX_costAt (fun r => wpY_costAt (fun r' => r' = r ∧ i_Rel (k + 5) u v) v v1 v2) u v1 v2 := by
  have J := I
  obtain ⟨mo, p, lim, fu, fd, mb, rel, len, kin, due, wt, af, st, dl, lf, hd, pr, be, rfl, rfl, h, V⟩ := I
  unfold wpX_costAt wpY_costAt
  dsimp only
  have hp := V.2.2.1.1
  by_cases q : sj_has p v1
  · obtain ⟨i, hi, rfl, a⟩ := q
    refine sx_presT hp hi a (br_f (by decide) ?_)
    by_cases w1 : v2 < 0
    · exact br_t w1 (br_t rfl (sy_thereT h hi a (br_f (by decide) (br_t w1 ⟨rfl, J⟩))))
    · by_cases w2 : 60 < v2
      · exact br_f w1 (br_t w2 (br_t rfl (sy_thereT h hi a (br_f (by decide) (br_f w1 (br_t w2 ⟨rfl, J⟩))))))
      · exact br_f w1 (br_f w2 (br_f (by decide) (sx_cost hi (sy_thereT h hi a (br_f (by decide) (br_f w1 (br_f w2 (sy_cost hi ⟨rfl, J⟩))))))))
  · exact sx_presF hp q (br_t rfl (sy_thereF h q (br_t rfl ⟨rfl, J⟩)))
theorem i_vc_worst {k : Nat} {u : SX} {v : SY} (I : i_Rel k u v) (hk : k + 5 ≤ 2562) : wpX_worst (fun r u' => wpY_worst (fun r' v' => r' = r ∧ i_Rel (k + 5) u' v') v) u := by
  obtain ⟨mo, p, lim, fu, fd, mb, rel, len, kin, due, wt, af, st, dl, lf, hd, pr, be, rfl, rfl, h, V⟩ := I
  have V' := V
  obtain ⟨v1, v2, B, v4, v5, hlk, ⟨rk, hrk⟩, g⟩ := V
  unfold wpX_worst wpY_worst
  dsimp only
  refine sx_lw B hlk.1 hrk (sj_Gw v2.2 g) (fun z => ?_) (fun z r r1 r2 g1 g2 s d l => ?_)
  · refine sy_solve0 B h hlk (fun be' fd' hv hf e1 e2 e3 e0 => ?_)
    dsimp only
    rw [e1, e3]
    exact ⟨e2, e0 (sj_Fu0 B.1 z), i_mk h V'⟩
  · refine sy_solve0 B h hlk (fun be' fd' hv hf e1 e2 e3 e0 => ?_)
    dsimp only
    rw [e1, e3]
    exact ⟨e2, sj_wv hv r1 r2 g1 g2, i_mk h V'⟩
theorem i_vc_worstWithout {k : Nat} {u : SX} {v : SY} (I : i_Rel k u v) (hk : k + 5 ≤ 2562) (v1 : Int32) : wpX_worstWithout (fun r u' => wpY_worstWithout (fun r' v' => r' = r ∧ i_Rel (k + 5) u' v') v v1) u v1 := by
  obtain ⟨mo, p, lim, fu, fd, mb, rel, len, kin, due, wt, af, st, dl, lf, hd, pr, be, rfl, rfl, h, V⟩ := I
  have V' := V
  obtain ⟨w1, w2, B, w4, w5, hlk, ⟨rk, hrk⟩, g⟩ := V
  unfold wpX_worstWithout wpY_worstWithout
  dsimp only
  by_cases q : sj_has p v1
  · obtain ⟨id, hid, rfl, a⟩ := q
    have hp := B.1
    have ec := sj_cl1 p hp id hid
    have ea := (sj_ad1 (sj_cl p id) ec.2 id hid).1
    rw [sj_adcl p hp id hid a] at ea
    have vi : vp_in (nI id) 5 := vp_in_nI hid (by omega)
    have ci : (nI id).toNatClampNeg = id := nI_clamp (by omega)
    have bt : ∀ j, j < 5 → (sj_cl p id).testBit j = true → p.testBit j = true ∧ j ≠ id := by
      intro j hj z
      rw [sj_cl2 p hp id hid j hj] at z
      simp at z
      exact z
    have sub : ∀ x y, x < 5 → y < 5 → sj_A (sj_cl p id) af x y = true → sj_A p af x y = true := fun x y hx hy z => sj_hb hlk x y hx hy (sj_At z).2.2
    have B' := sj_bndc B hid
    have g' := sj_Grem (af' := af) B hid sub g
    have hd' := sj_hdC hp hid h
    have hrl' : sj_rl (sj_cl p id) pr (sj_A (sj_cl p id) af) := by
      intro i j hi hj z
      have e := hlk.2.2.2 i j hi hj (bt j hj z).1
      unfold sj_A
      rw [e, z]
      simp
    have hback : upd (upd hd id 0) id 1 = hd := by
      refine sj_uid ?_
      rw [h id hid, if_pos a]
    have fin : ∀ (st' dl' lf' : Nat → Int32) (fu' fd' : Int32) (be' : Nat → Int32), i_Rel (k + 5) (nI mo, lim, nI p, rel, len, kin, due, wt, af, st', dl', lf') (nI mo, lim, fu', fd', -1, mb, hd, rel, len, kin, due, wt, pr, be') := fun _ _ _ _ _ _ => i_mk h V'
    -- the reference's run, whatever number the component found
    have run : ∀ (r : Int32) (st' dl' lf' : Nat → Int32), (∀ x : Int32, (sj_Fu (sj_cl p id) len = 0 → x = -2000) → (∀ b : Int, -2000 ≤ b → b ≤ 9998 → (x.toInt ≤ b ↔ sj_G (sj_cl p id) rel len kin due wt af sj_M0 b 34 (sj_Fu (sj_cl p id) len))) → x = r) →
        wpY_there (fun r_1 => (r_1 = 0 → (-2000 = r ∧ i_Rel (k + 5) (nI mo, lim, nI p, rel, len, kin, due, wt, af, st', dl', lf') (nI mo, lim, fu, fd, -1, mb, hd, rel, len, kin, due, wt, pr, be))) ∧ (¬ r_1 = 0 → (vp_in (nI id) 5 ∧ ∀ a_held_18, a_held_18 = upd hd (nI id).toNatClampNeg (vp_nar .boolean 0) → (wpY_solve (fun u => match u with | (f1, f2, f3, f4, f5, f6, h1, h2, h3, h4, h5, h6, h7, h8) => (vp_in (nI id) 5 ∧ ∀ a_held_35, a_held_35 = upd h1 (nI id).toNatClampNeg (vp_nar .boolean 1) → (vp_in (f3 &&& 1023) 1024 ∧ (h8 (f3 &&& 1023).toNatClampNeg = r ∧ i_Rel (k + 5) (nI mo, lim, nI p, rel, len, kin, due, wt, af, st', dl', lf') (f1, f2, f3, f4, f5, f6, a_held_35, h2, h3, h4, h5, h6, h7, h8))))) (nI mo, lim, fu, fd, -1, mb, a_held_18, rel, len, kin, due, wt, pr, be))))) (nI mo, lim, fu, fd, -1, mb, hd, rel, len, kin, due, wt, pr, be) (nI id) := by
      intro r st' dl' lf' hx
      refine sy_thereT h hid a (br_f (by decide) ⟨vi, ?_⟩)
      rw [ci]
      have hfl : sj_Fu (sj_cl p id) len < 1024 := sj_fcl (sj_hL B')
      have ef : nI (sj_Fu (sj_cl p id) len) &&& 1023 = nI (sj_Fu (sj_cl p id) len) := by rw [pk_andN (by omega) 10 (by decide), Nat.mod_eq_of_lt hfl]
      have cf : (nI (sj_Fu (sj_cl p id) len)).toNatClampNeg = sj_Fu (sj_cl p id) len := nI_clamp (by omega)
      refine nm_r (e' := upd hd id 0) rfl (sy_solve B' hd' hlk.2.1 hrl' (fun be' fd' hT hf => ?_))
      dsimp only
      rw [ef, cf]
      refine ⟨vi, nm_r (e' := hd) hback ⟨vp_in_nI hfl (by omega), hx _ (fun z => ?_) (fun b b1 b2 => ?_), fin st' dl' lf' _ _ _⟩⟩
      · have w := hT (sj_Fu (sj_cl p id) len) hfl
        have e1 : (-2000 : Int32).toInt = -2000 := by decide
        have rc0 : sj_rc (sj_cl p id).testBit (sj_N len) (sj_N rel) (sj_A (sj_cl p id) af) (sj_My (-1) mb) (sj_KK kin due wt (-2000)) 34 (sj_Fu (sj_cl p id) len) := sj_upto (t := 0) (by omega) z
        have := (w.2 (-2000) (by omega) (by omega)).mpr rc0
        rw [sj_inI, e1]
        omega
      · have w := (hT (sj_Fu (sj_cl p id) len) hfl).2 b b1 b2
        exact w.trans sj_G0
    refine sx_presT hp hid a (br_f (by decide) (nm_r ec.1 (sx_lw B' hlk.1 (rk := rk) (fun i j hi hj z => hrk i j hi hj (sub i j hi hj z)) (sj_Gw w2.2 g') (fun z => ?_) (fun z r r1 r2 g1 g2 s d l => ?_))))
    · exact nm_r ea (run (-2000) st dl lf (fun x e0 _ => e0 (sj_Fu0 ec.2 z)))
    · exact nm_r ea (run r s d l (fun x _ hv => sj_wv hv r1 r2 g1 g2))
  · exact sx_presF B.1 q (br_t rfl (sy_thereF h q (br_t rfl ⟨rfl, i_mk h V'⟩)))
theorem i_vc_span {k : Nat} {u : SX} {v : SY} (I : i_Rel k u v) (hk : k + 5 ≤ 2562) : wpX_span (fun r u' => wpY_span (fun r' v' => r' = r ∧ i_Rel (k + 5) u' v') v) u := by
  obtain ⟨mo, p, lim, fu, fd, mb, rel, len, kin, due, wt, af, st, dl, lf, hd, pr, be, rfl, rfl, h, V⟩ := I
  have V' := V
  obtain ⟨v1, v2, B, v4, v5, hlk, ⟨rk, hrk⟩, g⟩ := V
  have g9 : sj_G p rel len kin due wt af sj_M0 9998 34 (sj_Fu p len) := sj_Gw (by omega) g
  refine sx_span B hlk.1 hrk (fun a ga na st' => ?_) g9
  unfold wpY_span
  dsimp only
  refine sy_solve0 B h hlk (fun be' fd' hv hf e1 e2 e3 e0 => ⟨?_, i_mk h V'⟩)
  rcases hf with ⟨-, n⟩ | ⟨d, hd1, e, z, n⟩
  · exact absurd g9 (n 34 (Nat.le_refl _))
  · rcases Nat.lt_trichotomy d a with q | q | q
    · exact absurd z (na d q)
    · rw [e, q]
    · exact absurd ga (n a q)
theorem i_vc_earliestFinish {k : Nat} {u : SX} {v : SY} (I : i_Rel k u v) (hk : k + 5 ≤ 2562) (v1 : Int32) : wpX_earliestFinish (fun r u' => wpY_earliestFinish (fun r' v' => r' = r ∧ i_Rel (k + 5) u' v') v v1) u v1 := by
  obtain ⟨mo, p, lim, fu, fd, mb, rel, len, kin, due, wt, af, st, dl, lf, hd, pr, be, rfl, rfl, h, V⟩ := I
  have V' := V
  obtain ⟨w1, w2, B, w4, w5, hlk, ⟨rk, hrk⟩, g⟩ := V
  unfold wpX_earliestFinish wpY_earliestFinish
  dsimp only
  by_cases q : sj_has p v1
  · obtain ⟨id, hid, rfl, a⟩ := q
    refine sx_presT B.1 hid a (br_f (by decide) ⟨33, sx_ef14 hid B hlk.1 hrk (sj_Gf33 B g) (fun f f1 f2 gf n s d l => ?_) 32 1 st dl lf (by omega) (by omega) (fun f' a1 a2 => absurd a2 (by omega))⟩)
    refine sy_thereT h hid a (br_f (by decide) ⟨35, sy_ef19 hid B h hlk w2 (fun x2 hx fu' fd' mb' be' => ⟨?_, i_mk h V'⟩) 34 (-2000) fu fd (-1) mb be (by omega) (Or.inl ⟨rfl, fun g a1 a2 => absurd a1 (by omega)⟩)⟩)
    rcases hx with ⟨-, n'⟩ | ⟨g', a1, a2, e, z, n'⟩
    · exact absurd gf (n' f (by omega) (by omega))
    · rcases Nat.lt_trichotomy g' f with w | w | w
      · exact absurd z (n g' (by omega) w)
      · rw [e, w]
      · exact absurd gf (n' f (by omega) w)
  · exact sx_presF B.1 q (br_t rfl (sy_thereF h q (br_t rfl ⟨rfl, i_mk h V'⟩)))
theorem i_vc_delay {k : Nat} {u : SX} {v : SY} (I : i_Rel k u v) (hk : k + 5 ≤ 2562) (v1 : Int32) : wpX_delay (fun r u' => wpY_delay (fun r' v' => r' = r ∧ i_Rel (k + 5) u' v') v v1) u v1 := by
  obtain ⟨mo, p, lim, fu, fd, mb, rel, len, kin, due, wt, af, st, dl, lf, hd, pr, be, rfl, rfl, h, V⟩ := I
  have V' := V
  obtain ⟨w1, w2, B, w4, w5, hlk, ⟨rk, hrk⟩, g⟩ := V
  unfold wpX_delay wpY_delay
  dsimp only
  by_cases q : sj_has p v1
  · obtain ⟨id, hid, rfl, a⟩ := q
    obtain ⟨er, lr⟩ := sj_Ne w4 (by omega) hid
    have vi : vp_in (nI id) 5 := vp_in_nI hid (by omega)
    have ci : (nI id).toNatClampNeg = id := nI_clamp (by omega)
    have e2 : rel (nI id).toNatClampNeg = nI (sj_N rel id) := by rw [ci]; exact er
    refine sx_presT B.1 hid a (br_f (by decide) ⟨vi, nm_r e2 ⟨10, sx_dl24 hid B hlk.1 hrk er lr (fun x hx s d l => ?_) 9 1 0 rel st dl lf (by omega) (by omega) (fun _ _ => rfl) (Or.inl ⟨rfl, fun g a1 a2 => absurd a2 (by omega)⟩)⟩⟩)
    refine sy_thereT h hid a (br_f (by decide) ⟨vi, nm_r e2 ⟨10, sy_dl24 hid B h hlk w2 er lr (fun x' hx' fu' fd' be' => ⟨sj_dIu hx hx', i_mk h V'⟩) 9 1 0 rel fu fd be (by omega) (by omega) (fun _ _ => rfl) (Or.inl ⟨rfl, fun g a1 a2 => absurd a2 (by omega)⟩)⟩⟩)
  · exact sx_presF B.1 q (br_t rfl (sy_thereF h q (br_t rfl ⟨rfl, i_mk h V'⟩)))
