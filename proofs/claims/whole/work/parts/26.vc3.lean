/-! ===== links ===== -/
theorem i_vc_link {k : Nat} {u : SX} {v : SY} (I : i_Rel k u v) (hk : k + 5 ≤ 2562) (v1 : Int32) (v2 : Int32) : wpX_link (fun r u' => wpY_link (fun r' v' => r' = r ∧ i_Rel (k + 5) u' v') v v1 v2) u v1 v2 := by
  obtain ⟨mo, p, lim, fu, fd, mb, rel, len, kin, due, wt, af, st, dl, lf, hd, pr, be, rfl, rfl, h, V⟩ := I
  have V' := V
  obtain ⟨w1, w2, B, w4, w5, hlk, ⟨rk, hrk⟩, g⟩ := V
  unfold wpX_link
  dsimp only
  refine sx_judge B hlk.1 (sj_hb hlk) hrk (fun hB => ?_) (fun i j hi hj e1 e2 ne a => ?_) (fun i j hi hj e1 e2 ne a1 a2 a cc => ?_) (fun i j hi hj e1 e2 ne a1 a2 a cc gg s d l => ?_) (fun i j hi hj e1 e2 ne a1 a2 a cc gg s d l => ?_)
  · exact br_f (by decide) (sy_mkB h hB ⟨rfl, i_mk h V'⟩)
  · subst e1 e2
    have vi : vp_in (nI i) 5 := vp_in_nI hi (by omega)
    exact br_t rfl ⟨vi, vi, nm_r ((sj_af1e hlk.1 hi hj).trans (sj_af1id hlk.1 hi hj (sj_At a).2.2)) (sy_mkO h hlk hi hj ne a ⟨rfl, i_mk h V'⟩)⟩
  · subst e1 e2
    exact br_f (by decide) (sy_mkC h hlk hrk hi hj ne a1 a2 a cc ⟨rfl, i_mk h V'⟩)
  · subst e1 e2
    have vi : vp_in (nI i) 5 := vp_in_nI hi (by omega)
    exact br_t rfl ⟨vi, vi, nm_r (sj_af1e hlk.1 hi hj) (sy_mkG B w2 h hlk hrk hi hj ne a1 a2 a cc (fun _ fu' fd' be' => ⟨rfl, i_mk h (sj_Vl V' hi hj a1 a2 cc gg)⟩) (fun n => absurd gg n))⟩
  · subst e1 e2
    exact br_f (by decide) (sy_mkG B w2 h hlk hrk hi hj ne a1 a2 a cc (fun z => absurd z gg) (fun _ fu' fd' be' => ⟨rfl, i_mk h V'⟩))
theorem i_vc_couldPrecede {k : Nat} {u : SX} {v : SY} (I : i_Rel k u v) (hk : k + 5 ≤ 2562) (v1 : Int32) (v2 : Int32) : wpX_couldPrecede (fun r u' => wpY_couldPrecede (fun r' v' => r' = r ∧ i_Rel (k + 5) u' v') v v1 v2) u v1 v2 := by
  obtain ⟨mo, p, lim, fu, fd, mb, rel, len, kin, due, wt, af, st, dl, lf, hd, pr, be, rfl, rfl, h, V⟩ := I
  have V' := V
  obtain ⟨w1, w2, B, w4, w5, hlk, ⟨rk, hrk⟩, g⟩ := V
  unfold wpX_couldPrecede wpY_couldPrecede
  dsimp only
  refine sx_judge B hlk.1 (sj_hb hlk) hrk (fun hB => ?_) (fun i j hi hj e1 e2 ne a => ?_) (fun i j hi hj e1 e2 ne a1 a2 a cc => ?_) (fun i j hi hj e1 e2 ne a1 a2 a cc gg s d l => ?_) (fun i j hi hj e1 e2 ne a1 a2 a cc gg s d l => ?_)
  · refine br_f (by decide) ?_
    by_cases q : sj_lkd p af v1 v2
    · have q' := q
      obtain ⟨i, j, hi, hj, e1, e2, a⟩ := q'
      subst e1 e2
      exact sy_linkT h hlk hi hj a (sy_mkB h hB (br_f (by decide) (br_f (by decide) ⟨rfl, i_mk h V'⟩)))
    · exact sy_linkF h hlk q (sy_mkB h hB (br_f (by decide) (br_f (by decide) ⟨rfl, i_mk h V'⟩)))
  · subst e1 e2
    exact br_t rfl (sy_linkT h hlk hi hj a (sy_mkO h hlk hi hj ne a (br_t rfl (br_f (by decide) (br_t rfl ⟨rfl, i_mk h V'⟩)))))
  · subst e1 e2
    exact br_f (by decide) (sy_linkF h hlk (fun z => a ((sj_lkdn hi hj).mp z)) (sy_mkC h hlk hrk hi hj ne a1 a2 a cc (br_f (by decide) (br_f (by decide) ⟨rfl, i_mk h V'⟩))))
  · subst e1 e2
    have vj : vp_in (nI j) 5 := vp_in_nI hj (by omega)
    have lk1 := sj_lk1 hlk hi hj a1 a2
    have nb : ¬ (sj_N pr j).testBit i = true := fun z => by
      rw [hlk.2.2.2 i j hi hj a2] at z
      exact a (sj_hb hlk i j hi hj z)
    have aa : sj_A p (sj_af1 af i j) i j = true := by
      unfold sj_A
      rw [a1, a2, sj_af1b hlk.1 hi hj hj]
      simp
    have rest : upd (sj_af1 pr j i) (nI j).toNatClampNeg (sj_af1 pr j i (nI j).toNatClampNeg &&& (((1 : Int32) <<< (nI i &&& 31)) ^^^ (-1))) = pr := by
      rw [sj_af0e (sj_af1l hlk.2.1 hj hi) hj hi, sj_af01 hlk.2.1 hj hi nb]
    refine br_t rfl (sy_linkF h hlk (fun z => a ((sj_lkdn hi hj).mp z)) (sy_mkG B w2 h hlk hrk hi hj ne a1 a2 a cc (fun _ fu' fd' be' => br_t rfl (br_t rfl ?_)) (fun n => absurd gg n)))
    unfold wpY_unlink
    dsimp only
    exact sy_linkT h lk1 hi hj aa (br_f (by decide) ⟨vj, vj, nm_r rest (br_t rfl ⟨rfl, i_mk h V'⟩)⟩)
  · subst e1 e2
    exact br_f (by decide) (sy_linkF h hlk (fun z => a ((sj_lkdn hi hj).mp z)) (sy_mkG B w2 h hlk hrk hi hj ne a1 a2 a cc (fun z => absurd z gg) (fun _ fu' fd' be' => br_f (by decide) (br_f (by decide) ⟨rfl, i_mk h V'⟩))))
