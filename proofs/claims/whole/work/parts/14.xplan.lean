/-! ===== the component: is there a good plan ===== -/
section
variable {c b : Int32} {p : Nat} {rel len kin due wt af st dl lf : Nat → Int32}
theorem sj_cK (B : sj_bnd p rel len kin due wt) {j t : Nat} (hj : j < 5) (ht : t ≤ 60) : (sj_c32 (kin j) (due j) (wt j) (nI t)).toInt = sj_cost (sj_N kin j) (sj_N due j) (sj_N wt j) t := by
  obtain ⟨e1, l1⟩ := sj_Ne B.2.2.2.1 (by omega) hj
  obtain ⟨e2, l2⟩ := sj_Ne B.2.2.2.2.1 (by omega) hj
  obtain ⟨e3, l3⟩ := sj_Ne B.2.2.2.2.2.1 (by omega) hj
  rw [e1, e2, e3]
  exact sj_cI l1 l2 l3 ht
theorem sj_ltD (B : sj_bnd p rel len kin due wt) {bd : Int32} {j D : Nat} (hj : j < 5) (h : sj_lt kin due wt bd j D) : ∀ t, t < 33 → (sj_K kin due wt bd.toInt j (t + 1) ↔ (t : Int) + 1 ≤ (D : Int)) := by
  obtain ⟨h1, h2, h3⟩ := h
  refine sj_dl (sj_Ne B.2.2.2.2.2.1 (by omega) hj).2 ?_ (fun t a1 a2 z => h3 t a1 a2 ?_)
  · rcases h2 with e | e
    · exact Or.inl e
    · rw [sj_leI, sj_cK B hj (by omega)] at e
      exact Or.inr e
  · rw [sj_leI, sj_cK B hj (by omega)]
    exact z
theorem sx_met {post : Int32 → SX → Prop} {M K : Nat → Nat → Prop} (B : sj_bnd p rel len kin due wt) (haf : sj_le af 31) {rk : Nat → Nat} (hrk : sj_ord (sj_A p af) rk) {D : Nat → Nat} (hdl : ∀ j, j < 5 → dl j = nI (D j) ∧ D j ≤ 33)
    (hM : ∀ j t, j < 5 → p.testBit j = true → M j (t + 1) → M j t) (hK : ∀ j t, j < 5 → p.testBit j = true → K j (t + 2) → K j (t + 1))
    (hD : ∀ j t : Nat, j < 5 → p.testBit j = true → t < 33 → ((M j t ∧ K j (t + 1)) ↔ (t : Int) + 1 ≤ (D j : Int)))
    (k1 : sj_rc p.testBit (sj_N len) (sj_N rel) (sj_A p af) M K 34 (sj_Fu p len) → ∀ st' dl' lf', post 1 (c, b, nI p, rel, len, kin, due, wt, af, st', dl', lf'))
    (k0 : ¬ sj_rc p.testBit (sj_N len) (sj_N rel) (sj_A p af) M K 34 (sj_Fu p len) → ∀ st' dl' lf', post 0 (c, b, nI p, rel, len, kin, due, wt, af, st', dl', lf')) :
    wpX_deadlinesCanBeMet post (c, b, nI p, rel, len, kin, due, wt, af, st, dl, lf) := by
  obtain ⟨rk', h4, hrk'⟩ := sj_rk4 hrk
  obtain ⟨F, hF, hFu⟩ := sj_Fnat (R := sj_N rel) (L := sj_N len) hrk' h4 (U := 18) (fun j hj => (sj_Ne B.2.1 (by omega) hj).2) (fun i j hi hj _ => (sj_Ne B.2.2.1 (by omega) hi).2)
  have hrkb : sj_ord (fun i j => sj_A p af j i) (fun j => 4 - rk' j) := fun i j hi hj a => by
    have q := hrk' j i hj hi a
    have q2 := h4 i hi
    show 4 - rk' i < 4 - rk' j
    omega
  have h4b : ∀ j, j < 5 → (fun j => 4 - rk' j) j ≤ 4 := fun j _ => by show 4 - rk' j ≤ 4; omega
  have dI : ∀ j, j < 5 → (dl j).toInt = (D j : Int) := fun j hj => by
    obtain ⟨e, l⟩ := hdl j hj
    rw [e, nI_toInt (by omega)]
  have hE0 := sj_Fex (L := sj_N len) (B := fun j => - (dl j).toInt) hrkb h4b
  have upE := sj_fup (A := fun i j => sj_A p af j i) (L := sj_N len) (B := fun j => - (dl j).toInt) (U := 0) (fun j hj => by show - (dl j).toInt ≤ 0; rw [dI j hj]; omega) (fun i j hi hj _ => (sj_Ne B.2.2.1 (by omega) hi).2) 4
  have rI : ∀ j, j < 5 → (sj_N rel j : Int) = (rel j).toInt := fun j hj => by
    obtain ⟨e, l⟩ := sj_Ne B.2.1 (by omega) hj
    have q : (rel j).toInt = ((nI (sj_N rel j)).toInt) := congrArg Int32.toInt e
    rw [q, nI_toInt (by omega)]
  have hE : sj_isF (fun i j => sj_A p af j i) (sj_N len) (fun j => - (D j : Int)) (fun j => - (- sj_f (fun i j => sj_A p af j i) (sj_N len) (fun j => - (dl j).toInt) 4 j)) :=
    sj_isFc hE0 (fun j hj => by show - (dl j).toInt = - (D j : Int); rw [dI j hj]) (fun j _ => (Int.neg_neg _).symm)
  have I : sj_inst p.testBit (sj_N len) (sj_N rel) (sj_A p af) M K F (fun j => - sj_f (fun i j => sj_A p af j i) (sj_N len) (fun j => - (dl j).toInt) 4 j) :=
    sj_mk (sj_hL B) (fun j hj _ => (sj_Ne B.2.1 (by omega) hj).2) hM hK (fun i j _ _ a => ⟨(sj_At a).1, (sj_At a).2.1⟩) (fun j => (D j : Int)) (fun j hj => by have := (hdl j hj).2; show (D j : Int) ≤ 33; omega) hD hF hE
  unfold wpX_deadlinesCanBeMet
  dsimp only
  refine sx_starts (F := fun j => (F j : Int)) B.1 haf B.2.2.1 (sj_isFc hF rI (fun _ _ => rfl)) hrk' h4 (fun j hj => by rw [← rI j hj]; omega) (fun j hj => by have := hFu j hj; show (F j : Int) ≤ 200; omega) (fun st' hst' => ?_)
  refine sx_deadlines B.1 haf B.2.2.1 hE0 hrkb h4b (fun j hj => by have := (hdl j hj).2; rw [dI j hj]; omega) (fun j hj => by have := upE j hj; omega) (fun dl' hdl' => ?_)
  refine sx_muf B.1 I B.2.2.1 (fun j hj => ⟨?_, by have := hFu j hj; omega⟩) (fun j hj => ?_) (fun rc lf' => ⟨rfl, k1 rc st' dl' lf'⟩) (fun rc lf' => ⟨rfl, k0 rc st' dl' lf'⟩)
  · have q : (st' j).toInt = (F j : Int) := hst' j hj
    have := hFu j hj
    rw [sj_inI, q, nI_toInt (by omega)]
  · have q := hdl' j hj
    show (dl' j).toInt = - sj_f (fun i j => sj_A p af j i) (sj_N len) (fun j => - (dl j).toInt) 4 j
    omega
theorem sx_plan {post : Int32 → SX → Prop} (B : sj_bnd p rel len kin due wt) (haf : sj_le af 31) {rk : Nat → Nat} (hrk : sj_ord (sj_A p af) rk) {bd : Int32}
    (k1 : sj_G p rel len kin due wt af sj_M0 bd.toInt 34 (sj_Fu p len) → ∀ st' dl' lf', post 1 (c, b, nI p, rel, len, kin, due, wt, af, st', dl', lf'))
    (k0 : ¬ sj_G p rel len kin due wt af sj_M0 bd.toInt 34 (sj_Fu p len) → ∀ st' dl' lf', post 0 (c, b, nI p, rel, len, kin, due, wt, af, st', dl', lf')) :
    wpX_hasPlanWithin post (c, b, nI p, rel, len, kin, due, wt, af, st, dl, lf) bd := by
  unfold wpX_hasPlanWithin
  dsimp only
  refine sx_setDl (fun dl' hdl' => ?_)
  refine sx_met B haf hrk (M := sj_M0) (K := sj_K kin due wt bd.toInt) (D := sj_N dl') (fun j hj => ?_) (fun _ _ _ _ m => m) (fun j t hj _ q => sj_Km B hj q) (fun j t hj _ ht => ?_) (fun rc s d l => ⟨rfl, k1 rc s d l⟩) (fun rc s d l => ⟨rfl, k0 rc s d l⟩)
  · obtain ⟨D, e, h⟩ := hdl' j hj
    have h1 := h.1
    have q : sj_N dl' j = D := sj_NI e (by omega)
    rw [q]
    exact ⟨e, h1⟩
  · obtain ⟨D, e, h⟩ := hdl' j hj
    have h1 := h.1
    have q : sj_N dl' j = D := sj_NI e (by omega)
    rw [q, ← sj_ltD B hj h t ht]
    exact ⟨fun z => z.2, fun z => ⟨trivial, z⟩⟩
end
