/-! ===== the relation, and what keeps it ===== -/
theorem sj_VA {mo p e : Nat} {lim : Int32} {rel len kin due wt af pr : Nat → Int32} (V : sj_V mo lim p rel len kin due wt af pr) (he : e < mo) (hn : ¬ p.testBit e = true) {rn pn kn dn : Nat} (h1 : rn ≤ 9) (h2 : 1 ≤ pn ∧ pn ≤ 3) (h3 : kn ≤ 3) (h4 : dn ≤ 30)
    (g : sj_G (sj_ad p e) (upd rel e (nI rn)) (upd len e (nI pn)) (upd kin e (nI kn)) (upd due e (nI dn)) (upd wt e (nI 1)) af sj_M0 lim.toInt 34 (sj_Fu (sj_ad p e) (upd len e (nI pn)))) :
    sj_V mo lim (sj_ad p e) (upd rel e (nI rn)) (upd len e (nI pn)) (upd kin e (nI kn)) (upd due e (nI dn)) (upd wt e (nI 1)) af (upd pr e (nI 0)) := by
  obtain ⟨v1, v2, B, v4, v5, v6, ⟨rk, v7⟩, v8⟩ := V
  have he5 : e < 5 := by omega
  refine ⟨v1, v2, sj_bndA B he5 h1 h2 h3 h4, sj_leU v4 h1, fun j hj q => ?_, sj_lkA B.1 he5 hn v6, ⟨rk, sj_ordA v6 v7⟩, g⟩
  rw [sj_ad2 p B.1 e he5 j hj, Bool.or_eq_true, decide_eq_true_eq] at q
  rcases q with q | q
  · exact v5 j hj q
  · omega
theorem sj_VB {mo p e : Nat} {lim : Int32} {rel len kin due wt af pr : Nat → Int32} (V : sj_V mo lim p rel len kin due wt af pr) (hn : ¬ p.testBit e = true) {rn pn kn dn : Nat} (h1 : rn ≤ 9) (h2 : 1 ≤ pn ∧ pn ≤ 3) (h3 : kn ≤ 3) (h4 : dn ≤ 30) :
    sj_V mo lim p (upd rel e (nI rn)) (upd len e (nI pn)) (upd kin e (nI kn)) (upd due e (nI dn)) (upd wt e (nI 1)) af (upd pr e (nI 0)) := by
  obtain ⟨v1, v2, B, v4, v5, v6, v7, v8⟩ := V
  exact ⟨v1, v2, sj_bndB B hn h1 h2 h3 h4, sj_leU v4 h1, v5, sj_lkB hn v6, v7, sj_Gst hn v8⟩
theorem sj_hdB {p e : Nat} {hd : Nat → Int32} (hn : ¬ p.testBit e = true) (h : sj_hd p hd) : sj_hd p (upd (upd hd e 1) e 0) := by
  intro j hj
  by_cases z : j = e
  · subst z
    rw [sj_us, if_neg hn]
  · rw [sj_un z, sj_un z, h j hj]
theorem sj_Vl {mo p i j : Nat} {lim : Int32} {rel len kin due wt af pr : Nat → Int32} (V : sj_V mo lim p rel len kin due wt af pr) (hi : i < 5) (hj : j < 5) (a1 : p.testBit i = true) (a2 : p.testBit j = true) (cc : ¬ sj_C (sj_A p af) j i)
    (g : sj_G p rel len kin due wt (sj_af1 af i j) sj_M0 lim.toInt 34 (sj_Fu p len)) : sj_V mo lim p rel len kin due wt (sj_af1 af i j) (sj_af1 pr j i) := by
  obtain ⟨v1, v2, B, v4, v5, v6, ⟨rk, v7⟩, v8⟩ := V
  refine ⟨v1, v2, B, v4, v5, sj_lk1 v6 hi hj a1 a2, sj_rknew (A' := sj_A p (sj_af1 af i j)) v7 cc (fun x y hx hy z => ?_), g⟩
  obtain ⟨z1, z2, z3⟩ := sj_At z
  rw [sj_af1b v6.1 hi hj hy] at z3
  simp at z3
  rcases z3 with z3 | z3
  · exact Or.inl (sj_hb v6 x y hx hy z3)
  · exact Or.inr z3
theorem sj_Vu {mo p i j : Nat} {lim : Int32} {rel len kin due wt af pr : Nat → Int32} (V : sj_V mo lim p rel len kin due wt af pr) (hi : i < 5) (hj : j < 5) : sj_V mo lim p rel len kin due wt (sj_af0 af i j) (sj_af0 pr j i) := by
  obtain ⟨v1, v2, B, v4, v5, v6, ⟨rk, v7⟩, v8⟩ := V
  have sub : ∀ x y, x < 5 → y < 5 → sj_A p (sj_af0 af i j) x y = true → sj_A p af x y = true := by
    intro x y hx hy z
    obtain ⟨z1, z2, z3⟩ := sj_At z
    rw [sj_af0b v6.1 hi hj hy] at z3
    simp at z3
    exact sj_hb v6 x y hx hy z3.1
  exact ⟨v1, v2, B, v4, v5, sj_lk0 v6 hi hj, ⟨rk, fun x y hx hy z => v7 x y hx hy (sub x y hx hy z)⟩, sj_Gmono (fun _ _ _ => Nat.le_refl _) sub (fun _ _ _ _ m => m) (fun _ _ _ _ k => k) (fun _ _ _ => rfl) v8⟩
/-- a job gone with its links -/
def sj_gone (af af' : Nat → Int32) (id : Nat) : Prop := sj_le af' 31 ∧ ∀ x y, x < 5 → y < 5 → (sj_N af' x).testBit y = ((sj_N af x).testBit y && !(decide (x = id)) && !(decide (y = id)))
def sj_goneY (pr pr' : Nat → Int32) (id : Nat) : Prop := sj_le pr' 31 ∧ ∀ x y, x < 5 → y < 5 → (sj_N pr' x).testBit y = ((sj_N pr x).testBit y && !(decide (y = id)))
theorem sj_Vr {mo p id : Nat} {lim : Int32} {rel len kin due wt af pr af' pr' : Nat → Int32} (V : sj_V mo lim p rel len kin due wt af pr) (hid : id < 5) (ha : sj_gone af af' id) (hb : sj_goneY pr pr' id) : sj_V mo lim (sj_cl p id) rel len kin due wt af' pr' := by
  obtain ⟨v1, v2, B, v4, v5, v6, ⟨rk, v7⟩, v8⟩ := V
  have bt : ∀ j, j < 5 → (sj_cl p id).testBit j = true → p.testBit j = true ∧ j ≠ id := by
    intro j hj q
    rw [sj_cl2 p B.1 id hid j hj] at q
    simp at q
    exact q
  have sub : ∀ x y, x < 5 → y < 5 → sj_A (sj_cl p id) af' x y = true → sj_A p af x y = true := by
    intro x y hx hy z
    obtain ⟨z1, z2, z3⟩ := sj_At z
    rw [ha.2 x y hx hy] at z3
    simp at z3
    exact sj_hb v6 x y hx hy z3.1.1
  refine ⟨v1, v2, sj_bndc B hid, v4, fun j hj q => v5 j hj (bt j hj q).1, ⟨ha.1, hb.1, fun x y hx hy z => ?_, fun x y hx hy q => ?_⟩, ⟨rk, fun x y hx hy z => v7 x y hx hy (sub x y hx hy z)⟩, sj_Grem B hid sub v8⟩
  · rw [ha.2 x y hx hy] at z
    simp at z
    obtain ⟨p1, p2⟩ := v6.2.2.1 x y hx hy z.1.1
    rw [sj_cl2 p B.1 id hid x hx, sj_cl2 p B.1 id hid y hy, p1, p2]
    simp [z.1.2, z.2]
  · obtain ⟨q1, q2⟩ := bt y hy q
    rw [ha.2 x y hx hy, hb.2 y x hy hx, v6.2.2.2 x y hx hy q1]
    simp [q2]
/-- another rule for a job -/
theorem sj_bndR {p : Nat} {rel len kin due wt : Nat → Int32} (B : sj_bnd p rel len kin due wt) {id kn dn wn : Nat} (h3 : kn ≤ 3) (h4 : dn ≤ 30) (h5 : wn ≤ 5) : sj_bnd p rel len (upd kin id (nI kn)) (upd due id (nI dn)) (upd wt id (nI wn)) :=
  ⟨B.1, B.2.1, B.2.2.1, sj_leU B.2.2.2.1 h3, sj_leU B.2.2.2.2.1 h4, sj_leU B.2.2.2.2.2.1 h5, B.2.2.2.2.2.2⟩
theorem sj_Vs {mo p : Nat} {lim : Int32} {rel len kin due wt af pr : Nat → Int32} (V : sj_V mo lim p rel len kin due wt af pr) {id kn dn wn : Nat} (h3 : kn ≤ 3) (h4 : dn ≤ 30) (h5 : wn ≤ 5)
    (g : sj_G p rel len (upd kin id (nI kn)) (upd due id (nI dn)) (upd wt id (nI wn)) af sj_M0 lim.toInt 34 (sj_Fu p len)) : sj_V mo lim p rel len (upd kin id (nI kn)) (upd due id (nI dn)) (upd wt id (nI wn)) af pr := by
  obtain ⟨v1, v2, B, v4, v5, v6, v7, v8⟩ := V
  exact ⟨v1, v2, sj_bndR B h3 h4 h5, v4, v5, v6, v7, g⟩
/-- both states between calls: the same jobs, rules and links -/
def i_Rel (_ : Nat) (u : SX) (v : SY) : Prop := ∃ (mo p : Nat) (lim fu fd mb : Int32) (rel len kin due wt af st dl lf hd pr be : Nat → Int32),
  u = (nI mo, lim, nI p, rel, len, kin, due, wt, af, st, dl, lf) ∧ v = (nI mo, lim, fu, fd, -1, mb, hd, rel, len, kin, due, wt, pr, be) ∧ sj_hd p hd ∧ sj_V mo lim p rel len kin due wt af pr
theorem i_mk {k mo p : Nat} {lim fu fd mb : Int32} {rel len kin due wt af st dl lf hd pr be : Nat → Int32} (h : sj_hd p hd) (V : sj_V mo lim p rel len kin due wt af pr) :
    i_Rel k (nI mo, lim, nI p, rel, len, kin, due, wt, af, st, dl, lf) (nI mo, lim, fu, fd, -1, mb, hd, rel, len, kin, due, wt, pr, be) :=
  ⟨mo, p, lim, fu, fd, mb, rel, len, kin, due, wt, af, st, dl, lf, hd, pr, be, rfl, rfl, h, V⟩
theorem i_up {k : Nat} {u : SX} {v : SY} (h : i_Rel k u v) : i_Rel (k + 5) u v := h
/-! ===== a new object ===== -/
def sj_cp (x lo hi : Int32) : Int32 := if lo ≤ x then (if x ≤ hi then x else hi) else lo
theorem sx_clamp {post : Int32 → Prop} {x lo hi : Int32} (k : post (sj_cp x lo hi)) : wpX_clamp post x lo hi := by
  unfold sj_cp at k
  by_cases h1 : lo ≤ x
  · rw [if_pos h1] at k
    by_cases h2 : x ≤ hi
    · rw [if_pos h2] at k
      exact br_t h1 (br_t h2 k)
    · rw [if_neg h2] at k
      exact br_t h1 (br_f h2 k)
  · rw [if_neg h1] at k
    exact br_f h1 k
theorem sy_init {post : SY → Prop} {x y : Int32} (k : post (sj_cp x 1 5, sj_cp y (-200) 1000, 0, 0, -1, 0, fun _ => 0, fun _ => 0, fun _ => 0, fun _ => 0, fun _ => 0, fun _ => 0, fun _ => 0, fun _ => 0)) : wpY_init post x y := by
  have g : ∀ z0 : Int32, z0 = sj_cp x 1 5 → wY_init_87 post y z0 0 0 0 0 (-1) 0 (fun _ => 0) (fun _ => 0) (fun _ => 0) (fun _ => 0) (fun _ => 0) (fun _ => 0) (fun _ => 0) (fun _ => 0) := by
    intro z0 e
    rw [e]
    unfold wY_init_87
    unfold sj_cp at k ⊢
    by_cases h1 : -200 ≤ y
    · rw [if_pos h1] at k
      by_cases h2 : y ≤ 1000
      · rw [if_pos h2] at k
        exact br_t h1 (br_t h2 k)
      · rw [if_neg h2] at k
        exact br_t h1 (br_f h2 k)
    · rw [if_neg h1] at k
      exact br_f h1 k
  by_cases h1 : 1 ≤ x
  · by_cases h2 : x ≤ 5
    · exact br_t h1 (br_t h2 (g x (by unfold sj_cp; rw [if_pos h1, if_pos h2])))
    · exact br_t h1 (br_f h2 (g 5 (by unfold sj_cp; rw [if_pos h1, if_neg h2])))
  · exact br_f h1 (g 1 (by unfold sj_cp; rw [if_neg h1]))
theorem sj_cp15 (x : Int32) : ∃ m, 1 ≤ m ∧ m ≤ 5 ∧ sj_cp x 1 5 = nI m := by
  unfold sj_cp
  by_cases h1 : 1 ≤ x
  · by_cases h2 : x ≤ 5
    · rw [if_pos h1, if_pos h2]
      have e1 : (1 : Int32).toInt = 1 := by decide
      have e5 : (5 : Int32).toInt = 5 := by decide
      rw [sj_leI] at h1 h2
      refine ⟨x.toInt.toNat, by omega, by omega, ?_⟩
      rw [sj_inI, nI_toInt (by omega)]
      omega
    · rw [if_pos h1, if_neg h2]
      exact ⟨5, by omega, by omega, rfl⟩
  · rw [if_neg h1]
    exact ⟨1, by omega, by omega, rfl⟩
theorem sj_cpl (x : Int32) : -200 ≤ (sj_cp x (-200) 1000).toInt ∧ (sj_cp x (-200) 1000).toInt ≤ 1000 := by
  have e1 : (-200 : Int32).toInt = -200 := by decide
  have e5 : (1000 : Int32).toInt = 1000 := by decide
  unfold sj_cp
  by_cases h1 : -200 ≤ x
  · by_cases h2 : x ≤ 1000
    · rw [if_pos h1, if_pos h2]
      rw [sj_leI] at h1 h2
      omega
    · rw [if_pos h1, if_neg h2]
      omega
  · rw [if_neg h1]
    omega
theorem sj_V0 {mo : Nat} {lim : Int32} (h1 : 1 ≤ mo ∧ mo ≤ 5) (h2 : -200 ≤ lim.toInt ∧ lim.toInt ≤ 1000) : sj_V mo lim 0 (fun _ => 0) (fun _ => 0) (fun _ => 0) (fun _ => 0) (fun _ => 0) (fun _ => 0) (fun _ => 0) := by
  have nb : ∀ j, ¬ (0 : Nat).testBit j = true := fun j z => by rw [Nat.zero_testBit] at z; exact absurd z (by decide)
  have nz : ∀ i j, ¬ (sj_N (fun _ => 0) i).testBit j = true := fun i j z => nb j z
  refine ⟨h1, h2, ⟨by omega, sj_le0 _, sj_le0 _, sj_le0 _, sj_le0 _, sj_le0 _, fun j _ q => absurd q (nb j)⟩, sj_le0 _, fun j _ q => absurd q (nb j), ⟨sj_le0 _, sj_le0 _, fun i j _ _ q => absurd q (nz i j), fun i j _ _ q => absurd q (nb j)⟩, ⟨fun _ => 0, fun i j _ _ a => absurd (sj_At a).1 (nb i)⟩, ?_⟩
  rw [sj_Fu0 (by omega) rfl]
  exact sj_upto (t := 0) (by omega) rfl
theorem i_vc0 (k0 : Int32) (k1 : Int32) : wpX_init (fun u => wpY_init (fun v => i_Rel 2 u v) k0 k1) k0 k1 := by
  refine sx_clamp (sx_clamp (sy_init ?_))
  obtain ⟨m, m1, m5, e⟩ := sj_cp15 k0
  rw [e]
  exact i_mk (p := 0) (fun j _ => by rw [Nat.zero_testBit]; rfl) (sj_V0 ⟨m1, m5⟩ (sj_cpl k1))
