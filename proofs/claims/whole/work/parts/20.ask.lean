/-! ===== jobs taken in by the reference ===== -/
def sj_cn (p c : Nat) : Nat := sj_S (fun k => if (decide (c ≤ k) && p.testBit k) = true then 1 else 0)
theorem sj_cn1 {p c : Nat} (hc : c < 5) (q : p.testBit c = true) : sj_cn p c = sj_cn p (c + 1) + 1 := by
  refine sj_Sinc hc (fun i hi ne => ?_) ?_
  · show (if (decide (c ≤ i) && p.testBit i) = true then 1 else 0) = (if (decide (c + 1 ≤ i) && p.testBit i) = true then 1 else 0)
    have e : decide (c ≤ i) = decide (c + 1 ≤ i) := decide_eq_decide.mpr (by omega)
    rw [e]
  · show (if (decide (c ≤ c) && p.testBit c) = true then 1 else 0) = (if (decide (c + 1 ≤ c) && p.testBit c) = true then 1 else 0) + 1
    rw [q]
    simp
theorem sj_cn0 {p c : Nat} (q : ¬ p.testBit c = true) : sj_cn p c = sj_cn p (c + 1) := by
  refine sj_Seq (fun i hi => ?_)
  by_cases e : i = c
  · subst e
    have : p.testBit i = false := by
      cases z : p.testBit i
      · rfl
      · exact absurd z q
    rw [this]
    simp
  · have e : decide (c ≤ i) = decide (c + 1 ≤ i) := decide_eq_decide.mpr (by omega)
    rw [e]
theorem sj_cnle (p c : Nat) : sj_cn p c ≤ 5 := by
  have : sj_cn p c ≤ sj_S (fun _ => 1) := sj_Sle (fun i _ => by show (if (decide (c ≤ i) && p.testBit i) = true then 1 else 0) ≤ 1; split <;> omega)
  exact this
def sj_b1 (p k : Nat) : Nat := if p.testBit k = true then 1 else 0
theorem sj_cnS (p : Nat) : sj_cn p 0 = sj_b1 p 0 + sj_b1 p 1 + sj_b1 p 2 + sj_b1 p 3 + sj_b1 p 4 := by
  have e : sj_cn p 0 = sj_S (sj_b1 p) := sj_Seq (fun i _ => by unfold sj_b1; simp)
  rw [e]
  rfl
theorem sj_b1t {p k : Nat} (h : p.testBit k = true) : sj_b1 p k = 1 := if_pos h
theorem sj_b1f {p k : Nat} (h : ¬ p.testBit k = true) : sj_b1 p k = 0 := if_neg h
theorem sj_b1l (p k : Nat) : sj_b1 p k ≤ 1 := by unfold sj_b1; split <;> omega
theorem sj_full {p mo : Nat} (h1 : 1 ≤ mo) (h5 : mo ≤ 5) (hlt : ∀ j, j < 5 → p.testBit j = true → j < mo) : (∀ j, j < mo → p.testBit j = true) ↔ mo ≤ sj_cn p 0 := by
  rw [sj_cnS]
  have c : mo = 1 ∨ mo = 2 ∨ mo = 3 ∨ mo = 4 ∨ mo = 5 := by omega
  constructor
  · intro h
    rcases c with rfl | rfl | rfl | rfl | rfl
    · rw [sj_b1t (h 0 (by omega))]; omega
    · rw [sj_b1t (h 0 (by omega)), sj_b1t (h 1 (by omega))]; omega
    · rw [sj_b1t (h 0 (by omega)), sj_b1t (h 1 (by omega)), sj_b1t (h 2 (by omega))]; omega
    · rw [sj_b1t (h 0 (by omega)), sj_b1t (h 1 (by omega)), sj_b1t (h 2 (by omega)), sj_b1t (h 3 (by omega))]; omega
    · rw [sj_b1t (h 0 (by omega)), sj_b1t (h 1 (by omega)), sj_b1t (h 2 (by omega)), sj_b1t (h 3 (by omega)), sj_b1t (h 4 (by omega))]; omega
  · intro h j hj
    apply Classical.byContradiction
    intro n
    have z := sj_b1f n
    have hi : ∀ k, k < 5 → mo ≤ k → sj_b1 p k = 0 := fun k hk hm => sj_b1f (fun q => by have := hlt k hk q; omega)
    have l0 := sj_b1l p 0
    have l1 := sj_b1l p 1
    have l2 := sj_b1l p 2
    have l3 := sj_b1l p 3
    have l4 := sj_b1l p 4
    rcases c with rfl | rfl | rfl | rfl | rfl
    · have k1 := hi 1 (by omega) (by omega)
      have k2 := hi 2 (by omega) (by omega)
      have k3 := hi 3 (by omega) (by omega)
      have k4 := hi 4 (by omega) (by omega)
      rcases sj_c5 (j := j) (by omega) with rfl | rfl | rfl | rfl | rfl <;> omega
    · have k2 := hi 2 (by omega) (by omega)
      have k3 := hi 3 (by omega) (by omega)
      have k4 := hi 4 (by omega) (by omega)
      rcases sj_c5 (j := j) (by omega) with rfl | rfl | rfl | rfl | rfl <;> omega
    · have k3 := hi 3 (by omega) (by omega)
      have k4 := hi 4 (by omega) (by omega)
      rcases sj_c5 (j := j) (by omega) with rfl | rfl | rfl | rfl | rfl <;> omega
    · have k4 := hi 4 (by omega) (by omega)
      rcases sj_c5 (j := j) (by omega) with rfl | rfl | rfl | rfl | rfl <;> omega
    · rcases sj_c5 (j := j) (by omega) with rfl | rfl | rfl | rfl | rfl <;> omega
section
variable {lim fu fd mb : Int32} {p mo : Nat} {hd rel len kin due wt af pr be : Nat → Int32}
theorem sy_take9 {post : Int32 → SY → Prop} (B : sj_bnd p rel len kin due wt) (h : sj_hd p hd) (hlk : sj_lk p af pr) (hlim : -200 ≤ lim.toInt ∧ lim.toInt ≤ 1000) (hm1 : 1 ≤ mo) (hmo : mo ≤ 5) (hlt : ∀ j, j < 5 → p.testBit j = true → j < mo) {rn pn kn dn : Nat} (h1 : rn ≤ 9) (h2 : 1 ≤ pn ∧ pn ≤ 3) (h3 : kn ≤ 3) (h4 : dn ≤ 30)
    (kF : (∀ j, j < mo → p.testBit j = true) → post (-2) (nI mo, lim, fu, fd, -1, mb, hd, rel, len, kin, due, wt, pr, be))
    (kG : ∀ e, e < mo → ¬ p.testBit e = true → (∀ j, j < e → p.testBit j = true) → sj_G (sj_ad p e) (upd rel e (nI rn)) (upd len e (nI pn)) (upd kin e (nI kn)) (upd due e (nI dn)) (upd wt e (nI 1)) af sj_M0 lim.toInt 34 (sj_Fu (sj_ad p e) (upd len e (nI pn))) →
      ∀ fu' fd' be', post (nI e) (nI mo, lim, fu', fd', -1, mb, upd hd e 1, upd rel e (nI rn), upd len e (nI pn), upd kin e (nI kn), upd due e (nI dn), upd wt e (nI 1), upd pr e (nI 0), be'))
    (kR : ∀ e, e < mo → ¬ p.testBit e = true → (∀ j, j < e → p.testBit j = true) → ¬ sj_G (sj_ad p e) (upd rel e (nI rn)) (upd len e (nI pn)) (upd kin e (nI kn)) (upd due e (nI dn)) (upd wt e (nI 1)) af sj_M0 lim.toInt 34 (sj_Fu (sj_ad p e) (upd len e (nI pn))) →
      ∀ fu' fd' be', post (-3) (nI mo, lim, fu', fd', -1, mb, upd (upd hd e 1) e 0, upd rel e (nI rn), upd len e (nI pn), upd kin e (nI kn), upd due e (nI dn), upd wt e (nI 1), upd pr e (nI 0), be')) :
    ∀ c e, c ≤ 5 → ((e = 5 ∧ ∀ k, c ≤ k → k < 5 → p.testBit k = true) ∨ (e < 5 ∧ c ≤ e ∧ ¬ p.testBit e = true ∧ ∀ k, c ≤ k → k < e → p.testBit k = true)) →
      wY_take_9 post (nI rn) (nI pn) (nI kn) (nI dn) (nI mo) lim fu fd (-1) mb hd rel len kin due wt pr be (c + 1) (nI (sj_cn p c)) (nI e) (sj_dn c) := by
  intro c
  induction c with
  | zero =>
    intro e _ he
    have fl := sj_full hm1 hmo hlt
    have cl := sj_cnle p 0
    refine br_t (by decide) ?_
    by_cases q : mo ≤ sj_cn p 0
    · exact br_t (nI_le q (by omega)) (kF (fl.mpr q))
    · have nf : ¬ ∀ j, j < mo → p.testBit j = true := fun z => q (fl.mp z)
      rcases he with ⟨-, he⟩ | ⟨he5, -, hn, he⟩
      · exact absurd (fun j hj => he j (by omega) (by omega)) nf
      · have hem : e < mo := by
          rcases Nat.lt_or_ge e mo with w | w
          · exact w
          · exact absurd (fun j hj => he j (by omega) (by omega)) nf
        have hlow : ∀ j, j < e → p.testBit j = true := fun j hj => he j (by omega) hj
        have ve : vp_in (nI e) 5 := vp_in_nI he5 (by omega)
        have ce : (nI e).toNatClampNeg = e := nI_clamp (by omega)
        refine br_f (nI_ge (by omega) (by omega)) (br_t (nI_lt (b := 5) he5 (by decide)) ?_)
        rw [ce]
        refine ⟨ve, nm_e ⟨ve, nm_e ⟨ve, nm_e ⟨ve, nm_e ⟨ve, nm_e ⟨ve, nm_e ⟨ve, nm_e ?_⟩⟩⟩⟩⟩⟩⟩
        refine sy_good0 (af := af) (sj_bndA B he5 h1 h2 h3 h4) (sj_hdA B.1 he5 h) (sj_lkA B.1 he5 hn hlk) hlim (fun g fu' fd' be' => ?_) (fun g fu' fd' be' => ?_)
        · exact br_f (by decide) (kG e hem hn hlow g fu' fd' be')
        · exact br_t rfl ⟨ve, nm_e (kR e hem hn hlow g fu' fd' be')⟩
  | succ c ih =>
    intro e hc he
    have hc5 : c < 5 := by omega
    have vc : vp_in (nI c) 5 := vp_in_nI hc5 (by omega)
    have cc : (nI c).toNatClampNeg = c := nI_clamp (by omega)
    refine br_f (nI_pos (by omega)) ⟨vc, ?_⟩
    show (hd (nI c).toNatClampNeg = 0 → _) ∧ (¬ hd (nI c).toNatClampNeg = 0 → _)
    rw [cc]
    by_cases q : p.testBit c = true
    · refine br_f (sj_hd1 h hc5 q) ?_
      unfold wY_take_31
      refine nm_r (e' := nI (sj_cn p c)) (by rw [sj_cn1 hc5 q, nI_1]) ⟨vc, ?_⟩
      show (hd (nI c).toNatClampNeg = 0 → _) ∧ (¬ hd (nI c).toNatClampNeg = 0 → _)
      rw [cc]
      refine br_f (sj_hd1 h hc5 q) (nm_r (sj_dn1 c) (ih e (by omega) ?_))
      rcases he with ⟨he1, he⟩ | ⟨he5, hce, hn, he⟩
      · refine Or.inl ⟨he1, fun k h1 h2 => ?_⟩
        by_cases z : k = c
        · subst z; exact q
        · exact he k (by omega) h2
      · refine Or.inr ⟨he5, by omega, hn, fun k h1 h2 => ?_⟩
        by_cases z : k = c
        · subst z; exact q
        · exact he k (by omega) h2
    · refine br_t (sj_hd0 h hc5 q) ?_
      unfold wY_take_31
      refine nm_r (e' := nI (sj_cn p c)) (by rw [sj_cn0 q, Int32.add_zero]) ⟨vc, ?_⟩
      show (hd (nI c).toNatClampNeg = 0 → _) ∧ (¬ hd (nI c).toNatClampNeg = 0 → _)
      rw [cc]
      exact br_t (sj_hd0 h hc5 q) (nm_r (sj_dn1 c) (ih c (by omega) (Or.inr ⟨hc5, Nat.le_refl _, q, fun k h1 h2 => absurd h2 (by omega)⟩)))
theorem sy_take {post : Int32 → SY → Prop} (B : sj_bnd p rel len kin due wt) (h : sj_hd p hd) (hlk : sj_lk p af pr) (hlim : -200 ≤ lim.toInt ∧ lim.toInt ≤ 1000) (hm1 : 1 ≤ mo) (hmo : mo ≤ 5) (hlt : ∀ j, j < 5 → p.testBit j = true → j < mo) {rn pn kn dn : Nat} (h1 : rn ≤ 9) (h2 : 1 ≤ pn ∧ pn ≤ 3) (h3 : kn ≤ 3) (h4 : dn ≤ 30)
    (kF : (∀ j, j < mo → p.testBit j = true) → post (-2) (nI mo, lim, fu, fd, -1, mb, hd, rel, len, kin, due, wt, pr, be))
    (kG : ∀ e, e < mo → ¬ p.testBit e = true → (∀ j, j < e → p.testBit j = true) → sj_G (sj_ad p e) (upd rel e (nI rn)) (upd len e (nI pn)) (upd kin e (nI kn)) (upd due e (nI dn)) (upd wt e (nI 1)) af sj_M0 lim.toInt 34 (sj_Fu (sj_ad p e) (upd len e (nI pn))) →
      ∀ fu' fd' be', post (nI e) (nI mo, lim, fu', fd', -1, mb, upd hd e 1, upd rel e (nI rn), upd len e (nI pn), upd kin e (nI kn), upd due e (nI dn), upd wt e (nI 1), upd pr e (nI 0), be'))
    (kR : ∀ e, e < mo → ¬ p.testBit e = true → (∀ j, j < e → p.testBit j = true) → ¬ sj_G (sj_ad p e) (upd rel e (nI rn)) (upd len e (nI pn)) (upd kin e (nI kn)) (upd due e (nI dn)) (upd wt e (nI 1)) af sj_M0 lim.toInt 34 (sj_Fu (sj_ad p e) (upd len e (nI pn))) →
      ∀ fu' fd' be', post (-3) (nI mo, lim, fu', fd', -1, mb, upd (upd hd e 1) e 0, upd rel e (nI rn), upd len e (nI pn), upd kin e (nI kn), upd due e (nI dn), upd wt e (nI 1), upd pr e (nI 0), be')) :
    wpY_take post (nI mo, lim, fu, fd, -1, mb, hd, rel, len, kin, due, wt, pr, be) (nI rn) (nI pn) (nI kn) (nI dn) :=
  ⟨6, sy_take9 B h hlk hlim hm1 hmo hlt h1 h2 h3 h4 kF kG kR 5 5 (by omega) (Or.inl ⟨rfl, fun k h1 h2 => absurd h2 (by omega)⟩)⟩
end
