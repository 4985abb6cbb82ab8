/-! ===== links made by the reference; jobs taken in ===== -/
theorem sj_hb {p : Nat} {af pr : Nat → Int32} (h : sj_lk p af pr) : ∀ i k, i < 5 → k < 5 → (sj_N af i).testBit k = true → sj_A p af i k = true := by
  intro i k hi hk z
  obtain ⟨a1, a2⟩ := h.2.2.1 i k hi hk z
  unfold sj_A
  rw [a1, a2, z]
  rfl
theorem sj_hpp {p : Nat} {af pr : Nat → Int32} (h : sj_lk p af pr) : ∀ x y, x < 5 → y < 5 → p.testBit y = true → (sj_N pr y).testBit x = true → p.testBit x = true := by
  intro x y hx hy q z
  rw [h.2.2.2 x y hx hy q] at z
  exact (h.2.2.1 x y hx hy z).1
theorem sj_lk1 {p : Nat} {af pr : Nat → Int32} (h : sj_lk p af pr) {i j : Nat} (hi : i < 5) (hj : j < 5) (a1 : p.testBit i = true) (a2 : p.testBit j = true) : sj_lk p (sj_af1 af i j) (sj_af1 pr j i) := by
  refine ⟨sj_af1l h.1 hi hj, sj_af1l h.2.1 hj hi, fun x y hx hy z => ?_, fun x y hx hy q => ?_⟩
  · rw [sj_af1b h.1 hi hj hy] at z
    simp at z
    rcases z with z | ⟨rfl, rfl⟩
    · exact h.2.2.1 x y hx hy z
    · exact ⟨a1, a2⟩
  · rw [sj_af1b h.1 hi hj hy, sj_af1b h.2.1 hj hi hx, h.2.2.2 x y hx hy q, Bool.and_comm]
theorem sj_lk0 {p : Nat} {af pr : Nat → Int32} (h : sj_lk p af pr) {i j : Nat} (hi : i < 5) (hj : j < 5) : sj_lk p (sj_af0 af i j) (sj_af0 pr j i) := by
  refine ⟨sj_af0l h.1 hi hj, sj_af0l h.2.1 hj hi, fun x y hx hy z => ?_, fun x y hx hy q => ?_⟩
  · rw [sj_af0b h.1 hi hj hy] at z
    simp at z
    exact h.2.2.1 x y hx hy z.1
  · rw [sj_af0b h.1 hi hj hy, sj_af0b h.2.1 hj hi hx, h.2.2.2 x y hx hy q, Bool.and_comm (decide (x = i))]
section
variable {mo lim fu fd mb : Int32} {p : Nat} {hd rel len kin due wt af pr be : Nat → Int32}
theorem sy_mkO {post : Int32 → SY → Prop} {mi : Int32} (h : sj_hd p hd) (hlk : sj_lk p af pr) {i j : Nat} (hi : i < 5) (hj : j < 5) (ne : i ≠ j) (a : sj_A p af i j = true) (k : post 0 (mo, lim, fu, fd, mi, mb, hd, rel, len, kin, due, wt, pr, be)) :
    wpY_link post (mo, lim, fu, fd, mi, mb, hd, rel, len, kin, due, wt, pr, be) (nI i) (nI j) :=
  sy_mkP h hi hj ne (sj_At a).1 (sj_At a).2.1 (sy_linkT h hlk hi hj a (br_f (by decide) k))
theorem sy_mkC {post : Int32 → SY → Prop} {mi : Int32} {rk : Nat → Nat} (h : sj_hd p hd) (hlk : sj_lk p af pr) (hrk : sj_ord (sj_A p af) rk) {i j : Nat} (hi : i < 5) (hj : j < 5) (ne : i ≠ j) (a1 : p.testBit i = true) (a2 : p.testBit j = true) (a : ¬ sj_A p af i j = true) (cc : sj_C (sj_A p af) j i)
    (k : post (-4) (mo, lim, fu, fd, mi, mb, hd, rel, len, kin, due, wt, pr, be)) : wpY_link post (mo, lim, fu, fd, mi, mb, hd, rel, len, kin, due, wt, pr, be) (nI i) (nI j) :=
  sy_mkP h hi hj ne a1 a2 (sy_linkF h hlk (fun z => a ((sj_lkdn hi hj).mp z)) (br_t rfl (sy_leads hi hj h hlk.2.1 (sj_rlk hlk) (fun _ _ _ _ z => ⟨(sj_At z).1, (sj_At z).2.1⟩) (sj_hpp hlk) hrk (fun _ => br_f (by decide) k) (fun n => absurd cc n))))
theorem sy_mkG {post : Int32 → SY → Prop} {rk : Nat → Nat} (B : sj_bnd p rel len kin due wt) (hlim : -200 ≤ lim.toInt ∧ lim.toInt ≤ 1000) (h : sj_hd p hd) (hlk : sj_lk p af pr) (hrk : sj_ord (sj_A p af) rk) {i j : Nat} (hi : i < 5) (hj : j < 5) (ne : i ≠ j) (a1 : p.testBit i = true) (a2 : p.testBit j = true) (a : ¬ sj_A p af i j = true) (cc : ¬ sj_C (sj_A p af) j i)
    (k1 : sj_G p rel len kin due wt (sj_af1 af i j) sj_M0 lim.toInt 34 (sj_Fu p len) → ∀ fu' fd' be', post 0 (mo, lim, fu', fd', -1, mb, hd, rel, len, kin, due, wt, sj_af1 pr j i, be'))
    (k0 : ¬ sj_G p rel len kin due wt (sj_af1 af i j) sj_M0 lim.toInt 34 (sj_Fu p len) → ∀ fu' fd' be', post (-3) (mo, lim, fu', fd', -1, mb, hd, rel, len, kin, due, wt, pr, be')) :
    wpY_link post (mo, lim, fu, fd, -1, mb, hd, rel, len, kin, due, wt, pr, be) (nI i) (nI j) := by
  have vj : vp_in (nI j) 5 := vp_in_nI hj (by omega)
  have nb : ¬ (sj_N pr j).testBit i = true := fun z => by
    rw [hlk.2.2.2 i j hi hj a2] at z
    exact a (sj_hb hlk i j hi hj z)
  have rest : upd (sj_af1 pr j i) (nI j).toNatClampNeg (sj_af1 pr j i (nI j).toNatClampNeg &&& (((1 : Int32) <<< (nI i &&& 31)) ^^^ (-1))) = pr := by
    rw [sj_af0e (sj_af1l hlk.2.1 hj hi) hj hi, sj_af01 hlk.2.1 hj hi nb]
  refine sy_mkP h hi hj ne a1 a2 (sy_linkF h hlk (fun z => a ((sj_lkdn hi hj).mp z)) (br_t rfl (sy_leads hi hj h hlk.2.1 (sj_rlk hlk) (fun _ _ _ _ z => ⟨(sj_At z).1, (sj_At z).2.1⟩) (sj_hpp hlk) hrk (fun z => absurd z cc) (fun _ => br_t rfl ⟨vj, vj, ?_⟩))))
  refine nm_r (sj_af1e hlk.2.1 hj hi) (sy_good0 B h (sj_lk1 hlk hi hj a1 a2) hlim (fun g fu' fd' be' => ?_) (fun g fu' fd' be' => ?_))
  · exact br_f (by decide) (k1 g fu' fd' be')
  · exact br_t rfl ⟨vj, vj, nm_r rest (k0 g fu' fd' be')⟩
end
/-! ===== a free number ===== -/
theorem sj_lfu {p e e' : Nat} (h1 : ¬ p.testBit e = true) (h2 : ∀ j, j < e → p.testBit j = true) (h3 : ¬ p.testBit e' = true) (h4 : ∀ j, j < e' → p.testBit j = true) : e' = e := by
  rcases Nat.lt_trichotomy e' e with q | q | q
  · exact absurd (h2 e' q) h3
  · exact q
  · exact absurd (h4 e q) h1
section
variable {b : Int32} {p mo : Nat} {rel len kin due wt af st dl lf : Nat → Int32}
theorem sx_lfn2 {post : Int32 → Prop} (hp : p < 32) (hmo : mo ≤ 5) (kF : (∀ j, j < mo → p.testBit j = true) → post (nI mo)) (kA : ∀ e, e < mo → ¬ p.testBit e = true → (∀ j, j < e → p.testBit j = true) → post (nI e)) :
    ∀ d i, i + d = mo → (∀ j, j < i → p.testBit j = true) → wX_leastFreeNumber_2 post (nI mo) b (nI p) rel len kin due wt af st dl lf (d + 1) (nI i) := by
  intro d
  induction d with
  | zero =>
    intro i hi h
    have hi : i = mo := hi
    subst hi
    exact br_t (nI_le (Nat.le_refl _) (by omega)) (kF h)
  | succ d ih =>
    intro i hi h
    refine br_f (nI_ge (by omega) (by omega)) (sx_pres hp (by omega) (fun q => ?_) (fun q => ?_))
    · refine br_f (by decide) (nm_r (nI_1 i) (ih (i + 1) (by omega) (fun j hj => ?_)))
      by_cases e : j = i
      · subst e; exact q
      · exact h j (by omega)
    · exact br_t rfl (kA i (by omega) q h)
theorem sx_lfn {post : Int32 → Prop} (hp : p < 32) (hmo : mo ≤ 5) (kF : (∀ j, j < mo → p.testBit j = true) → post (nI mo)) (kA : ∀ e, e < mo → ¬ p.testBit e = true → (∀ j, j < e → p.testBit j = true) → post (nI e)) :
    wpX_leastFreeNumber post (nI mo, b, nI p, rel, len, kin, due, wt, af, st, dl, lf) :=
  ⟨mo + 1, sx_lfn2 hp hmo kF kA mo 0 (by omega) (fun j hj => absurd hj (by omega))⟩
end
/-- the bounds with one job more -/
theorem sj_bndA {p e : Nat} {rel len kin due wt : Nat → Int32} (B : sj_bnd p rel len kin due wt) (he : e < 5) {rn pn kn dn : Nat} (h1 : rn ≤ 9) (h2 : 1 ≤ pn ∧ pn ≤ 3) (h3 : kn ≤ 3) (h4 : dn ≤ 30) :
    sj_bnd (sj_ad p e) (upd rel e (nI rn)) (upd len e (nI pn)) (upd kin e (nI kn)) (upd due e (nI dn)) (upd wt e (nI 1)) := by
  obtain ⟨b1, b2, b3, b4, b5, b6, b7⟩ := B
  refine ⟨(sj_ad1 p b1 e he).2, sj_leU b2 (by omega), sj_leU b3 h2.2, sj_leU b4 h3, sj_leU b5 h4, sj_leU b6 (by omega), fun j hj q => ?_⟩
  by_cases z : j = e
  · subst z
    rw [sj_Ns (by omega)]
    exact h2.1
  · rw [sj_Nu z]
    rw [sj_ad2 p b1 e he j hj] at q
    simp [z] at q
    exact b7 j hj q
theorem sj_bndB {p e : Nat} {rel len kin due wt : Nat → Int32} (B : sj_bnd p rel len kin due wt) (he : ¬ p.testBit e = true) {rn pn kn dn : Nat} (h1 : rn ≤ 9) (h2 : 1 ≤ pn ∧ pn ≤ 3) (h3 : kn ≤ 3) (h4 : dn ≤ 30) :
    sj_bnd p (upd rel e (nI rn)) (upd len e (nI pn)) (upd kin e (nI kn)) (upd due e (nI dn)) (upd wt e (nI 1)) := by
  obtain ⟨b1, b2, b3, b4, b5, b6, b7⟩ := B
  refine ⟨b1, sj_leU b2 (by omega), sj_leU b3 h2.2, sj_leU b4 h3, sj_leU b5 h4, sj_leU b6 (by omega), fun j hj q => ?_⟩
  have z : j ≠ e := fun z => he (z ▸ q)
  rw [sj_Nu z]
  exact b7 j hj q
/-- links with one job more, which has none -/
theorem sj_lkA {p e : Nat} {af pr : Nat → Int32} (hp : p < 32) (he : e < 5) (hn : ¬ p.testBit e = true) (h : sj_lk p af pr) : sj_lk (sj_ad p e) af (upd pr e (nI 0)) := by
  refine ⟨h.1, sj_leU h.2.1 (by omega), fun i j hi hj z => ?_, fun i j hi hj q => ?_⟩
  · obtain ⟨a1, a2⟩ := h.2.2.1 i j hi hj z
    rw [sj_ad2 p hp e he i hi, sj_ad2 p hp e he j hj, a1, a2]
    exact ⟨rfl, rfl⟩
  · by_cases z : j = e
    · subst z
      rw [sj_Ns (by omega), Nat.zero_testBit]
      cases w : (sj_N af i).testBit j
      · rfl
      · exact absurd (h.2.2.1 i j hi hj w).2 hn
    · rw [sj_Nu z]
      rw [sj_ad2 p hp e he j hj] at q
      simp [z] at q
      exact h.2.2.2 i j hi hj q
theorem sj_lkB {p e : Nat} {af pr : Nat → Int32} (hn : ¬ p.testBit e = true) (h : sj_lk p af pr) : sj_lk p af (upd pr e (nI 0)) := by
  refine ⟨h.1, sj_leU h.2.1 (by omega), h.2.2.1, fun i j hi hj q => ?_⟩
  have z : j ≠ e := fun z => hn (z ▸ q)
  rw [sj_Nu z]
  exact h.2.2.2 i j hi hj q
theorem sj_ordA {p e : Nat} {af pr : Nat → Int32} {rk : Nat → Nat} (h : sj_lk p af pr) (hrk : sj_ord (sj_A p af) rk) : sj_ord (sj_A (sj_ad p e) af) rk :=
  fun i j hi hj a => hrk i j hi hj (sj_hb h i j hi hj (sj_At a).2.2)
theorem sj_hdA {p e : Nat} {hd : Nat → Int32} (hp : p < 32) (he : e < 5) (h : sj_hd p hd) : sj_hd (sj_ad p e) (upd hd e 1) := by
  intro j hj
  rw [sj_ad2 p hp e he j hj]
  by_cases z : j = e
  · subst z
    rw [sj_us]
    simp
  · rw [sj_un z, h j hj]
    simp [z]
theorem sj_hdC {p e : Nat} {hd : Nat → Int32} (hp : p < 32) (he : e < 5) (h : sj_hd p hd) : sj_hd (sj_cl p e) (upd hd e 0) := by
  intro j hj
  rw [sj_cl2 p hp e he j hj]
  by_cases z : j = e
  · subst z
    rw [sj_us]
    simp
  · rw [sj_un z, h j hj]
    simp [z]
section
variable {lim : Int32} {p mo : Nat} {rel len kin due wt af pr st dl lf : Nat → Int32}
theorem sx_admit {post : Int32 → SX → Prop} {rk : Nat → Nat} (B : sj_bnd p rel len kin due wt) (hlk : sj_lk p af pr) (hrk : sj_ord (sj_A p af) rk) (hmo : mo ≤ 5) {rn pn kn dn : Nat} (h1 : rn ≤ 9) (h2 : 1 ≤ pn ∧ pn ≤ 3) (h3 : kn ≤ 3) (h4 : dn ≤ 30)
    (kF : (∀ j, j < mo → p.testBit j = true) → post (-2) (nI mo, lim, nI p, rel, len, kin, due, wt, af, st, dl, lf))
    (kG : ∀ e, e < mo → ¬ p.testBit e = true → (∀ j, j < e → p.testBit j = true) → sj_G (sj_ad p e) (upd rel e (nI rn)) (upd len e (nI pn)) (upd kin e (nI kn)) (upd due e (nI dn)) (upd wt e (nI 1)) af sj_M0 lim.toInt 34 (sj_Fu (sj_ad p e) (upd len e (nI pn))) →
      ∀ st' dl' lf', post (nI e) (nI mo, lim, nI (sj_ad p e), upd rel e (nI rn), upd len e (nI pn), upd kin e (nI kn), upd due e (nI dn), upd wt e (nI 1), af, st', dl', lf'))
    (kR : ∀ e, e < mo → ¬ p.testBit e = true → (∀ j, j < e → p.testBit j = true) → ¬ sj_G (sj_ad p e) (upd rel e (nI rn)) (upd len e (nI pn)) (upd kin e (nI kn)) (upd due e (nI dn)) (upd wt e (nI 1)) af sj_M0 lim.toInt 34 (sj_Fu (sj_ad p e) (upd len e (nI pn))) →
      ∀ st' dl' lf', post (-3) (nI mo, lim, nI p, upd rel e (nI rn), upd len e (nI pn), upd kin e (nI kn), upd due e (nI dn), upd wt e (nI 1), af, st', dl', lf')) :
    wpX_admit post (nI mo, lim, nI p, rel, len, kin, due, wt, af, st, dl, lf) (nI rn) (nI pn) (nI kn) (nI dn) := by
  have hp := B.1
  unfold wpX_admit
  dsimp only
  refine sx_lfn hp hmo (fun q => ?_) (fun e he hn hlt => ?_)
  · exact br_f (nI_nlt (Nat.le_refl _) (by omega)) (kF q)
  · have he5 : e < 5 := by omega
    have ve : vp_in (nI e) 5 := vp_in_nI he5 (by omega)
    have ce : (nI e).toNatClampNeg = e := nI_clamp (by omega)
    have ea := sj_ad1 p hp e he5
    have ec := (sj_cl1 (sj_ad p e) ea.2 e he5).1
    have hf : p.testBit e = false := by
      cases z : p.testBit e
      · rfl
      · exact absurd z hn
    rw [sj_clad p hp e he5 hf] at ec
    refine br_t (nI_lt he (by omega)) ⟨ve, ?_⟩
    rw [ce]
    refine nm_e ⟨ve, nm_e ?_⟩
    unfold wpX_putRule
    dsimp only
    rw [ce]
    refine ⟨ve, nm_e ⟨ve, nm_e ⟨ve, nm_e ?_⟩⟩⟩
    refine nm_r ea.1 (sx_plan (sj_bndA B he5 h1 h2 h3 h4) hlk.1 (sj_ordA hlk hrk) (fun g s d l => ?_) (fun g s d l => ?_))
    · exact br_f (by decide) (kG e he hn hlt g s d l)
    · exact br_t rfl (nm_r ec (kR e he hn hlt g s d l))
end
