/-! ===== what both states hold between calls ===== -/
/-- links: as the component holds them (af), as the reference does (pr) -/
def sj_lk (p : Nat) (af pr : Nat → Int32) : Prop :=
  sj_le af 31 ∧ sj_le pr 31 ∧ (∀ i j, i < 5 → j < 5 → (sj_N af i).testBit j = true → p.testBit i = true ∧ p.testBit j = true) ∧
  (∀ i j, i < 5 → j < 5 → p.testBit j = true → (sj_N pr j).testBit i = (sj_N af i).testBit j)
def sj_V (mo : Nat) (lim : Int32) (p : Nat) (rel len kin due wt af pr : Nat → Int32) : Prop :=
  (1 ≤ mo ∧ mo ≤ 5) ∧ (-200 ≤ lim.toInt ∧ lim.toInt ≤ 1000) ∧ sj_bnd p rel len kin due wt ∧ sj_le rel 9 ∧ (∀ j, j < 5 → p.testBit j = true → j < mo) ∧
  sj_lk p af pr ∧ (∃ rk, sj_ord (sj_A p af) rk) ∧ sj_G p rel len kin due wt af sj_M0 lim.toInt 34 (sj_Fu p len)
/-- a run of one table serves where less is asked -/
theorem sj_Gmono {p : Nat} {rel len kin due wt af rel' len' kin' due' wt' af' : Nat → Int32} {M M' : Nat → Nat → Prop} {b b' : Int}
    (hR : ∀ j, j < 5 → p.testBit j = true → sj_N rel' j ≤ sj_N rel j) (hA : ∀ i j, i < 5 → j < 5 → sj_A p af' i j = true → sj_A p af i j = true)
    (hM : ∀ j t, j < 5 → p.testBit j = true → M j t → M' j t)
    (hK : ∀ j t, j < 5 → p.testBit j = true → sj_K kin due wt b j (t + 1) → sj_K kin' due' wt' b' j (t + 1))
    (hl : ∀ j, j < 5 → p.testBit j = true → sj_N len' j = sj_N len j) {t : Nat} (h : sj_G p rel len kin due wt af M b t (sj_Fu p len)) : sj_G p rel' len' kin' due' wt' af' M' b' t (sj_Fu p len') := by
  have e : sj_Fu p len' = sj_Fu p len := sj_fce hl
  rw [e]
  exact sj_mono hR (fun i j hi hj _ a => ⟨hA i j hi hj a, (sj_At a).1⟩) hM hK hl t _ h
theorem sj_Nu {a : Nat → Int32} {k j : Nat} {x : Int32} (h : j ≠ k) : sj_N (upd a k x) j = sj_N a j := by unfold sj_N; rw [sj_un h]
theorem sj_Ns {a : Nat → Int32} {k n : Nat} (h : n < 2 ^ 31) : sj_N (upd a k (nI n)) k = n := by unfold sj_N; rw [sj_us, nI_clamp h]
theorem sj_uid {a : Nat → Int32} {k : Nat} {x y : Int32} (h : a k = x) : upd (upd a k y) k x = a := by
  funext j
  by_cases e : j = k
  · subst e; rw [sj_us, h]
  · rw [sj_un e, sj_un e]
theorem sj_uid1 {a : Nat → Int32} {k : Nat} {x : Int32} (h : a k = x) : upd a k x = a := by
  funext j
  by_cases e : j = k
  · subst e; rw [sj_us, h]
  · rw [sj_un e]
/-- one job's values changed, while it isn't there -/
theorem sj_Gst {p id : Nat} {rel len kin due wt af : Nat → Int32} {x1 x2 x3 x4 x5 : Int32} {M : Nat → Nat → Prop} {b : Int} {t : Nat} (hn : ¬ p.testBit id = true)
    (h : sj_G p rel len kin due wt af M b t (sj_Fu p len)) : sj_G p (upd rel id x1) (upd len id x2) (upd kin id x3) (upd due id x4) (upd wt id x5) af M b t (sj_Fu p (upd len id x2)) := by
  have ne : ∀ j, p.testBit j = true → j ≠ id := fun j hj e => hn (e ▸ hj)
  refine sj_Gmono (fun j _ q => ?_) (fun i j _ _ a => a) (fun _ _ _ _ m => m) (fun j t _ q k => ?_) (fun j _ q => sj_Nu (ne j q)) h
  · rw [sj_Nu (ne j q)]; exact Nat.le_refl _
  · unfold sj_K at k ⊢
    rw [sj_Nu (ne j q), sj_Nu (ne j q), sj_Nu (ne j q)]
    exact k
theorem sj_Grem {p id : Nat} {rel len kin due wt af af' : Nat → Int32} {M : Nat → Nat → Prop} {b : Int} {t : Nat} (B : sj_bnd p rel len kin due wt) (hid : id < 5)
    (hA : ∀ i j, i < 5 → j < 5 → sj_A (sj_cl p id) af' i j = true → sj_A p af i j = true) (h : sj_G p rel len kin due wt af M b t (sj_Fu p len)) : sj_G (sj_cl p id) rel len kin due wt af' M b t (sj_Fu (sj_cl p id) len) := by
  have hL := sj_hL B
  have e : sj_dr (sj_Fu p len) id = sj_Fu (sj_cl p id) len := sj_drfc hL hid (fun j hj => sj_cl2 p B.1 id hid j hj)
  rw [← e]
  refine sj_rem hL hid (fun j hj ne q => ?_) (fun i j hi hj a => ⟨hA i j hi hj a, fun z => ?_⟩) t _ h
  · rw [sj_cl2 p B.1 id hid j hj]; simp [ne, q]
  · have := (sj_At a).1
    rw [sj_cl2 p B.1 id hid i hi] at this
    simp [z] at this
/-- nothing is there: all is done at once -/
theorem sj_bndc {p id : Nat} {rel len kin due wt : Nat → Int32} (B : sj_bnd p rel len kin due wt) (hid : id < 5) : sj_bnd (sj_cl p id) rel len kin due wt := by
  obtain ⟨h1, h2, h3, h4, h5, h6, h7⟩ := B
  refine ⟨(sj_cl1 p h1 id hid).2, h2, h3, h4, h5, h6, fun j hj q => h7 j hj ?_⟩
  rw [sj_cl2 p h1 id hid j hj] at q
  simp at q
  exact q.1
/-- costs between the bounds -/
theorem sj_Kb {p : Nat} {rel len kin due wt : Nat → Int32} (B : sj_bnd p rel len kin due wt) {j t : Nat} (hj : j < 5) (ht : t ≤ 60) : -150 ≤ sj_cost (sj_N kin j) (sj_N due j) (sj_N wt j) t ∧ sj_cost (sj_N kin j) (sj_N due j) (sj_N wt j) t ≤ 1000 :=
  sj_cr (sj_Ne B.2.2.2.2.1 (by omega) hj).2 (sj_Ne B.2.2.2.2.2.1 (by omega) hj).2 ht
theorem sj_Km {p : Nat} {rel len kin due wt : Nat → Int32} (B : sj_bnd p rel len kin due wt) {b : Int} {j t : Nat} (hj : j < 5) (h : sj_K kin due wt b j (t + 2)) : sj_K kin due wt b j (t + 1) :=
  Int.le_trans (sj_cmono (sj_Ne B.2.2.2.2.2.1 (by omega) hj).2) h
theorem sj_Kw {kin due wt : Nat → Int32} {b b' : Int} (hb : b ≤ b') {j t : Nat} (h : sj_K kin due wt b j t) : sj_K kin due wt b' j t := Int.le_trans h hb
theorem sj_Gw {p : Nat} {rel len kin due wt af : Nat → Int32} {M : Nat → Nat → Prop} {b b' : Int} (hb : b ≤ b') {t : Nat} (h : sj_G p rel len kin due wt af M b t (sj_Fu p len)) : sj_G p rel len kin due wt af M b' t (sj_Fu p len) :=
  sj_Gmono (fun _ _ _ => Nat.le_refl _) (fun _ _ _ _ a => a) (fun _ _ _ _ m => m) (fun _ _ _ _ k => sj_Kw hb k) (fun _ _ _ => rfl) h
/-- below all costs nothing is done -/
theorem sj_Glow {p : Nat} {rel len kin due wt af : Nat → Int32} {M : Nat → Nat → Prop} (B : sj_bnd p rel len kin due wt) (h0 : p ≠ 0) {b : Int} (hb : b ≤ -151) : ¬ sj_G p rel len kin due wt af M b 34 (sj_Fu p len) := by
  intro h
  have hL := sj_hL B
  have ex : ∃ j, j < 5 ∧ p.testBit j = true := by
    apply Classical.byContradiction
    intro n
    refine h0 ((sj_nz p B.1).mpr (fun k hk => ?_))
    cases q : p.testBit k
    · rfl
    · exact absurd ⟨k, hk, q⟩ n
  obtain ⟨j, hj, q⟩ := ex
  have lt := sj_nofin hL 34 _ (fun i u hi _ hu k => by
    have := sj_Kb B (t := u + 1) hi (by omega)
    have k' : sj_cost (sj_N kin i) (sj_N due i) (sj_N wt i) (u + 1) ≤ b := k
    omega) h j hj q
  have e : sj_dg (sj_Fu p len) j = sj_x p.testBit (sj_N len) j := sj_fcd hL j hj
  rw [e, sj_xt q] at lt
  omega
