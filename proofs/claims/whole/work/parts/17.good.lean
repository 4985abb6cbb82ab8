/-! ===== the reference: is there a good plan; both: reached along links ===== -/
theorem sj_rlk {p : Nat} {af pr : Nat → Int32} (h : sj_lk p af pr) : sj_rl p pr (sj_A p af) := by
  intro i j hi hj q
  have e := h.2.2.2 i j hi hj q
  unfold sj_A
  rw [e, q]
  simp
section
variable {mo lim fu fd mi mb : Int32} {p : Nat} {hd rel len kin due wt pr be : Nat → Int32} {A : Nat → Nat → Bool}
theorem sy_good {post : Int32 → SY → Prop} (B : sj_bnd p rel len kin due wt) (h : sj_hd p hd) (hpr : sj_le pr 31) (hrl : sj_rl p pr A) (hlim : -200 ≤ lim.toInt ∧ lim.toInt ≤ 1000)
    (k1 : sj_rc p.testBit (sj_N len) (sj_N rel) A (sj_My mi mb) (sj_K kin due wt lim.toInt) 34 (sj_Fu p len) → ∀ fu' fd' be', post 1 (mo, lim, fu', fd', mi, mb, hd, rel, len, kin, due, wt, pr, be'))
    (k0 : ¬ sj_rc p.testBit (sj_N len) (sj_N rel) A (sj_My mi mb) (sj_K kin due wt lim.toInt) 34 (sj_Fu p len) → ∀ fu' fd' be', post 0 (mo, lim, fu', fd', mi, mb, hd, rel, len, kin, due, wt, pr, be')) :
    wpY_good post (mo, lim, fu, fd, mi, mb, hd, rel, len, kin, due, wt, pr, be) := by
  have hfl : sj_Fu p len < 1024 := sj_fcl (sj_hL B)
  have ef : nI (sj_Fu p len) &&& 1023 = nI (sj_Fu p len) := by rw [pk_andN (by omega) 10 (by decide), Nat.mod_eq_of_lt hfl]
  have cf : (nI (sj_Fu p len)).toNatClampNeg = sj_Fu p len := nI_clamp (by omega)
  unfold wpY_good
  dsimp only
  refine sy_solve B h hpr hrl (fun be' fd' hT hf => ?_)
  dsimp only
  rw [ef, cf]
  have e : (be' (sj_Fu p len)).toInt ≤ lim.toInt ↔ sj_rc p.testBit (sj_N len) (sj_N rel) A (sj_My mi mb) (sj_K kin due wt lim.toInt) 34 (sj_Fu p len) := (hT (sj_Fu p len) hfl).2 lim.toInt (by omega) (by omega)
  refine ⟨vp_in_nI hfl (by omega), ?_⟩
  by_cases q : lim < be' (sj_Fu p len)
  · refine br_t q (k0 (fun z => ?_) _ _ _)
    rw [sj_ltI] at q
    have := e.mpr z
    omega
  · refine br_f q (k1 (e.mp ?_) _ _ _)
    rw [sj_ltI] at q
    omega
end
theorem sj_Mm1 {mb : Int32} {j t : Nat} (hj : j < 5) : sj_My (-1) mb j t := by
  intro e
  have := congrArg Int32.toInt e
  rw [nI_toInt (by omega), sj_im1] at this
  omega
/-- with no job that must be done, the table is the plain one -/
theorem sj_G0 {p : Nat} {rel len kin due wt af : Nat → Int32} {mb : Int32} {b : Int} {t : Nat} :
    sj_rc p.testBit (sj_N len) (sj_N rel) (sj_A p af) (sj_My (-1) mb) (sj_K kin due wt b) t (sj_Fu p len) ↔ sj_G p rel len kin due wt af sj_M0 b t (sj_Fu p len) := by
  constructor
  · exact fun h => sj_Gmono (fun _ _ _ => Nat.le_refl _) (fun _ _ _ _ a => a) (fun _ _ _ _ _ => trivial) (fun _ _ _ _ k => k) (fun _ _ _ => rfl) h
  · exact fun h => sj_Gmono (fun _ _ _ => Nat.le_refl _) (fun _ _ _ _ a => a) (fun _ _ hj _ _ => sj_Mm1 hj) (fun _ _ _ _ k => k) (fun _ _ _ => rfl) h
section
variable {mo lim fu fd mb : Int32} {p : Nat} {hd rel len kin due wt af pr be : Nat → Int32}
theorem sy_good0 {post : Int32 → SY → Prop} (B : sj_bnd p rel len kin due wt) (h : sj_hd p hd) (hlk : sj_lk p af pr) (hlim : -200 ≤ lim.toInt ∧ lim.toInt ≤ 1000)
    (k1 : sj_G p rel len kin due wt af sj_M0 lim.toInt 34 (sj_Fu p len) → ∀ fu' fd' be', post 1 (mo, lim, fu', fd', -1, mb, hd, rel, len, kin, due, wt, pr, be'))
    (k0 : ¬ sj_G p rel len kin due wt af sj_M0 lim.toInt 34 (sj_Fu p len) → ∀ fu' fd' be', post 0 (mo, lim, fu', fd', -1, mb, hd, rel, len, kin, due, wt, pr, be')) :
    wpY_good post (mo, lim, fu, fd, -1, mb, hd, rel, len, kin, due, wt, pr, be) :=
  sy_good B h hlk.2.1 (sj_rlk hlk) hlim (fun g => k1 (sj_G0.mp g)) (fun g => k0 (fun z => g (sj_G0.mpr z)))
end
/-! ===== reached along links: the component ===== -/
def sj_rI (A : Nat → Nat → Bool) (rk : Nat → Nat) (j r : Nat) (P : Nat → Nat → Prop) (m : Nat) : Prop :=
  m < 32 ∧ (∀ k, k < 5 → m.testBit k = true → sj_C A j k) ∧ m.testBit j = true ∧ (∀ k, k < 5 → sj_C A j k → rk k < r → m.testBit k = true) ∧
  (∀ x k, x < 5 → k < 5 → P x k → sj_C A j x → A x k = true → rk k = r → m.testBit k = true)
theorem sj_rIn {A : Nat → Nat → Bool} {rk : Nat → Nat} {j r m : Nat} {P P' : Nat → Nat → Prop} (h : sj_rI A rk j r P m) (hP : ∀ x k, x < 5 → k < 5 → P x k) (hP' : ∀ x k, ¬ P' x k) : sj_rI A rk j (r + 1) P' m := by
  obtain ⟨h0, h1, h2, h3, h4⟩ := h
  refine ⟨h0, h1, h2, fun k hk c q => ?_, fun x k _ _ z => absurd z (hP' x k)⟩
  by_cases e : rk k < r
  · exact h3 k hk c e
  · by_cases e2 : k = j
    · subst e2; exact h2
    · obtain ⟨x, hx, cx, a⟩ := sj_Cp c e2
      exact h4 x k hx hk (hP x k hx hk) cx a (by omega)
theorem sj_rI5 {A : Nat → Nat → Bool} {rk : Nat → Nat} {j m : Nat} {P : Nat → Nat → Prop} (h : sj_rI A rk j 5 P m) (h4 : ∀ k, k < 5 → rk k ≤ 4) : ∀ k, k < 5 → (m.testBit k = true ↔ sj_C A j k) :=
  fun k hk => ⟨h.2.1 k hk, fun c => h.2.2.2.1 k hk c (by have := h4 k hk; omega)⟩
section
variable {c b : Int32} {p : Nat} {rel len kin due wt af st dl lf : Nat → Int32}
theorem sx_r16 {post : Int32 → Prop} {J7 : Int32 → Int32 → Prop} {x2 f : Int32} {rk : Nat → Nat} {j r : Nat} (haf : sj_le af 31) (hb : ∀ i k, i < 5 → k < 5 → (sj_N af i).testBit k = true → sj_A p af i k = true) (hrk : sj_ord (sj_A p af) rk)
    (k : ∀ m', sj_rI (sj_A p af) rk j r (fun x _ => x < 5) m' → J7 (nI m') (nI (r + 1))) :
    ∀ d i m, i + d = 5 → sj_rI (sj_A p af) rk j r (fun x _ => x < i) m → wX_isReachable_16 post J7 x2 (nI r) c b f rel len kin due wt af st dl lf (d + 1) (nI m) (nI i) := by
  intro d
  induction d with
  | zero =>
    intro i m hi h
    have hi : i = 5 := hi
    subst hi
    exact br_t (by decide) (nm_r (nI_1 r) (k m h))
  | succ d ih =>
    intro i m hi h
    have hi5 : i < 5 := by omega
    have ci : (nI i).toNatClampNeg = i := nI_clamp (by omega)
    obtain ⟨h0, h1, h2, h3, h4⟩ := h
    obtain ⟨ea, la⟩ := sj_Ne haf (by omega) hi5
    refine br_f (nI_ge (b := 5) hi5 (by decide)) ?_
    by_cases q : m.testBit i = true
    · refine br_f (fun z => by rw [sj_bit m h0 i hi5, q] at z; exact absurd z (by decide)) ⟨vp_in_nI hi5 (by omega), ?_⟩
      rw [ci, ea, sj_or]
      refine nm_e (nm_r (nI_1 i) (ih (i + 1) _ (by omega) ⟨sj_or32 _ h0 _ (by omega), fun k hk z => ?_, ?_, fun k hk c q2 => ?_, fun x k hx hk z c a q2 => ?_⟩))
      · rw [Nat.testBit_or, Bool.or_eq_true] at z
        rcases z with z | z
        · exact h1 k hk z
        · exact sj_Cn hi5 hk (hb i k hi5 hk z) (h1 i hi5 q)
      · rw [Nat.testBit_or, h2]; rfl
      · rw [Nat.testBit_or, h3 k hk c q2]; rfl
      · rw [Nat.testBit_or]
        have z : x < i + 1 := z
        by_cases e : x = i
        · subst e
          rw [(sj_At a).2.2, Bool.or_true]
        · rw [h4 x k hx hk (show x < i by omega) c a q2]; rfl
    · have q' : m.testBit i = false := by
        cases z : m.testBit i
        · rfl
        · exact absurd z q
      refine br_t ((sj_bit m h0 i hi5).mpr q') (nm_r (nI_1 i) (ih (i + 1) m (by omega) ⟨h0, h1, h2, h3, fun x k hx hk z c a q2 => ?_⟩))
      have z : x < i + 1 := z
      by_cases e : x = i
      · subst e
        have := hrk x k hx hk a
        exact absurd (h3 x hx c (by omega)) q
      · exact h4 x k hx hk (show x < i by omega) c a q2
theorem sx_r7 {post : Int32 → Prop} {f : Int32} {rk : Nat → Nat} {i j : Nat} (hi : i < 5) (haf : sj_le af 31) (hb : ∀ i k, i < 5 → k < 5 → (sj_N af i).testBit k = true → sj_A p af i k = true) (hrk : sj_ord (sj_A p af) rk) (h4 : ∀ k, k < 5 → rk k ≤ 4)
    (k1 : sj_C (sj_A p af) j i → post 1) (k0 : ¬ sj_C (sj_A p af) j i → post 0) :
    ∀ d r m, r + d = 5 → sj_rI (sj_A p af) rk j r (fun _ _ => False) m → wX_isReachable_7 post (nI i) c b f rel len kin due wt af st dl lf (d + 1) (nI m) (nI r) := by
  intro d
  induction d with
  | zero =>
    intro r m hr h
    have hr : r = 5 := hr
    subst hr
    have e := sj_rI5 h h4 i hi
    refine br_t (by decide) ?_
    by_cases q : m.testBit i = true
    · exact br_f (fun z => by rw [sj_bit m h.1 i hi, q] at z; exact absurd z (by decide)) (k1 (e.mp q))
    · have q' : m.testBit i = false := by
        cases z : m.testBit i
        · rfl
        · exact absurd z q
      exact br_t ((sj_bit m h.1 i hi).mpr q') (k0 (fun z => q (e.mpr z)))
  | succ d ih =>
    intro r m hr h
    refine br_f (nI_ge (b := 5) (by omega) (by decide)) ⟨6, sx_r16 haf hb hrk (fun m' h' => ih (r + 1) m' (by omega) (sj_rIn h' (fun x _ hx _ => hx) (fun _ _ z => z))) 5 0 m (by omega) ?_⟩
    exact ⟨h.1, h.2.1, h.2.2.1, h.2.2.2.1, fun x k _ _ z => absurd z (by show ¬ x < 0; omega)⟩
theorem sx_reach {post : Int32 → Prop} {f : Int32} {rk : Nat → Nat} {i j : Nat} (hi : i < 5) (hj : j < 5) (haf : sj_le af 31) (hb : ∀ i k, i < 5 → k < 5 → (sj_N af i).testBit k = true → sj_A p af i k = true) (hrk : sj_ord (sj_A p af) rk)
    (k1 : sj_C (sj_A p af) j i → post 1) (k0 : ¬ sj_C (sj_A p af) j i → post 0) : wpX_isReachable post (c, b, f, rel, len, kin, due, wt, af, st, dl, lf) (nI j) (nI i) := by
  obtain ⟨rk', h4, hrk'⟩ := sj_rk4 hrk
  have e := sj_1sh j hj
  have b2 := sj_2j j hj
  refine nm_r e.1 ⟨5, sx_r7 hi haf hb hrk' h4 k1 k0 4 1 (2 ^ j) (by omega) ⟨e.2, fun k hk z => ?_, ?_, fun k hk c q => ?_, fun _ _ _ _ z => absurd z (fun w => w)⟩⟩
  · rw [b2 k hk, decide_eq_true_eq] at z
    subst z
    exact sj_Cs k
  · rw [b2 j hj, decide_eq_true_eq]
  · rw [b2 k hk, decide_eq_true_eq]
    apply Classical.byContradiction
    intro ne
    obtain ⟨x, hx, -, a⟩ := sj_Cp c ne
    have := hrk' x k hx hk a
    omega
end
/-! the reference -/
def sj_rY (A : Nat → Nat → Bool) (rk : Nat → Nat) (j r n : Nat) (m : Nat) : Prop :=
  m < 32 ∧ (∀ k, k < 5 → m.testBit k = true → sj_C A j k) ∧ m.testBit j = true ∧ (∀ k, k < 5 → sj_C A j k → rk k < r → m.testBit k = true) ∧
  (∀ k, k < 5 → k < n → sj_C A j k → rk k = r → m.testBit k = true)
section
variable {mo lim fu fd mi mb : Int32} {p : Nat} {hd rel len kin due wt pr be : Nat → Int32} {A : Nat → Nat → Bool}
theorem sy_l16 {post : Int32 → Prop} {J7 : Int32 → Int32 → Prop} {x2 : Int32} {rk : Nat → Nat} {j r : Nat} (h : sj_hd p hd) (hpr : sj_le pr 31) (hrl : sj_rl p pr A) (hAp : ∀ x y, x < 5 → y < 5 → A x y = true → p.testBit x = true ∧ p.testBit y = true)
    (hpp : ∀ x y, x < 5 → y < 5 → p.testBit y = true → (sj_N pr y).testBit x = true → p.testBit x = true) (hrk : sj_ord A rk)
    (k : ∀ m', sj_rY A rk j r 5 m' → J7 (nI m') (nI (r + 1))) :
    ∀ d i m, i + d = 5 → sj_rY A rk j r i m → wY_leads_16 post J7 x2 (nI r) mo lim fu fd mi mb hd rel len kin due wt pr be (d + 1) (nI m) (nI i) := by
  intro d
  induction d with
  | zero =>
    intro i m hi g
    have hi : i = 5 := hi
    subst hi
    exact br_t (by decide) (nm_r (nI_1 r) (k m g))
  | succ d ih =>
    intro i m hi g
    have hi5 : i < 5 := by omega
    have ci : (nI i).toNatClampNeg = i := nI_clamp (by omega)
    have vi : vp_in (nI i) 5 := vp_in_nI hi5 (by omega)
    obtain ⟨h0, h1, h2, h3, h4⟩ := g
    obtain ⟨ea, la⟩ := sj_Ne hpr (by omega) hi5
    -- nothing new: then the job, if it is reached, had its turn or is there
    have stay : (∀ x, x < 5 → A x i = true → ¬ m.testBit x = true) → wY_leads_16 post J7 x2 (nI r) mo lim fu fd mi mb hd rel len kin due wt pr be (d + 1) (nI m) (nI (i + 1)) := by
      intro n
      refine ih (i + 1) m (by omega) ⟨h0, h1, h2, h3, fun k hk z c q => ?_⟩
      by_cases e : k = i
      · subst e
        by_cases e2 : k = j
        · subst e2; exact h2
        · obtain ⟨x, hx, cx, a⟩ := sj_Cp c e2
          have := hrk x k hx hk a
          exact absurd (h3 x hx cx (by omega)) (n x hx a)
      · exact h4 k hk (by omega) c q
    refine br_f (nI_ge (b := 5) hi5 (by decide)) ⟨vi, ?_⟩
    rw [ci]
    by_cases q : p.testBit i = true
    · refine br_f (sj_hd1 h hi5 q) ⟨vi, ?_⟩
      have mt := sj_meet (sj_N pr i) (by omega) m h0
      rw [← ea] at mt
      by_cases w : (pr i &&& nI m) = 0
      · refine br_t w (nm_r (nI_1 i) (stay (fun x hx a z => ?_)))
        exact (mt.mp w) x hx ⟨((hrl x i hx hi5 q).mp a).2, z⟩
      · have ex : ∃ x, x < 5 ∧ (sj_N pr i).testBit x = true ∧ m.testBit x = true := by
          apply Classical.byContradiction
          intro n
          exact w (mt.mpr (fun x hx z => n ⟨x, hx, z.1, z.2⟩))
        obtain ⟨x, hx, z1, z2⟩ := ex
        have ai : A x i = true := (hrl x i hx hi5 q).mpr ⟨hpp x i hx hi5 q z1, z1⟩
        have cI : sj_C A j i := sj_Cn hx hi5 ai (h1 x hx z2)
        have e1 := sj_ad1 m h0 i hi5
        have e2 := sj_ad2 m h0 i hi5
        have up : ∀ k, k < 5 → m.testBit k = true → (sj_ad m i).testBit k = true := fun k hk z => by rw [e2 k hk, z]; rfl
        refine br_f w (nm_r e1.1 (nm_r (nI_1 i) (ih (i + 1) (sj_ad m i) (by omega) ⟨e1.2, fun k hk z => ?_, ?_, fun k hk c q2 => up k hk (h3 k hk c q2), fun k hk z c q2 => ?_⟩)))
        · rw [e2 k hk, Bool.or_eq_true, decide_eq_true_eq] at z
          rcases z with z | z
          · exact h1 k hk z
          · subst z; exact cI
        · rcases Nat.lt_or_ge j 5 with hj | hj
          · exact up j hj h2
          · have : m.testBit j = false := Nat.testBit_lt_two_pow (Nat.lt_of_lt_of_le h0 (show 2 ^ 5 ≤ 2 ^ j from Nat.pow_le_pow_right (by omega) hj))
            rw [this] at h2
            exact absurd h2 (by decide)
        · by_cases e : k = i
          · subst e
            rw [e2 k hk]
            simp
          · exact up k hk (h4 k hk (by omega) c q2)
    · exact br_t (sj_hd0 h hi5 q) (nm_r (nI_1 i) (stay (fun x hx a _ => q (hAp x i hx hi5 a).2)))
theorem sy_l7 {post : Int32 → Prop} {rk : Nat → Nat} {i j : Nat} (hi : i < 5) (h : sj_hd p hd) (hpr : sj_le pr 31) (hrl : sj_rl p pr A) (hAp : ∀ x y, x < 5 → y < 5 → A x y = true → p.testBit x = true ∧ p.testBit y = true)
    (hpp : ∀ x y, x < 5 → y < 5 → p.testBit y = true → (sj_N pr y).testBit x = true → p.testBit x = true) (hrk : sj_ord A rk) (h4 : ∀ k, k < 5 → rk k ≤ 4)
    (k1 : sj_C A j i → post 1) (k0 : ¬ sj_C A j i → post 0) :
    ∀ d r m, r + d = 5 → sj_rY A rk j r 0 m → wY_leads_7 post (nI i) mo lim fu fd mi mb hd rel len kin due wt pr be (d + 1) (nI m) (nI r) := by
  intro d
  induction d with
  | zero =>
    intro r m hr g
    have hr : r = 5 := hr
    subst hr
    have e : m.testBit i = true ↔ sj_C A j i := ⟨g.2.1 i hi, fun c => g.2.2.2.1 i hi c (by have := h4 i hi; omega)⟩
    have bt := sj_sh1 m g.1 i hi
    refine br_t (by decide) ?_
    by_cases q : m.testBit i = true
    · exact br_t (bt.mpr q) (k1 (e.mp q))
    · exact br_f (fun z => q (bt.mp z)) (k0 (fun z => q (e.mpr z)))
  | succ d ih =>
    intro r m hr g
    refine br_f (nI_ge (b := 5) (by omega) (by decide)) ⟨6, sy_l16 h hpr hrl hAp hpp hrk (fun m' g' => ih (r + 1) m' (by omega) ⟨g'.1, g'.2.1, g'.2.2.1, fun k hk c q => ?_, fun k _ z => absurd z (by omega)⟩) 5 0 m (by omega) g⟩
    by_cases e : rk k < r
    · exact g'.2.2.2.1 k hk c e
    · exact g'.2.2.2.2 k hk hk c (by omega)
theorem sy_leads {post : Int32 → Prop} {rk : Nat → Nat} {i j : Nat} (hi : i < 5) (hj : j < 5) (h : sj_hd p hd) (hpr : sj_le pr 31) (hrl : sj_rl p pr A) (hAp : ∀ x y, x < 5 → y < 5 → A x y = true → p.testBit x = true ∧ p.testBit y = true)
    (hpp : ∀ x y, x < 5 → y < 5 → p.testBit y = true → (sj_N pr y).testBit x = true → p.testBit x = true) (hrk : sj_ord A rk)
    (k1 : sj_C A j i → post 1) (k0 : ¬ sj_C A j i → post 0) : wpY_leads post (mo, lim, fu, fd, mi, mb, hd, rel, len, kin, due, wt, pr, be) (nI j) (nI i) := by
  obtain ⟨rk', h4, hrk'⟩ := sj_rk4 hrk
  have e := sj_1sh j hj
  have b2 := sj_2j j hj
  refine nm_r e.1 ⟨6, sy_l7 hi h hpr hrl hAp hpp hrk' h4 k1 k0 5 0 (2 ^ j) (by omega) ⟨e.2, fun k hk z => ?_, ?_, fun k hk c q => absurd q (by omega), fun k _ z => absurd z (by omega)⟩⟩
  · rw [b2 k hk, decide_eq_true_eq] at z
    subst z
    exact sj_Cs k
  · rw [b2 j hj, decide_eq_true_eq]
end
