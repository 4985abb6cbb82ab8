/-! ===== the reference: its table ===== -/
def sj_dn : Nat → Int32
  | 0 => -1
  | n + 1 => nI n
theorem sj_dn1 (n : Nat) : nI n + (-1) = sj_dn n := by
  cases n with
  | zero => decide
  | succ n => exact pk_m1 n
/-- the table's rows for a state -/
def sj_KK (kin due wt : Nat → Int32) : Int → Nat → Nat → Prop := fun b => sj_K kin due wt b
section
variable {mo lim fu fd mi mb : Int32} {p : Nat} {hd rel len kin due wt pr be : Nat → Int32} {A : Nat → Nat → Bool}
/-- the links as the reference reads them -/
def sj_rl (p : Nat) (pr : Nat → Int32) (A : Nat → Nat → Bool) : Prop := ∀ i j, i < 5 → j < 5 → p.testBit j = true → (A i j = true ↔ (p.testBit i = true ∧ (sj_N pr j).testBit i = true))
theorem sy_122 {post : SY → Prop} {J2 : Int32 → (Nat → Int32) → (Nat → Int32) → (Nat → Int32) → (Nat → Int32) → (Nat → Int32) → (Nat → Int32) → (Nat → Int32) → (Nat → Int32) → Prop} {x2 z0 : Int32} {s j t : Nat} (hj : j < 5) (hto : s + 4 ^ j < 1024)
    (hT : sj_T be (sj_Qj p.testBit (sj_N len) (sj_N rel) A (sj_My mi mb) (sj_KK kin due wt) t s j)) (c1 : -2000 ≤ z0.toInt) (c2 : z0.toInt ≤ 9999)
    (hc : ∀ b : Int, -2000 ≤ b → b ≤ 9998 → (z0.toInt ≤ b ↔ (sj_ok p.testBit (sj_N len) (sj_N rel) A (sj_My mi mb) (sj_KK kin due wt b) t s j ∧ sj_rc p.testBit (sj_N len) (sj_N rel) A (sj_My mi mb) (sj_KK kin due wt b) t s)))
    (k : ∀ be', sj_T be' (sj_Qj p.testBit (sj_N len) (sj_N rel) A (sj_My mi mb) (sj_KK kin due wt) t s (j + 1)) → J2 (nI (j + 1)) hd rel len kin due wt pr be') :
    wY_oneUnit_122 post J2 (nI s) x2 (nI j) z0 mo lim fu fd mi mb hd rel len kin due wt pr be := by
  have v : vp_in (nI (s + 4 ^ j)) 1024 := vp_in_nI hto (by omega)
  have ct : (nI (s + 4 ^ j)).toNatClampNeg = s + 4 ^ j := nI_clamp (by omega)
  unfold wY_oneUnit_122
  refine nm_r (sj_to hj hto) ⟨v, ?_⟩
  rw [ct]
  by_cases q : be (s + 4 ^ j) ≤ z0
  · refine br_t q ⟨v, v, nm_e (nm_r (nI_1 j) (k _ ?_))⟩
    exact sj_Te (sj_Tput hT hto c1 c2 hc ⟨fun z => absurd q (Int32.not_le.mpr z), fun _ => rfl⟩) (fun b x _ _ _ => sj_Qjs b x)
  · refine br_f q ⟨v, nm_e (nm_r (nI_1 j) (k _ ?_))⟩
    exact sj_Te (sj_Tput hT hto c1 c2 hc ⟨fun _ => rfl, fun z => absurd (Int32.not_le.mp q) z⟩) (fun b x _ _ _ => sj_Qjs b x)
theorem sy_71 {post : SY → Prop} {J2 : Int32 → (Nat → Int32) → (Nat → Int32) → (Nat → Int32) → (Nat → Int32) → (Nat → Int32) → (Nat → Int32) → (Nat → Int32) → (Nat → Int32) → Prop} {s j t : Nat} (B : sj_bnd p rel len kin due wt) (hs : s < 1024) (hj : j < 5) (ht : t < 34)
    (ho : ∀ b, (sj_dg s j + 1 = sj_N len j → sj_KK kin due wt b j (t + 1)) → sj_ok p.testBit (sj_N len) (sj_N rel) A (sj_My mi mb) (sj_KK kin due wt b) t s j) (hd3 : sj_dg s j < 3)
    (hT : sj_T be (sj_Qj p.testBit (sj_N len) (sj_N rel) A (sj_My mi mb) (sj_KK kin due wt) t s j))
    (k : ∀ be', sj_T be' (sj_Qj p.testBit (sj_N len) (sj_N rel) A (sj_My mi mb) (sj_KK kin due wt) t s (j + 1)) → J2 (nI (j + 1)) hd rel len kin due wt pr be') :
    wY_oneUnit_71 post J2 (nI s) (nI t) (nI j) (nI (sj_dg s j)) mo lim fu fd mi mb hd rel len kin due wt pr be := by
  have vj : vp_in (nI j) 5 := vp_in_nI hj (by omega)
  have cj : (nI j).toNatClampNeg = j := nI_clamp (by omega)
  have cs : (nI s).toNatClampNeg = s := nI_clamp (by omega)
  have vs : vp_in (nI s) 1024 := vp_in_nI hs (by omega)
  obtain ⟨el, ll⟩ := sj_Ne B.2.2.1 (by omega) hj
  have hto := sj_lt1024 hj hd3 hs
  obtain ⟨⟨s1, s2⟩, s3⟩ := hT s hs
  -- the greater of the two, whichever it is
  have g98 : ∀ z0 : Int32, -2000 ≤ z0.toInt → z0.toInt ≤ 9999 → (∀ b : Int, -2000 ≤ b → b ≤ 9998 → (z0.toInt ≤ b ↔ (sj_dg s j + 1 = sj_N len j → sj_KK kin due wt b j (t + 1)))) → wY_oneUnit_98 post J2 (nI s) (nI t) (nI j) z0 mo lim fu fd mi mb hd rel len kin due wt pr be := by
    intro z0 z1 z2 z3
    unfold wY_oneUnit_98
    refine ⟨vs, ?_⟩
    rw [cs]
    have hc : ∀ b : Int, -2000 ≤ b → b ≤ 9998 → ((z0.toInt ≤ b ∧ (be s).toInt ≤ b) ↔ (sj_ok p.testBit (sj_N len) (sj_N rel) A (sj_My mi mb) (sj_KK kin due wt b) t s j ∧ sj_rc p.testBit (sj_N len) (sj_N rel) A (sj_My mi mb) (sj_KK kin due wt b) t s)) := by
      intro b b1 b2
      rw [z3 b b1 b2, s3 b b1 b2, sj_Qjx]
      exact ⟨fun ⟨a, a'⟩ => ⟨ho b a, a'⟩, fun ⟨a, a'⟩ => ⟨a.2.2.2.2.2.2, a'⟩⟩
    by_cases q : z0 ≤ be s
    · have q' := q
      rw [sj_leI] at q'
      refine br_t q ⟨vs, sy_122 hj hto hT s1 s2 (fun b b1 b2 => ?_) k⟩
      rw [← hc b b1 b2]
      omega
    · have q' := q
      rw [sj_leI] at q'
      refine br_f q (sy_122 hj hto hT z1 z2 (fun b b1 b2 => ?_) k)
      rw [← hc b b1 b2]
      omega
  unfold wY_oneUnit_71
  refine ⟨vj, ?_⟩
  rw [cj, el, nI_1, nI_1]
  by_cases q : sj_dg s j + 1 = sj_N len j
  · refine br_t (by rw [q]) (sy_cost hj ?_)
    have e := sj_cK B (t := t + 1) hj (by omega)
    have r := sj_Kb B (t := t + 1) hj (by omega)
    refine g98 _ (by omega) (by omega) (fun b b1 b2 => ?_)
    rw [e]
    exact ⟨fun a _ => a, fun a => a q⟩
  · refine br_f (fun z => q ((nI_eq (by omega) (by omega)).mp z)) (g98 _ (by decide) (by decide) (fun b b1 b2 => ?_))
    have e : (-2000 : Int32).toInt = -2000 := by decide
    rw [e]
    exact ⟨fun _ a => absurd a q, fun _ => b1⟩
theorem sy_one2 {post : SY → Prop} {s t : Nat} (B : sj_bnd p rel len kin due wt) (h : sj_hd p hd) (hpr : sj_le pr 31) (hrl : sj_rl p pr A) (hs : s < 1024) (ht : t < 34)
    (k : ∀ be', sj_T be' (sj_Q p.testBit (sj_N len) (sj_N rel) A (sj_My mi mb) (sj_KK kin due wt) t s) → post (mo, lim, fu, fd, mi, mb, hd, rel, len, kin, due, wt, pr, be')) :
    ∀ d j be, j + d = 5 → sj_T be (sj_Qj p.testBit (sj_N len) (sj_N rel) A (sj_My mi mb) (sj_KK kin due wt) t s j) → wY_oneUnit_2 post (nI s) (nI t) mo lim fu fd mi mb (d + 1) (nI j) hd rel len kin due wt pr be := by
  intro d
  induction d with
  | zero =>
    intro j be hj hT
    have hj : j = 5 := hj
    subst hj
    exact br_t (by decide) (k be (sj_Te hT (fun b x _ _ _ => sj_Qj5 b x)))
  | succ d ih =>
    intro j be hj hT
    have hj5 : j < 5 := by omega
    have vj : vp_in (nI j) 5 := vp_in_nI hj5 (by omega)
    have cj : (nI j).toNatClampNeg = j := nI_clamp (by omega)
    obtain ⟨el, ll⟩ := sj_Ne B.2.2.1 (by omega) hj5
    obtain ⟨er, lr⟩ := sj_Ne B.2.1 (by omega) hj5
    have d3 := sj_dg3' s j
    -- the job can't have the unit
    have skip : (∀ b, ¬ sj_ok p.testBit (sj_N len) (sj_N rel) A (sj_My mi mb) (sj_KK kin due wt b) t s j) → wY_oneUnit_2 post (nI s) (nI t) mo lim fu fd mi mb (d + 1) (nI (j + 1)) hd rel len kin due wt pr be :=
      fun n => ih (j + 1) be (by omega) (sj_Te hT (fun b x _ _ _ => sj_Qjn b x (n b)))
    refine br_f (nI_ge (b := 5) hj5 (by decide)) (nm_r (sj_used hs hj5) ⟨vj, ?_⟩)
    rw [cj, er]
    by_cases q : p.testBit j = true
    · refine br_f (sj_hd1 h hj5 q) ⟨vj, ?_⟩
      by_cases q2 : sj_N len j ≤ sj_dg s j
      · refine br_t (by rw [el]; exact nI_le q2 (by omega)) (nm_r (nI_1 j) (skip (fun b o => ?_)))
        have := o.2.2.1
        omega
      · refine br_f (by rw [el]; exact nI_ge (by omega) (by omega)) ⟨vj, ?_⟩
        by_cases q3 : t < sj_N rel j
        · refine br_t (nI_lt q3 (by omega)) (nm_r (nI_1 j) (skip (fun b o => ?_)))
          have := o.2.2.2.1
          omega
        · refine br_f (nI_nlt (by omega) (by omega)) (sy_ready h hpr B.2.2.1 hs hj5 (fun r => ?_) (fun r => ?_))
          · have go : sj_My mi mb j t → wY_oneUnit_71 post (wY_oneUnit_2 post (nI s) (nI t) mo lim fu fd mi mb (d + 1)) (nI s) (nI t) (nI j) (nI (sj_dg s j)) mo lim fu fd mi mb hd rel len kin due wt pr be := fun m =>
              sy_71 B hs hj5 ht (fun b kk => ⟨hj5, q, by omega, by omega, fun i hi a => by
                obtain ⟨a1, a2⟩ := (hrl i j hi hj5 q).mp a
                exact r i hi a1 a2, m, kk⟩) (by omega) hT (fun be' hT' => ih (j + 1) be' (by omega) hT')
            refine br_f (by decide) ?_
            by_cases q4 : nI j = mi
            · refine br_t q4 ?_
              by_cases q5 : mb ≤ nI t
              · refine br_t q5 (nm_r (nI_1 j) (skip (fun b o => ?_)))
                exact absurd q5 (Int32.not_le.mpr (o.2.2.2.2.2.1 q4))
              · exact br_f q5 (go (fun _ => Int32.not_le.mp q5))
            · exact br_f q4 (go (fun z => absurd z q4))
          · refine br_t rfl (nm_r (nI_1 j) (skip (fun b o => r (fun i hi a1 a2 => ?_))))
            exact o.2.2.2.2.1 i hi ((hrl i j hi hj5 q).mpr ⟨a1, a2⟩)
    · exact br_t (sj_hd0 h hj5 q) (nm_r (nI_1 j) (skip (fun b o => q o.2.1)))
theorem sy_one {post : SY → Prop} {s t : Nat} (B : sj_bnd p rel len kin due wt) (h : sj_hd p hd) (hpr : sj_le pr 31) (hrl : sj_rl p pr A) (hs : s < 1024) (ht : t < 34)
    (hT : sj_T be (sj_Q p.testBit (sj_N len) (sj_N rel) A (sj_My mi mb) (sj_KK kin due wt) t (s + 1)))
    (k : ∀ be', sj_T be' (sj_Q p.testBit (sj_N len) (sj_N rel) A (sj_My mi mb) (sj_KK kin due wt) t s) → post (mo, lim, fu, fd, mi, mb, hd, rel, len, kin, due, wt, pr, be')) :
    wpY_oneUnit post (mo, lim, fu, fd, mi, mb, hd, rel, len, kin, due, wt, pr, be) (nI s) (nI t) :=
  ⟨6, sy_one2 B h hpr hrl hs ht k 5 0 be (by omega) (sj_Te hT (fun b x _ _ _ => sj_Qj0 b x))⟩
/-- what a run of the table tells -/
def sj_Z (p : Nat) (rel len kin due wt : Nat → Int32) (A : Nat → Nat → Bool) (M : Nat → Nat → Prop) (d : Nat) : Prop := sj_rc p.testBit (sj_N len) (sj_N rel) A M (sj_KK kin due wt 9998) d (sj_Fu p len)
theorem sy_s116 {post : SY → Prop} {J101 : Int32 → Int32 → Int32 → Int32 → Int32 → Int32 → Int32 → (Nat → Int32) → (Nat → Int32) → (Nat → Int32) → (Nat → Int32) → (Nat → Int32) → (Nat → Int32) → (Nat → Int32) → (Nat → Int32) → Prop} {t : Nat}
    (B : sj_bnd p rel len kin due wt) (h : sj_hd p hd) (hpr : sj_le pr 31) (hrl : sj_rl p pr A) (ht : t < 34) (hfd : sj_FD fd t (sj_Z p rel len kin due wt A (sj_My mi mb)))
    (k : ∀ be' fd', sj_T be' (fun b x => sj_rc p.testBit (sj_N len) (sj_N rel) A (sj_My mi mb) (sj_KK kin due wt b) (t + 1) x) → sj_FD fd' (t + 1) (sj_Z p rel len kin due wt A (sj_My mi mb)) → J101 (nI (t + 1)) mo lim (nI (sj_Fu p len)) fd' mi mb hd rel len kin due wt pr be') :
    ∀ c be, c ≤ sj_Fu p len + 1 → sj_T be (sj_Q p.testBit (sj_N len) (sj_N rel) A (sj_My mi mb) (sj_KK kin due wt) t c) → wY_solve_116 post J101 (nI t) (c + 1) (sj_dn c) mo lim (nI (sj_Fu p len)) fd mi mb hd rel len kin due wt pr be := by
  have hfl : sj_Fu p len < 1024 := sj_fcl (sj_hL B)
  have ef : nI (sj_Fu p len) &&& 1023 = nI (sj_Fu p len) := by rw [pk_andN (by omega) 10 (by decide), Nat.mod_eq_of_lt hfl]
  have cf : (nI (sj_Fu p len)).toNatClampNeg = sj_Fu p len := nI_clamp (by omega)
  have n9 : (9999 : Int32).toInt = 9999 := by decide
  intro c
  induction c with
  | zero =>
    intro be _ hT
    have hT' : sj_T be (fun b x => sj_rc p.testBit (sj_N len) (sj_N rel) A (sj_My mi mb) (sj_KK kin due wt b) (t + 1) x) := sj_Te hT (fun b x _ _ _ => sj_Qe b x)
    refine br_t (by decide) ?_
    rcases hfd with ⟨rfl, n⟩ | ⟨d, hd1, rfl, z, mn⟩
    · refine br_f (by decide) ⟨by rw [ef]; exact vp_in_nI hfl (by omega), ?_⟩
      rw [ef, cf]
      have zz : (be (sj_Fu p len)).toInt ≤ 9998 ↔ sj_Z p rel len kin due wt A (sj_My mi mb) (t + 1) := (hT' (sj_Fu p len) hfl).2 9998 (by omega) (by omega)
      by_cases q : 9999 ≤ be (sj_Fu p len)
      · refine br_t q (nm_r (nI_1 t) (k be (-1) hT' (Or.inl ⟨rfl, fun d hd2 => ?_⟩)))
        by_cases e : d = t + 1
        · subst e
          intro w
          rw [sj_leI, n9] at q
          have := zz.mpr w
          omega
        · exact n d (by omega)
      · refine br_f q (nm_r (nI_1 t) (nm_r (nI_1 t) (k be (nI (t + 1)) hT' (Or.inr ⟨t + 1, by omega, rfl, zz.mp ?_, fun e he => n e (by omega)⟩))))
        rw [sj_leI, n9] at q
        omega
    · exact br_t (nI_pos' (by omega)) (nm_r (nI_1 t) (k be (nI d) hT' (Or.inr ⟨d, by omega, rfl, z, mn⟩)))
  | succ c ih =>
    intro be hc hT
    have hc' : c < 1024 := by omega
    have cc : (nI c).toNatClampNeg = c := nI_clamp (by omega)
    refine br_f (nI_pos (by omega)) ⟨vp_in_nI hc' (by omega), ?_⟩
    show (9999 ≤ be (nI c).toNatClampNeg → _) ∧ (¬ 9999 ≤ be (nI c).toNatClampNeg → _)
    rw [cc]
    by_cases q : 9999 ≤ be c
    · refine br_t q (nm_r (sj_dn1 c) (ih be (by omega) (sj_Te hT (fun b x _ b1 b2 => sj_Qn b x (fun rc => ?_)))))
      have := ((hT c hc').2 b b1 b2).mpr (Or.inl rc)
      rw [sj_leI, n9] at q
      omega
    · exact br_f q (sy_one B h hpr hrl hc' ht hT (fun be' hT' => nm_r (sj_dn1 c) (ih be' (by omega) hT')))
theorem sy_s101 {post : SY → Prop} (B : sj_bnd p rel len kin due wt) (h : sj_hd p hd) (hpr : sj_le pr 31) (hrl : sj_rl p pr A)
    (k : ∀ be' fd', sj_T be' (fun b x => sj_rc p.testBit (sj_N len) (sj_N rel) A (sj_My mi mb) (sj_KK kin due wt b) 34 x) → sj_FD fd' 34 (sj_Z p rel len kin due wt A (sj_My mi mb)) → post (mo, lim, nI (sj_Fu p len), fd', mi, mb, hd, rel, len, kin, due, wt, pr, be')) :
    ∀ d t be fd, t + d = 34 → sj_T be (fun b x => sj_rc p.testBit (sj_N len) (sj_N rel) A (sj_My mi mb) (sj_KK kin due wt b) t x) → sj_FD fd t (sj_Z p rel len kin due wt A (sj_My mi mb)) →
      wY_solve_101 post (d + 1) (nI t) mo lim (nI (sj_Fu p len)) fd mi mb hd rel len kin due wt pr be := by
  have hfl : sj_Fu p len < 1024 := sj_fcl (sj_hL B)
  have ef : nI (sj_Fu p len) &&& 1023 = nI (sj_Fu p len) := by rw [pk_andN (by omega) 10 (by decide), Nat.mod_eq_of_lt hfl]
  intro d
  induction d with
  | zero =>
    intro t be fd ht hT hf
    have ht : t = 34 := ht
    subst ht
    exact br_t (by decide) (k be fd hT hf)
  | succ d ih =>
    intro t be fd ht hT hf
    exact br_f (nI_ge (b := 34) (by omega) (by decide)) (nm_r ef ⟨sj_Fu p len + 1 + 1, sy_s116 B h hpr hrl (by omega) hf (fun be' fd' hT' hf' => ih (t + 1) be' fd' (by omega) hT' hf') (sj_Fu p len + 1) be (by omega) (sj_Te hT (fun b x _ _ _ => sj_Qs (sj_hL B) b x))⟩)
theorem sy_s52 {post : SY → Prop} (B : sj_bnd p rel len kin due wt) (h : sj_hd p hd) (hpr : sj_le pr 31) (hrl : sj_rl p pr A)
    (k : ∀ be' fd', sj_T be' (fun b x => sj_rc p.testBit (sj_N len) (sj_N rel) A (sj_My mi mb) (sj_KK kin due wt b) 34 x) → sj_FD fd' 34 (sj_Z p rel len kin due wt A (sj_My mi mb)) → post (mo, lim, nI (sj_Fu p len), fd', mi, mb, hd, rel, len, kin, due, wt, pr, be')) :
    ∀ d x be, x + d = 1024 → (∀ y, y < x → be y = 9999) → wY_solve_52 post mo lim (nI (sj_Fu p len)) fd mi mb (d + 1) (nI x) hd rel len kin due wt pr be := by
  have hfl : sj_Fu p len < 1024 := sj_fcl (sj_hL B)
  intro d
  induction d with
  | zero =>
    intro x be hx hb
    have hx : x = 1024 := hx
    subst hx
    have hT : sj_T (upd be 0 (-2000)) (fun b x => sj_rc p.testBit (sj_N len) (sj_N rel) A (sj_My mi mb) (sj_KK kin due wt b) 0 x) := by
      intro y hy
      have e1 : (-2000 : Int32).toInt = -2000 := by decide
      have e2 : (9999 : Int32).toInt = 9999 := by decide
      by_cases z : y = 0
      · subst z
        rw [sj_us, e1]
        exact ⟨⟨by omega, by omega⟩, fun b b1 b2 => ⟨fun _ => rfl, fun _ => b1⟩⟩
      · rw [sj_un z, hb y hy, e2]
        exact ⟨⟨by omega, by omega⟩, fun b b1 b2 => ⟨fun w => absurd w (by omega), fun w => absurd w z⟩⟩
    refine br_t (by decide) (nm_e ?_)
    by_cases q : sj_Fu p len = 0
    · refine br_t (by rw [q]; rfl) ⟨35, sy_s101 B h hpr hrl k 34 0 _ 0 (by omega) hT (Or.inr ⟨0, by omega, rfl, q, fun e he => absurd he (by omega)⟩)⟩
    · refine br_f (nI_ne0 (by omega) (by omega)) ⟨35, sy_s101 B h hpr hrl k 34 0 _ (-1) (by omega) hT (Or.inl ⟨rfl, fun e he z => ?_⟩)⟩
      obtain rfl : e = 0 := by omega
      exact q z
  | succ d ih =>
    intro x be hx hb
    have cx : (nI x).toNatClampNeg = x := nI_clamp (by omega)
    refine br_f (nI_ge (b := 1024) (by omega) (by decide)) ⟨vp_in_nI (by omega) (by omega), ?_⟩
    rw [cx]
    refine nm_e (nm_r (nI_1 x) (ih (x + 1) _ (by omega) (fun y hy => ?_)))
    by_cases e : y = x
    · subst e; exact sj_us
    · rw [sj_un e]; exact hb y (by omega)
theorem sj_P4 {H : Nat → Bool} {L : Nat → Nat} : sj_P (fun j => sj_x H L j * 4 ^ j) 5 = sj_fc H L := by
  show 0 + sj_x H L 0 * 4 ^ 0 + sj_x H L 1 * 4 ^ 1 + sj_x H L 2 * 4 ^ 2 + sj_x H L 3 * 4 ^ 3 + sj_x H L 4 * 4 ^ 4 = sj_x H L 0 + sj_x H L 1 * 4 + sj_x H L 2 * 16 + sj_x H L 3 * 64 + sj_x H L 4 * 256
  omega
theorem sy_s7 {post : SY → Prop} (B : sj_bnd p rel len kin due wt) (h : sj_hd p hd) (hpr : sj_le pr 31) (hrl : sj_rl p pr A)
    (k : ∀ be' fd', sj_T be' (fun b x => sj_rc p.testBit (sj_N len) (sj_N rel) A (sj_My mi mb) (sj_KK kin due wt b) 34 x) → sj_FD fd' 34 (sj_Z p rel len kin due wt A (sj_My mi mb)) → post (mo, lim, nI (sj_Fu p len), fd', mi, mb, hd, rel, len, kin, due, wt, pr, be')) :
    ∀ d j, j + d = 5 → wY_solve_7 post mo lim fd mi mb hd rel len kin due wt pr be (d + 1) (nI j) (nI (sj_P (fun j => sj_x p.testBit (sj_N len) j * 4 ^ j) j)) := by
  intro d
  induction d with
  | zero =>
    intro j hj
    have hj : j = 5 := hj
    subst hj
    rw [sj_P4]
    exact br_t (by decide) ⟨1025, sy_s52 B h hpr hrl k 1024 0 be (by omega) (fun y hy => absurd hy (by omega))⟩
  | succ d ih =>
    intro j hj
    have hj5 : j < 5 := by omega
    have vj : vp_in (nI j) 5 := vp_in_nI hj5 (by omega)
    have cj : (nI j).toNatClampNeg = j := nI_clamp (by omega)
    obtain ⟨el, ll⟩ := sj_Ne B.2.2.1 (by omega) hj5
    have nx := ih (j + 1) (by omega)
    have e5 : sj_P (fun j => sj_x p.testBit (sj_N len) j * 4 ^ j) (j + 1) = sj_P (fun j => sj_x p.testBit (sj_N len) j * 4 ^ j) j + sj_x p.testBit (sj_N len) j * 4 ^ j := rfl
    rw [e5] at nx
    refine br_f (nI_ge (b := 5) hj5 (by decide)) ⟨vj, ?_⟩
    rw [cj]
    by_cases q : p.testBit j = true
    · rw [sj_xt q] at nx
      have es : len j <<< ((2 * nI j) &&& 31) = nI (sj_N len j * 4 ^ j) := by
        have p4 : 4 ^ j ≤ 256 := by rcases sj_c5 hj5 with rfl | rfl | rfl | rfl | rfl <;> decide
        have mm : sj_N len j * 4 ^ j ≤ 3 * 256 := Nat.mul_le_mul ll p4
        rw [el, pk_shlN _ (2 * j) (sj_s2 j hj5) (by rw [sj_24 j hj5]; omega), sj_24 j hj5]
      refine br_f (sj_hd1 h hj5 q) ⟨vj, ?_⟩
      rw [es]
      exact nm_r (nI_add _ _) (nm_r (nI_1 j) nx)
    · rw [sj_xf q, Nat.zero_mul, Nat.add_zero] at nx
      exact br_t (sj_hd0 h hj5 q) (nm_r (Int32.add_zero _) (nm_r (nI_1 j) nx))
theorem sy_solve {post : SY → Prop} (B : sj_bnd p rel len kin due wt) (h : sj_hd p hd) (hpr : sj_le pr 31) (hrl : sj_rl p pr A)
    (k : ∀ be' fd', sj_T be' (fun b x => sj_rc p.testBit (sj_N len) (sj_N rel) A (sj_My mi mb) (sj_KK kin due wt b) 34 x) → sj_FD fd' 34 (sj_Z p rel len kin due wt A (sj_My mi mb)) → post (mo, lim, nI (sj_Fu p len), fd', mi, mb, hd, rel, len, kin, due, wt, pr, be')) :
    wpY_solve post (mo, lim, fu, fd, mi, mb, hd, rel, len, kin, due, wt, pr, be) :=
  ⟨6, sy_s7 B h hpr hrl k 5 0 (by omega)⟩
end
