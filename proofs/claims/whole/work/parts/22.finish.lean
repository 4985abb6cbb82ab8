/-! ===== the least finish of a job ===== -/
section
variable {H : Nat → Bool} {L R : Nat → Nat} {A : Nat → Nat → Bool} {M M' K : Nat → Nat → Prop}
theorem sj_monoM {T : Nat} (hM : ∀ j u, j < 5 → H j = true → u < T → M j u → M' j u) : ∀ t s, t ≤ T → sj_rc H L R A M K t s → sj_rc H L R A M' K t s := by
  intro t
  induction t with
  | zero => exact fun s _ h => h
  | succ t ih =>
    intro s ht h
    rcases h with h | ⟨j, s', ⟨hj, hH, h1, h2, h3, h4, h5⟩, h, rfl⟩
    · exact Or.inl (ih s (by omega) h)
    · exact Or.inr ⟨j, s', ⟨hj, hH, h1, h2, h3, hM j t hj hH (by omega) h4, h5⟩, ih s' (by omega) h, rfl⟩
end
def sj_Mf (id f j t : Nat) : Prop := j = id → t < f
def sj_Gf (p : Nat) (rel len kin due wt af : Nat → Int32) (b : Int) (id f : Nat) : Prop := sj_G p rel len kin due wt af (sj_Mf id f) b 34 (sj_Fu p len)
theorem sj_Gfy {p : Nat} {rel len kin due wt af : Nat → Int32} {b : Int} {id f : Nat} (hid : id < 5) (hf : f ≤ 34) :
    sj_rc p.testBit (sj_N len) (sj_N rel) (sj_A p af) (sj_My (nI id) (nI f)) (sj_K kin due wt b) 34 (sj_Fu p len) ↔ sj_Gf p rel len kin due wt af b id f := by
  constructor
  · exact fun h => sj_monoM (T := 34) (fun j u hj _ hu m e => by
      have q := m (by rw [e])
      exact (nI_ltI (by omega) (by omega)).mp q) 34 _ (Nat.le_refl _) h
  · exact fun h => sj_monoM (T := 34) (fun j u hj _ hu m e => nI_lt (m ((nI_eq (by omega) (by omega)).mp e)) (by omega)) 34 _ (Nat.le_refl _) h
/-- a good plan does every job by 33 -/
theorem sj_Gf33 {p : Nat} {rel len kin due wt af : Nat → Int32} {b : Int} {id : Nat} (B : sj_bnd p rel len kin due wt) (h : sj_G p rel len kin due wt af sj_M0 b 34 (sj_Fu p len)) : sj_Gf p rel len kin due wt af b id 33 := by
  have h33 : sj_rc p.testBit (sj_N len) (sj_N rel) (sj_A p af) sj_M0 (sj_K kin due wt b) 33 (sj_Fu p len) :=
    sj_shift (sj_hL B) (fun j hj _ => (sj_Ne B.2.1 (by omega) hj).2) (fun _ _ _ _ m => m) (fun j t hj _ q => sj_Km B hj q) h
  exact Or.inl (sj_monoM (T := 33) (M' := sj_Mf id 33) (fun j u _ _ hu _ _ => hu) 33 _ (Nat.le_refl _) h33)
section
variable {c b : Int32} {p : Nat} {rel len kin due wt af : Nat → Int32}
theorem sx_ef45 {post : Int32 → SX → Prop} {J14 : Int32 → Int32 → Int32 → Int32 → (Nat → Int32) → (Nat → Int32) → (Nat → Int32) → (Nat → Int32) → (Nat → Int32) → (Nat → Int32) → (Nat → Int32) → (Nat → Int32) → (Nat → Int32) → Prop} {x1 : Int32} {rk : Nat → Nat} {st dl lf : Nat → Int32} {id f : Nat}
    (B : sj_bnd p rel len kin due wt) (haf : sj_le af 31) (hrk : sj_ord (sj_A p af) rk) {D : Nat → Nat} (hdl : ∀ j, j < 5 → dl j = nI (D j) ∧ D j ≤ 33)
    (hD : ∀ j t : Nat, j < 5 → p.testBit j = true → t < 33 → ((sj_Mf id f j t ∧ sj_K kin due wt b.toInt j (t + 1)) ↔ (t : Int) + 1 ≤ (D j : Int)))
    (k1 : sj_Gf p rel len kin due wt af b.toInt id f → ∀ st' dl' lf', post (nI f) (c, b, nI p, rel, len, kin, due, wt, af, st', dl', lf'))
    (k0 : ¬ sj_Gf p rel len kin due wt af b.toInt id f → ∀ st' dl' lf', J14 (nI (f + 1)) c b (nI p) rel len kin due wt af st' dl' lf') :
    wX_earliestFinish_45 post J14 x1 (nI f) c b (nI p) rel len kin due wt af st dl lf := by
  unfold wX_earliestFinish_45
  refine sx_met B haf hrk (M := sj_Mf id f) (K := sj_K kin due wt b.toInt) hdl (fun j t _ _ m e => ?_) (fun j t hj _ q => sj_Km B hj q) hD (fun rc s d l => ?_) (fun rc s d l => ?_)
  · have := m e
    omega
  · exact br_f (by decide) (k1 rc s d l)
  · exact br_t rfl (nm_r (nI_1 f) (k0 rc s d l))
theorem sx_ef14 {post : Int32 → SX → Prop} {rk : Nat → Nat} {id : Nat} (hid : id < 5) (B : sj_bnd p rel len kin due wt) (haf : sj_le af 31) (hrk : sj_ord (sj_A p af) rk) (g33 : sj_Gf p rel len kin due wt af b.toInt id 33)
    (k : ∀ f, 1 ≤ f → f ≤ 33 → sj_Gf p rel len kin due wt af b.toInt id f → (∀ f', 1 ≤ f' → f' < f → ¬ sj_Gf p rel len kin due wt af b.toInt id f') → ∀ st' dl' lf', post (nI f) (c, b, nI p, rel, len, kin, due, wt, af, st', dl', lf')) :
    ∀ d f st dl lf, f + d = 33 → 1 ≤ f → (∀ f', 1 ≤ f' → f' < f → ¬ sj_Gf p rel len kin due wt af b.toInt id f') → wX_earliestFinish_14 post (nI id) (d + 1) (nI f) c b (nI p) rel len kin due wt af st dl lf := by
  intro d
  induction d with
  | zero =>
    intro f st dl lf hf h1 n
    have hf : f = 33 := hf
    subst hf
    exact br_t (by decide) (k 33 h1 (by omega) g33 n st dl lf)
  | succ d ih =>
    intro f st dl lf hf h1 n
    have vi : vp_in (nI id) 5 := vp_in_nI hid (by omega)
    have ci : (nI id).toNatClampNeg = id := nI_clamp (by omega)
    have next : ¬ sj_Gf p rel len kin due wt af b.toInt id f → ∀ st' dl' lf', wX_earliestFinish_14 post (nI id) (d + 1) (nI (f + 1)) c b (nI p) rel len kin due wt af st' dl' lf' := by
      intro ng s d' l
      refine ih (f + 1) s d' l (by omega) (by omega) (fun f' a1 a2 => ?_)
      by_cases e : f' = f
      · subst e; exact ng
      · exact n f' a1 (by omega)
    refine br_f (nI_ge (b := 33) (by omega) (by decide)) (sx_setDl (fun dl' hdl' => ?_))
    have hN : ∀ j, j < 5 → dl' j = nI (sj_N dl' j) ∧ sj_lt kin due wt b j (sj_N dl' j) := fun j hj => by
      obtain ⟨D, e, h⟩ := hdl' j hj
      have h1 := h.1
      have q : sj_N dl' j = D := sj_NI e (by omega)
      rw [q]
      exact ⟨e, h⟩
    have hK : ∀ j t : Nat, j < 5 → t < 33 → (sj_K kin due wt b.toInt j (t + 1) ↔ (t : Int) + 1 ≤ (sj_N dl' j : Int)) := fun j t hj ht => sj_ltD B hj (hN j hj).2 t ht
    obtain ⟨ed, ld⟩ := hN id hid
    have ld3 := ld.1
    refine ⟨vi, ?_⟩
    show (dl' (nI id).toNatClampNeg ≤ nI f → _) ∧ (¬ dl' (nI id).toNatClampNeg ≤ nI f → _)
    rw [ci]
    by_cases q : sj_N dl' id ≤ f
    · refine br_t (by rw [ed]; exact nI_le q (by omega)) (sx_ef45 (D := sj_N dl') B haf hrk (fun j hj => ⟨(hN j hj).1, (hN j hj).2.1⟩) (fun j t hj _ ht => ?_) (fun g s d l => k f h1 (by omega) g n s d l) next)
      rw [← hK j t hj ht]
      refine ⟨fun z => z.2, fun z => ⟨fun e => ?_, z⟩⟩
      subst e
      have := (hK j t hj ht).mp z
      omega
    · refine br_f (by rw [ed]; exact nI_ge (by omega) (by omega)) ⟨vi, nm_e (sx_ef45 (D := fun j => if j = id then f else sj_N dl' j) B haf hrk (fun j hj => ?_) (fun j t hj _ ht => ?_) (fun g s d l => k f h1 (by omega) g n s d l) next)⟩
      · show upd dl' id (nI f) j = nI (if j = id then f else sj_N dl' j) ∧ (if j = id then f else sj_N dl' j) ≤ 33
        by_cases e : j = id
        · subst e
          rw [if_pos rfl, sj_us]
          exact ⟨rfl, by omega⟩
        · rw [if_neg e, sj_un e]
          exact ⟨(hN j hj).1, (hN j hj).2.1⟩
      · show (sj_Mf id f j t ∧ sj_K kin due wt b.toInt j (t + 1)) ↔ (t : Int) + 1 ≤ ((if j = id then f else sj_N dl' j : Nat) : Int)
        rw [hK j t hj ht]
        by_cases e : j = id
        · subst e
          rw [if_pos rfl]
          refine ⟨fun z => ?_, fun z => ⟨fun _ => by omega, by omega⟩⟩
          have := z.1 rfl
          omega
        · rw [if_neg e]
          exact ⟨fun z => z.2, fun z => ⟨fun w => absurd w e, z⟩⟩
end
section
variable {mo lim mb : Int32} {p : Nat} {hd rel len kin due wt af pr : Nat → Int32}
theorem sy_ef19 {post : Int32 → SY → Prop} {id : Nat} (hid : id < 5) (B : sj_bnd p rel len kin due wt) (h : sj_hd p hd) (hlk : sj_lk p af pr) (hlim : -200 ≤ lim.toInt ∧ lim.toInt ≤ 1000)
    (k : ∀ x2 : Int32, ((x2 = -2000 ∧ ∀ g, 0 < g → g ≤ 34 → ¬ sj_Gf p rel len kin due wt af lim.toInt id g) ∨ ∃ g, 0 < g ∧ g ≤ 34 ∧ x2 = nI g ∧ sj_Gf p rel len kin due wt af lim.toInt id g ∧ ∀ g', 0 < g' → g' < g → ¬ sj_Gf p rel len kin due wt af lim.toInt id g') →
      ∀ fu' fd' mb' be', post x2 (mo, lim, fu', fd', -1, mb', hd, rel, len, kin, due, wt, pr, be')) :
    ∀ f (x2 : Int32) fu fd mi mb be, f ≤ 34 → ((x2 = -2000 ∧ ∀ g, f < g → g ≤ 34 → ¬ sj_Gf p rel len kin due wt af lim.toInt id g) ∨ ∃ g, f < g ∧ g ≤ 34 ∧ x2 = nI g ∧ sj_Gf p rel len kin due wt af lim.toInt id g ∧ ∀ g', f < g' → g' < g → ¬ sj_Gf p rel len kin due wt af lim.toInt id g') →
      wY_earliestFinish_19 post (nI id) (f + 1) x2 (nI f) mo lim fu fd mi mb hd rel len kin due wt pr be := by
  intro f
  induction f with
  | zero =>
    intro x2 fu fd mi mb be _ g
    exact br_t (by decide) (k x2 g fu fd mb be)
  | succ f ih =>
    intro x2 fu fd mi mb be hf g
    refine br_f (nI_nlt (b := 1) (by omega) (by omega)) (sy_good B h hlk.2.1 (sj_rlk hlk) hlim (fun rc fu' fd' be' => ?_) (fun rc fu' fd' be' => ?_))
    · have gg := (sj_Gfy hid hf).mp rc
      exact br_f (by decide) (nm_r (pk_m1 f) (ih (nI (f + 1)) fu' fd' _ _ be' (by omega) (Or.inr ⟨f + 1, by omega, hf, rfl, gg, fun g' a1 a2 => absurd a1 (by omega)⟩)))
    · have ng : ¬ sj_Gf p rel len kin due wt af lim.toInt id (f + 1) := fun z => rc ((sj_Gfy hid hf).mpr z)
      refine br_t rfl (nm_r (pk_m1 f) (ih x2 fu' fd' _ _ be' (by omega) ?_))
      rcases g with ⟨e, n⟩ | ⟨w, w1, w2, e, w3, n⟩
      · refine Or.inl ⟨e, fun g' a1 a2 => ?_⟩
        by_cases z : g' = f + 1
        · subst z; exact ng
        · exact n g' (by omega) a2
      · refine Or.inr ⟨w, by omega, w2, e, w3, fun g' a1 a2 => ?_⟩
        by_cases z : g' = f + 1
        · subst z; exact ng
        · exact n g' (by omega) a2
end
/-! ===== how long a job may be put off ===== -/
def sj_Gd (p : Nat) (rel len kin due wt af : Nat → Int32) (b : Int) (id r0 d : Nat) : Prop := sj_G p (upd rel id (nI (r0 + d))) len kin due wt af sj_M0 b 34 (sj_Fu p len)
def sj_dI (G : Nat → Prop) (d : Nat) (x : Int32) : Prop := (x = 0 ∧ ∀ g, 1 ≤ g → g < d → ¬ G g) ∨ ∃ g, 1 ≤ g ∧ g < d ∧ x = nI g ∧ G g ∧ ∀ g', g < g' → g' < d → ¬ G g'
theorem sj_dI1 {G : Nat → Prop} {d : Nat} {x : Int32} (hd : 1 ≤ d) (g : G d) : sj_dI G (d + 1) (nI d) := Or.inr ⟨d, hd, by omega, rfl, g, fun g' a1 a2 => absurd a2 (by omega)⟩
theorem sj_dI0 {G : Nat → Prop} {d : Nat} {x : Int32} (h : sj_dI G d x) (n : ¬ G d) : sj_dI G (d + 1) x := by
  rcases h with ⟨e, h⟩ | ⟨g, h1, h2, e, h3, h⟩
  · refine Or.inl ⟨e, fun g' a1 a2 => ?_⟩
    by_cases z : g' = d
    · subst z; exact n
    · exact h g' a1 (by omega)
  · refine Or.inr ⟨g, h1, by omega, e, h3, fun g' a1 a2 => ?_⟩
    by_cases z : g' = d
    · subst z; exact n
    · exact h g' a1 (by omega)
theorem sj_dIu {G : Nat → Prop} {d : Nat} {x y : Int32} (h : sj_dI G d x) (h' : sj_dI G d y) : y = x := by
  rcases h with ⟨e, h⟩ | ⟨g, h1, h2, e, h3, h⟩ <;> rcases h' with ⟨e', h'⟩ | ⟨g', h1', h2', e', h3', h'⟩
  · rw [e, e']
  · exact absurd h3' (h g' h1' h2')
  · exact absurd h3 (h' g h1 h2)
  · rcases Nat.lt_trichotomy g g' with q | q | q
    · exact absurd h3' (h g' q h2')
    · rw [e, e', q]
    · exact absurd h3 (h' g q h2)
theorem sj_udl {rel rl : Nat → Int32} {id : Nat} {x : Int32} (h : ∀ k, k ≠ id → rl k = rel k) : upd rl id x = upd rel id x := by
  funext k
  by_cases e : k = id
  · subst e; rw [sj_us, sj_us]
  · rw [sj_un e, sj_un e, h k e]
theorem sj_bndD {p : Nat} {rel len kin due wt : Nat → Int32} (B : sj_bnd p rel len kin due wt) {id n : Nat} (hn : n ≤ 18) : sj_bnd p (upd rel id (nI n)) len kin due wt :=
  ⟨B.1, sj_leU B.2.1 hn, B.2.2.1, B.2.2.2.1, B.2.2.2.2.1, B.2.2.2.2.2.1, B.2.2.2.2.2.2⟩
section
variable {c b : Int32} {p : Nat} {rel len kin due wt af : Nat → Int32}
theorem sx_dl24 {post : Int32 → SX → Prop} {rk : Nat → Nat} {id r0 : Nat} (hid : id < 5) (B : sj_bnd p rel len kin due wt) (haf : sj_le af 31) (hrk : sj_ord (sj_A p af) rk) (hr : rel id = nI r0) (hr9 : r0 ≤ 9)
    (k : ∀ x3, sj_dI (sj_Gd p rel len kin due wt af b.toInt id r0) 10 x3 → ∀ st' dl' lf', post x3 (c, b, nI p, rel, len, kin, due, wt, af, st', dl', lf')) :
    ∀ m d x3 rl st dl lf, d + m = 10 → 1 ≤ d → (∀ k, k ≠ id → rl k = rel k) → sj_dI (sj_Gd p rel len kin due wt af b.toInt id r0) d x3 → wX_delay_24 post (nI id) (nI r0) (m + 1) x3 (nI d) c b (nI p) rl len kin due wt af st dl lf := by
  intro m
  induction m with
  | zero =>
    intro d x3 rl st dl lf hd _ hrl h
    have hd : d = 10 := hd
    subst hd
    have ci : (nI id).toNatClampNeg = id := nI_clamp (by omega)
    have e : upd rl (nI id).toNatClampNeg (nI r0) = rel := by rw [ci, sj_udl hrl, sj_uid1 hr]
    exact br_t (by decide) ⟨vp_in_nI hid (by omega), nm_r e (k x3 h st dl lf)⟩
  | succ m ih =>
    intro d x3 rl st dl lf hd h1 hrl h
    have ci : (nI id).toNatClampNeg = id := nI_clamp (by omega)
    have e : upd rl (nI id).toNatClampNeg (nI r0 + nI d) = upd rel id (nI (r0 + d)) := by rw [ci, nI_add, sj_udl hrl]
    have ho : ∀ k, k ≠ id → upd rel id (nI (r0 + d)) k = rel k := fun k hk => sj_un hk
    refine br_f (nI_nlt (a := 9) (by omega) (by omega)) ⟨vp_in_nI hid (by omega), nm_r e (sx_plan (sj_bndD B (by omega)) haf hrk (fun g s dd l => ?_) (fun g s dd l => ?_))⟩
    · exact br_f (by decide) (nm_r (nI_1 d) (ih (d + 1) (nI d) _ s dd l (by omega) (by omega) ho (sj_dI1 (x := 0) h1 g)))
    · exact br_t rfl (nm_r (nI_1 d) (ih (d + 1) x3 _ s dd l (by omega) (by omega) ho (sj_dI0 h g)))
end
section
variable {mo lim mb : Int32} {p : Nat} {hd rel len kin due wt af pr : Nat → Int32}
theorem sy_dl24 {post : Int32 → SY → Prop} {id r0 : Nat} (hid : id < 5) (B : sj_bnd p rel len kin due wt) (hh : sj_hd p hd) (hlk : sj_lk p af pr) (hlim : -200 ≤ lim.toInt ∧ lim.toInt ≤ 1000) (hr : rel id = nI r0) (hr9 : r0 ≤ 9)
    (k : ∀ x3, sj_dI (sj_Gd p rel len kin due wt af lim.toInt id r0) 10 x3 → ∀ fu' fd' be', post x3 (mo, lim, fu', fd', -1, mb, hd, rel, len, kin, due, wt, pr, be')) :
    ∀ m d x3 rl fu fd be, d + m = 10 → 1 ≤ d → (∀ k, k ≠ id → rl k = rel k) → sj_dI (sj_Gd p rel len kin due wt af lim.toInt id r0) d x3 → wY_delay_24 post (nI id) (nI r0) (m + 1) x3 (nI d) mo lim fu fd (-1) mb hd rl len kin due wt pr be := by
  intro m
  induction m with
  | zero =>
    intro d x3 rl fu fd be hd _ hrl h
    have hd : d = 10 := hd
    subst hd
    have ci : (nI id).toNatClampNeg = id := nI_clamp (by omega)
    have e : upd rl (nI id).toNatClampNeg (nI r0) = rel := by rw [ci, sj_udl hrl, sj_uid1 hr]
    exact br_t (by decide) ⟨vp_in_nI hid (by omega), nm_r e (k x3 h fu fd be)⟩
  | succ m ih =>
    intro d x3 rl fu fd be hd h1 hrl h
    have ci : (nI id).toNatClampNeg = id := nI_clamp (by omega)
    have e : upd rl (nI id).toNatClampNeg (nI r0 + nI d) = upd rel id (nI (r0 + d)) := by rw [ci, nI_add, sj_udl hrl]
    have ho : ∀ k, k ≠ id → upd rel id (nI (r0 + d)) k = rel k := fun k hk => sj_un hk
    refine br_f (nI_nlt (a := 9) (by omega) (by omega)) ⟨vp_in_nI hid (by omega), nm_r e (sy_good0 (af := af) (sj_bndD B (by omega)) hh hlk hlim (fun g fu' fd' be' => ?_) (fun g fu' fd' be' => ?_))⟩
    · exact br_f (by decide) (nm_r (nI_1 d) (ih (d + 1) (nI d) _ fu' fd' be' (by omega) (by omega) ho (sj_dI1 (x := 0) h1 g)))
    · exact br_t rfl (nm_r (nI_1 d) (ih (d + 1) x3 _ fu' fd' be' (by omega) (by omega) ho (sj_dI0 h g)))
end
