/-! ===== the component: starts and deadlines carried along the links ===== -/
def sj_Pf (i j x y : Nat) : Prop := x < i ∨ (x = i ∧ y < j)
def sj_Pb (i j x y : Nat) : Prop := y < i ∨ (y = i ∧ x < j)
section
variable {c b : Int32} {p : Nat} {rel len kin due wt af st dl lf : Nat → Int32} {B F : Nat → Int} {rk : Nat → Nat}
theorem sx_ss48 {post : SX → Prop} {J27 J34 : Int32 → (Nat → Int32) → (Nat → Int32) → (Nat → Int32) → (Nat → Int32) → (Nat → Int32) → (Nat → Int32) → (Nat → Int32) → (Nat → Int32) → (Nat → Int32) → Prop} {x1 f : Int32} {r i m : Nat}
    (hlen : sj_le len 3) (hF : sj_isF (sj_A p af) (sj_N len) B F) (hrk : sj_ord (sj_A p af) rk) (hB : ∀ j, j < 5 → -200 ≤ B j) (hU : ∀ j, j < 5 → F j ≤ 200) (hi : i < 5) (hm : m < 32) (hmA : ∀ j, j < 5 → m.testBit j = sj_A p af i j)
    (k : ∀ st', sj_ri (sj_A p af) (sj_N len) B F rk r (sj_Pf (i + 1) 0) (fun j => (st' j).toInt) → J34 (nI (i + 1)) rel len kin due wt af st' dl lf) :
    ∀ d j st, j + d = 5 → sj_ri (sj_A p af) (sj_N len) B F rk r (sj_Pf i j) (fun j => (st j).toInt) → wX_spreadStarts_48 post J27 J34 x1 (nI i) (nI m) c b f (d + 1) (nI j) rel len kin due wt af st dl lf := by
  intro d
  induction d with
  | zero =>
    intro j st hj h
    have hj : j = 5 := hj
    subst hj
    exact br_t (by decide) (nm_r (nI_1 i) (k st (sj_ris h (fun x y hx hy _ q => by unfold sj_Pf at q ⊢; omega))))
  | succ d ih =>
    intro j st hj h
    have hj5 : j < 5 := by omega
    have vj : vp_in (nI j) 5 := vp_in_nI hj5 (by omega)
    have vi : vp_in (nI i) 5 := vp_in_nI hi (by omega)
    have cj : (nI j).toNatClampNeg = j := nI_clamp (by omega)
    have ci : (nI i).toNatClampNeg = i := nI_clamp (by omega)
    have nx : ∀ x y, sj_Pf i (j + 1) x y → sj_Pf i j x y ∨ (x = i ∧ y = j) := fun x y q => by unfold sj_Pf at q ⊢; omega
    refine br_f (nI_ge (b := 5) hj5 (by decide)) ?_
    by_cases a : sj_A p af i j = true
    · have bt : ¬ (nI m &&& ((1 : Int32) <<< (nI j &&& 31))) = 0 := fun z => by
        rw [sj_bit m hm j hj5, hmA j hj5, a] at z
        exact absurd z (by decide)
      obtain ⟨el, ll⟩ := sj_Ne hlen (by omega) hi
      have li : (len i).toInt = (sj_N len i : Int) := by rw [el, nI_toInt (by omega)]
      have bi : B i ≤ (st i).toInt ∧ (st i).toInt ≤ F i := h.1 i hi
      have b0 := hB i hi
      have u0 := hU i hi
      have ad : (st i + len i).toInt = (st i).toInt + (sj_N len i : Int) := by rw [sj_addI (by omega) (by omega) (by omega) (by omega), li]
      refine br_f bt ⟨vj, vi, vi, ?_⟩
      rw [ci, cj]
      by_cases q : (st i + len i) ≤ st j
      · refine br_t q (nm_r (nI_1 j) (ih (j + 1) st (by omega) (sj_rino hrk h hi (fun _ => ?_) nx)))
        show (st i).toInt + (sj_N len i : Int) ≤ (st j).toInt
        rw [sj_leI, ad] at q
        exact q
      · refine br_f q ⟨vi, vi, vj, nm_e (nm_r (nI_1 j) (ih (j + 1) _ (by omega) (sj_riup hF hrk h hi hj5 a ?_ ?_ (fun x hx ne => ?_) nx)))⟩
        · show (st j).toInt < (st i).toInt + (sj_N len i : Int)
          rw [sj_leI, ad] at q
          omega
        · show (upd st j (st i + len i) j).toInt = (st i).toInt + (sj_N len i : Int)
          rw [sj_us, ad]
        · show (upd st j (st i + len i) x).toInt = (st x).toInt
          rw [sj_un ne]
    · have bt : (nI m &&& ((1 : Int32) <<< (nI j &&& 31))) = 0 := by
        rw [sj_bit m hm j hj5, hmA j hj5]
        cases z : sj_A p af i j
        · rfl
        · exact absurd z a
      exact br_t bt (nm_r (nI_1 j) (ih (j + 1) st (by omega) (sj_rino hrk h hi (fun z => absurd z a) nx)))
theorem sx_ss34 {post : SX → Prop} {J27 : Int32 → (Nat → Int32) → (Nat → Int32) → (Nat → Int32) → (Nat → Int32) → (Nat → Int32) → (Nat → Int32) → (Nat → Int32) → (Nat → Int32) → (Nat → Int32) → Prop} {r : Nat}
    (hp : p < 32) (haf : sj_le af 31) (hlen : sj_le len 3) (hF : sj_isF (sj_A p af) (sj_N len) B F) (hrk : sj_ord (sj_A p af) rk) (hB : ∀ j, j < 5 → -200 ≤ B j) (hU : ∀ j, j < 5 → F j ≤ 200)
    (k : ∀ st', sj_ri (sj_A p af) (sj_N len) B F rk (r + 1) (sj_Pf 0 0) (fun j => (st' j).toInt) → J27 (nI (r + 1)) rel len kin due wt af st' dl lf) :
    ∀ d i st, i + d = 5 → sj_ri (sj_A p af) (sj_N len) B F rk r (sj_Pf i 0) (fun j => (st j).toInt) → wX_spreadStarts_34 post J27 (nI r) c b (nI p) (d + 1) (nI i) rel len kin due wt af st dl lf := by
  intro d
  induction d with
  | zero =>
    intro i st hi h
    have hi : i = 5 := hi
    subst hi
    exact br_t (by decide) (nm_r (nI_1 r) (k st (sj_rinx hF h (fun x y hx _ _ => Or.inl hx) (fun x y q => by unfold sj_Pf at q; omega))))
  | succ d ih =>
    intro i st hi h
    have hi5 : i < 5 := by omega
    exact br_f (nI_ge (b := 5) hi5 (by decide)) (sx_fol hp haf hi5 (fun m hm hmA => ⟨6, sx_ss48 hlen hF hrk hB hU hi5 hm hmA (fun st' h' => ih (i + 1) st' (by omega) h') 5 0 st (by omega) h⟩))
theorem sx_ss27 {post : SX → Prop} (hp : p < 32) (haf : sj_le af 31) (hlen : sj_le len 3) (hF : sj_isF (sj_A p af) (sj_N len) B F) (hrk : sj_ord (sj_A p af) rk) (h4 : ∀ j, j < 5 → rk j ≤ 4) (hB : ∀ j, j < 5 → -200 ≤ B j) (hU : ∀ j, j < 5 → F j ≤ 200)
    (k : ∀ st', (∀ j, j < 5 → (st' j).toInt = F j) → post (c, b, nI p, rel, len, kin, due, wt, af, st', dl, lf)) :
    ∀ d r st, r + d = 5 → sj_ri (sj_A p af) (sj_N len) B F rk r (sj_Pf 0 0) (fun j => (st j).toInt) → wX_spreadStarts_27 post c b (nI p) (d + 1) (nI r) rel len kin due wt af st dl lf := by
  intro d
  induction d with
  | zero =>
    intro r st hr h
    have hr : r = 5 := hr
    subst hr
    exact br_t (by decide) (k st (sj_ri5 h4 h))
  | succ d ih =>
    intro r st hr h
    exact br_f (nI_ge (b := 5) (by omega) (by decide)) ⟨6, sx_ss34 hp haf hlen hF hrk hB hU (fun st' h' => ih (r + 1) st' (by omega) h') 5 0 st (by omega) h⟩
theorem sx_ss2 {post : SX → Prop} (hp : p < 32) (haf : sj_le af 31) (hlen : sj_le len 3) (hF : sj_isF (sj_A p af) (sj_N len) (fun j => (rel j).toInt) F) (hrk : sj_ord (sj_A p af) rk) (h4 : ∀ j, j < 5 → rk j ≤ 4) (hB : ∀ j, j < 5 → -200 ≤ (rel j).toInt) (hU : ∀ j, j < 5 → F j ≤ 200)
    (k : ∀ st', (∀ j, j < 5 → (st' j).toInt = F j) → post (c, b, nI p, rel, len, kin, due, wt, af, st', dl, lf)) :
    ∀ d i st, i + d = 5 → (∀ j, j < i → st j = rel j) → wX_spreadStarts_2 post c b (nI p) (d + 1) (nI i) rel len kin due wt af st dl lf := by
  intro d
  induction d with
  | zero =>
    intro i st hi h
    have hi : i = 5 := hi
    subst hi
    exact br_t (by decide) ⟨5, sx_ss27 hp haf hlen hF hrk h4 hB hU k 4 1 st (by omega) (sj_ri0 hF hrk (fun x y q => by unfold sj_Pf at q; omega) (fun j hj => by show (st j).toInt = (rel j).toInt; rw [h j hj]))⟩
  | succ d ih =>
    intro i st hi h
    have hi5 : i < 5 := by omega
    have vi : vp_in (nI i) 5 := vp_in_nI hi5 (by omega)
    have ci : (nI i).toNatClampNeg = i := nI_clamp (by omega)
    refine br_f (nI_ge (b := 5) hi5 (by decide)) ⟨vi, vi, ?_⟩
    rw [ci]
    refine nm_e (nm_r (nI_1 i) (ih (i + 1) _ (by omega) (fun j hj => ?_)))
    by_cases e : j = i
    · subst e; exact sj_us
    · rw [sj_un e]; exact h j (by omega)
theorem sx_starts {post : SX → Prop} (hp : p < 32) (haf : sj_le af 31) (hlen : sj_le len 3) (hF : sj_isF (sj_A p af) (sj_N len) (fun j => (rel j).toInt) F) (hrk : sj_ord (sj_A p af) rk) (h4 : ∀ j, j < 5 → rk j ≤ 4) (hB : ∀ j, j < 5 → -200 ≤ (rel j).toInt) (hU : ∀ j, j < 5 → F j ≤ 200)
    (k : ∀ st', (∀ j, j < 5 → (st' j).toInt = F j) → post (c, b, nI p, rel, len, kin, due, wt, af, st', dl, lf)) : wpX_spreadStarts post (c, b, nI p, rel, len, kin, due, wt, af, st, dl, lf) :=
  ⟨6, sx_ss2 hp haf hlen hF hrk h4 hB hU k 5 0 st (by omega) (fun j hj => absurd hj (by omega))⟩
/-! the deadlines, backward -/
theorem sx_sd23 {post : SX → Prop} {J2 J9 : Int32 → (Nat → Int32) → (Nat → Int32) → (Nat → Int32) → (Nat → Int32) → (Nat → Int32) → (Nat → Int32) → (Nat → Int32) → (Nat → Int32) → (Nat → Int32) → Prop} {x1 f : Int32} {r i m : Nat}
    (hlen : sj_le len 3) (hF : sj_isF (fun i j => sj_A p af j i) (sj_N len) B F) (hrk : sj_ord (fun i j => sj_A p af j i) rk) (hB : ∀ j, j < 5 → -200 ≤ B j) (hU : ∀ j, j < 5 → F j ≤ 200) (hi : i < 5) (hm : m < 32) (hmA : ∀ j, j < 5 → m.testBit j = sj_A p af i j)
    (k : ∀ dl', sj_ri (fun i j => sj_A p af j i) (sj_N len) B F rk r (sj_Pb (i + 1) 0) (fun j => - (dl' j).toInt) → J9 (nI (i + 1)) rel len kin due wt af st dl' lf) :
    ∀ d j dl, j + d = 5 → sj_ri (fun i j => sj_A p af j i) (sj_N len) B F rk r (sj_Pb i j) (fun j => - (dl j).toInt) → wX_spreadDeadlines_23 post J2 J9 x1 (nI i) (nI m) c b f (d + 1) (nI j) rel len kin due wt af st dl lf := by
  intro d
  induction d with
  | zero =>
    intro j dl hj h
    have hj : j = 5 := hj
    subst hj
    exact br_t (by decide) (nm_r (nI_1 i) (k dl (sj_ris h (fun x y hx hy _ q => by unfold sj_Pb at q ⊢; omega))))
  | succ d ih =>
    intro j dl hj h
    have hj5 : j < 5 := by omega
    have vj : vp_in (nI j) 5 := vp_in_nI hj5 (by omega)
    have vi : vp_in (nI i) 5 := vp_in_nI hi (by omega)
    have cj : (nI j).toNatClampNeg = j := nI_clamp (by omega)
    have ci : (nI i).toNatClampNeg = i := nI_clamp (by omega)
    have nx : ∀ x y, sj_Pb i (j + 1) x y → sj_Pb i j x y ∨ (x = j ∧ y = i) := fun x y q => by unfold sj_Pb at q ⊢; omega
    refine br_f (nI_ge (b := 5) hj5 (by decide)) ?_
    by_cases a : sj_A p af i j = true
    · have bt : ¬ (nI m &&& ((1 : Int32) <<< (nI j &&& 31))) = 0 := fun z => by
        rw [sj_bit m hm j hj5, hmA j hj5, a] at z
        exact absurd z (by decide)
      obtain ⟨el, ll⟩ := sj_Ne hlen (by omega) hj5
      have li : (len j).toInt = (sj_N len j : Int) := by rw [el, nI_toInt (by omega)]
      have bi : B j ≤ - (dl j).toInt ∧ - (dl j).toInt ≤ F j := h.1 j hj5
      have b0 := hB j hj5
      have u0 := hU j hj5
      have ad : (dl j - len j).toInt = (dl j).toInt - (sj_N len j : Int) := by rw [sj_subI (by omega) (by omega) (by omega) (by omega), li]
      refine br_f bt ⟨vi, vj, vj, ?_⟩
      rw [ci, cj]
      by_cases q : dl i ≤ dl j - len j
      · refine br_t q (nm_r (nI_1 j) (ih (j + 1) dl (by omega) (sj_rino hrk h hj5 (fun _ => ?_) nx)))
        show - (dl j).toInt + (sj_N len j : Int) ≤ - (dl i).toInt
        rw [sj_leI, ad] at q
        omega
      · refine br_f q ⟨vj, vj, vi, nm_e (nm_r (nI_1 j) (ih (j + 1) _ (by omega) (sj_riup hF hrk h hj5 hi a ?_ ?_ (fun x hx ne => ?_) nx)))⟩
        · show - (dl i).toInt < - (dl j).toInt + (sj_N len j : Int)
          rw [sj_leI, ad] at q
          omega
        · show - (upd dl i (dl j - len j) i).toInt = - (dl j).toInt + (sj_N len j : Int)
          rw [sj_us, ad]
          omega
        · show - (upd dl i (dl j - len j) x).toInt = - (dl x).toInt
          rw [sj_un ne]
    · have bt : (nI m &&& ((1 : Int32) <<< (nI j &&& 31))) = 0 := by
        rw [sj_bit m hm j hj5, hmA j hj5]
        cases z : sj_A p af i j
        · rfl
        · exact absurd z a
      exact br_t bt (nm_r (nI_1 j) (ih (j + 1) dl (by omega) (sj_rino hrk h hj5 (fun z => absurd z a) nx)))
theorem sx_sd9 {post : SX → Prop} {J2 : Int32 → (Nat → Int32) → (Nat → Int32) → (Nat → Int32) → (Nat → Int32) → (Nat → Int32) → (Nat → Int32) → (Nat → Int32) → (Nat → Int32) → (Nat → Int32) → Prop} {r : Nat}
    (hp : p < 32) (haf : sj_le af 31) (hlen : sj_le len 3) (hF : sj_isF (fun i j => sj_A p af j i) (sj_N len) B F) (hrk : sj_ord (fun i j => sj_A p af j i) rk) (hB : ∀ j, j < 5 → -200 ≤ B j) (hU : ∀ j, j < 5 → F j ≤ 200)
    (k : ∀ dl', sj_ri (fun i j => sj_A p af j i) (sj_N len) B F rk (r + 1) (sj_Pb 0 0) (fun j => - (dl' j).toInt) → J2 (nI (r + 1)) rel len kin due wt af st dl' lf) :
    ∀ d i dl, i + d = 5 → sj_ri (fun i j => sj_A p af j i) (sj_N len) B F rk r (sj_Pb i 0) (fun j => - (dl j).toInt) → wX_spreadDeadlines_9 post J2 (nI r) c b (nI p) (d + 1) (nI i) rel len kin due wt af st dl lf := by
  intro d
  induction d with
  | zero =>
    intro i dl hi h
    have hi : i = 5 := hi
    subst hi
    exact br_t (by decide) (nm_r (nI_1 r) (k dl (sj_rinx hF h (fun x y _ hy _ => Or.inl hy) (fun x y q => by unfold sj_Pb at q; omega))))
  | succ d ih =>
    intro i dl hi h
    have hi5 : i < 5 := by omega
    exact br_f (nI_ge (b := 5) hi5 (by decide)) (sx_fol hp haf hi5 (fun m hm hmA => ⟨6, sx_sd23 hlen hF hrk hB hU hi5 hm hmA (fun dl' h' => ih (i + 1) dl' (by omega) h') 5 0 dl (by omega) h⟩))
theorem sx_sd2 {post : SX → Prop} (hp : p < 32) (haf : sj_le af 31) (hlen : sj_le len 3) (hF : sj_isF (fun i j => sj_A p af j i) (sj_N len) B F) (hrk : sj_ord (fun i j => sj_A p af j i) rk) (h4 : ∀ j, j < 5 → rk j ≤ 4) (hB : ∀ j, j < 5 → -200 ≤ B j) (hU : ∀ j, j < 5 → F j ≤ 200)
    (k : ∀ dl', (∀ j, j < 5 → - (dl' j).toInt = F j) → post (c, b, nI p, rel, len, kin, due, wt, af, st, dl', lf)) :
    ∀ d r dl, r + d = 5 → sj_ri (fun i j => sj_A p af j i) (sj_N len) B F rk r (sj_Pb 0 0) (fun j => - (dl j).toInt) → wX_spreadDeadlines_2 post c b (nI p) (d + 1) (nI r) rel len kin due wt af st dl lf := by
  intro d
  induction d with
  | zero =>
    intro r dl hr h
    have hr : r = 5 := hr
    subst hr
    exact br_t (by decide) (k dl (sj_ri5 h4 h))
  | succ d ih =>
    intro r dl hr h
    exact br_f (nI_ge (b := 5) (by omega) (by decide)) ⟨6, sx_sd9 hp haf hlen hF hrk hB hU (fun dl' h' => ih (r + 1) dl' (by omega) h') 5 0 dl (by omega) h⟩
theorem sx_deadlines {post : SX → Prop} (hp : p < 32) (haf : sj_le af 31) (hlen : sj_le len 3) (hF : sj_isF (fun i j => sj_A p af j i) (sj_N len) (fun j => - (dl j).toInt) F) (hrk : sj_ord (fun i j => sj_A p af j i) rk) (h4 : ∀ j, j < 5 → rk j ≤ 4) (hB : ∀ j, j < 5 → -200 ≤ - (dl j).toInt) (hU : ∀ j, j < 5 → F j ≤ 200)
    (k : ∀ dl', (∀ j, j < 5 → - (dl' j).toInt = F j) → post (c, b, nI p, rel, len, kin, due, wt, af, st, dl', lf)) : wpX_spreadDeadlines post (c, b, nI p, rel, len, kin, due, wt, af, st, dl, lf) :=
  ⟨5, sx_sd2 hp haf hlen hF hrk h4 hB hU k 4 1 dl (by omega) (sj_ri0 hF hrk (fun x y q => by unfold sj_Pb at q; omega) (fun j hj => rfl))⟩
end
