/-! ===== the reference: its small methods ===== -/
def sj_hd (p : Nat) (hd : Nat → Int32) : Prop := ∀ j, j < 5 → hd j = if p.testBit j = true then 1 else 0
theorem sj_hd1 {p j : Nat} {hd : Nat → Int32} (h : sj_hd p hd) (hj : j < 5) (q : p.testBit j = true) : ¬ hd j = 0 := by
  rw [h j hj, if_pos q]
  decide
theorem sj_hd0 {p j : Nat} {hd : Nat → Int32} (h : sj_hd p hd) (hj : j < 5) (q : ¬ p.testBit j = true) : hd j = 0 := by
  rw [h j hj, if_neg q]
theorem sj_used {s j : Nat} (hs : s < 1024) (hj : j < 5) : (nI s >>> ((2 * nI j) &&& 31)) &&& 3 = nI (sj_dg s j) := by
  rw [pk_shrN (by omega) _ (2 * j) (sj_s2 j hj), sj_24 j hj]
  have h : s / 4 ^ j ≤ s := Nat.div_le_self _ _
  rw [pk_andN (by omega) 2 (by decide)]
  rfl
theorem sj_to {s j : Nat} (hj : j < 5) (h : s + 4 ^ j < 1024) : (nI s + ((1 : Int32) <<< ((2 * nI j) &&& 31))) &&& 1023 = nI (s + 4 ^ j) := by
  have e : ((1 : Int32) <<< ((2 * nI j) &&& 31)) = nI (4 ^ j) := by
    have q := pk_shlN (n := 1) ((2 * nI j) &&& 31) (2 * j) (sj_s2 j hj) (by rw [sj_24 j hj]; omega)
    rw [sj_24 j hj, Nat.one_mul] at q
    exact q
  rw [e, nI_add, pk_andN (by omega) 10 (by decide), Nat.mod_eq_of_lt h]
/-- the units that the job may have, by mustId and mustBy -/
def sj_My (mi mb : Int32) (j t : Nat) : Prop := nI j = mi → nI t < mb
section
variable {mo lim fu fd mi mb : Int32} {p : Nat} {hd rel len kin due wt pr be : Nat → Int32}
theorem sy_thereT {post : Int32 → Prop} (h : sj_hd p hd) {j : Nat} (hj : j < 5) (q : p.testBit j = true) (k : post 1) : wpY_there post (mo, lim, fu, fd, mi, mb, hd, rel, len, kin, due, wt, pr, be) (nI j) := by
  have e : (nI j).toNatClampNeg = j := nI_clamp (by omega)
  refine br_f (nI_pos (by omega)) (br_f (nI_ge (b := 5) hj (by decide)) ⟨vp_in_nI hj (by omega), ?_⟩)
  rw [e]
  exact br_f (sj_hd1 h hj q) k
theorem sy_thereF {post : Int32 → Prop} (h : sj_hd p hd) {x : Int32} (q : ¬ sj_has p x) (k : post 0) : wpY_there post (mo, lim, fu, fd, mi, mb, hd, rel, len, kin, due, wt, pr, be) x := by
  rcases pk_ix x (n := 5) (by decide) with a | a | ⟨j, hj, rfl⟩
  · exact br_t a k
  · by_cases z : x < 0
    · exact br_t z k
    · exact br_f z (br_t a k)
  · have e : (nI j).toNatClampNeg = j := nI_clamp (by omega)
    refine br_f (nI_pos (by omega)) (br_f (nI_ge (b := 5) hj (by decide)) ⟨vp_in_nI hj (by omega), ?_⟩)
    rw [e]
    exact br_t (sj_hd0 h hj (fun z => q ((sj_hasn hj).mpr z))) k
theorem sy_cost {post : Int32 → Prop} {j : Nat} (hj : j < 5) {t : Int32} (k : post (sj_c32 (kin j) (due j) (wt j) t)) : wpY_cost post (mo, lim, fu, fd, mi, mb, hd, rel, len, kin, due, wt, pr, be) (nI j) t := by
  have hi : vp_in (nI j) 5 := vp_in_nI hj (by omega)
  have e : (nI j).toNatClampNeg = j := nI_clamp (by omega)
  unfold wpY_cost
  dsimp only
  rw [e]
  refine ⟨hi, nm_e ⟨hi, ?_⟩⟩
  unfold sj_c32 at k
  by_cases h1 : kin j = 1
  · rw [if_pos h1] at k
    exact br_t h1 ⟨hi, k⟩
  · rw [if_neg h1] at k
    by_cases h2 : t - due j ≤ 0
    · rw [if_pos h2] at k
      exact br_f h1 (br_f (Int32.not_lt.mpr h2) k)
    · rw [if_neg h2] at k
      refine br_f h1 (br_t (Int32.not_le.mp h2) ⟨hi, ?_⟩)
      by_cases h3 : kin j = 0
      · rw [if_pos h3] at k
        exact br_t h3 ⟨hi, k⟩
      · rw [if_neg h3] at k
        refine br_f h3 ⟨hi, ?_⟩
        by_cases h4 : kin j = 2
        · rw [if_pos h4] at k
          exact br_t h4 ⟨hi, k⟩
        · rw [if_neg h4] at k
          exact br_f h4 k
/-- job i lets job j begin -/
def sj_rd (p : Nat) (len pr : Nat → Int32) (s j i : Nat) : Prop := p.testBit i = true → (sj_N pr j).testBit i = true → sj_N len i ≤ sj_dg s i
theorem sy_ready5 {post : Int32 → Prop} (h : sj_hd p hd) (hpr : sj_le pr 31) (hlen : sj_le len 3) {s j : Nat} (hs : s < 1024) (hj : j < 5)
    (k1 : (∀ i, i < 5 → sj_rd p len pr s j i) → post 1) (k0 : ¬ (∀ i, i < 5 → sj_rd p len pr s j i) → post 0) :
    ∀ d i x3, i + d = 5 → ((x3 = 1 ∧ ∀ a, a < i → sj_rd p len pr s j a) ∨ (x3 = 0 ∧ ¬ (∀ i, i < 5 → sj_rd p len pr s j i))) → wY_ready_5 post (nI s) (nI j) mo lim fu fd mi mb hd rel len kin due wt pr be (d + 1) x3 (nI i) := by
  intro d
  induction d with
  | zero =>
    intro i x3 hi g
    have hi : i = 5 := hi
    subst hi
    rcases g with ⟨rfl, g⟩ | ⟨rfl, g⟩
    · exact br_t (by decide) ⟨rfl, k1 g⟩
    · exact br_t (by decide) ⟨rfl, k0 g⟩
  | succ d ih =>
    intro i x3 hi g
    have hi5 : i < 5 := by omega
    have vi : vp_in (nI i) 5 := vp_in_nI hi5 (by omega)
    have ci : (nI i).toNatClampNeg = i := nI_clamp (by omega)
    have cj : (nI j).toNatClampNeg = j := nI_clamp (by omega)
    have go : sj_rd p len pr s j i → wY_ready_5 post (nI s) (nI j) mo lim fu fd mi mb hd rel len kin due wt pr be (d + 1) x3 (nI (i + 1)) := by
      intro r
      refine ih (i + 1) x3 (by omega) ?_
      rcases g with ⟨e, g⟩ | g
      · refine Or.inl ⟨e, fun a ha => ?_⟩
        by_cases q : a = i
        · subst q; exact r
        · exact g a (by omega)
      · exact Or.inr g
    refine br_f (nI_ge (b := 5) hi5 (by decide)) ⟨vi, ?_⟩
    rw [ci, cj]
    by_cases q : p.testBit i = true
    · refine br_f (sj_hd1 h hi5 q) ⟨vp_in_nI hj (by omega), ?_⟩
      obtain ⟨e, le⟩ := sj_Ne hpr (by omega) hj
      obtain ⟨e2, le2⟩ := sj_Ne hlen (by omega) hi5
      have bt : ((pr j >>> (nI i &&& 31)) &&& 1 = 1) ↔ (sj_N pr j).testBit i = true := by
        have z := sj_sh1 (sj_N pr j) (by omega) i hi5
        rw [← e] at z
        exact z
      have d3 := sj_dg3' s i
      by_cases w : (sj_N pr j).testBit i = true
      · refine br_t (bt.mpr w) ⟨vi, ?_⟩
        rw [sj_used hs hi5, e2]
        by_cases v : sj_N len i ≤ sj_dg s i
        · exact br_t (nI_le v (by omega)) (nm_r (nI_1 i) (go (fun _ _ => v)))
        · exact br_f (nI_ge (by omega) (by omega)) (nm_r (nI_1 i) (ih (i + 1) 0 (by omega) (Or.inr ⟨rfl, fun z => v (z i hi5 q w)⟩)))
      · exact br_f (fun z => w (bt.mp z)) (nm_r (nI_1 i) (go (fun _ z => absurd z w)))
    · exact br_t (sj_hd0 h hi5 q) (nm_r (nI_1 i) (go (fun z => absurd z q)))
theorem sy_ready {post : Int32 → Prop} (h : sj_hd p hd) (hpr : sj_le pr 31) (hlen : sj_le len 3) {s j : Nat} (hs : s < 1024) (hj : j < 5)
    (k1 : (∀ i, i < 5 → sj_rd p len pr s j i) → post 1) (k0 : ¬ (∀ i, i < 5 → sj_rd p len pr s j i) → post 0) : wpY_ready post (mo, lim, fu, fd, mi, mb, hd, rel, len, kin, due, wt, pr, be) (nI s) (nI j) :=
  ⟨6, sy_ready5 h hpr hlen hs hj k1 k0 5 0 1 (by omega) (Or.inl ⟨rfl, fun a ha => absurd ha (by omega)⟩)⟩
end
