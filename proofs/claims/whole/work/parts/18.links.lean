/-! ===== links: asking, making ===== -/
def sj_lkd (p : Nat) (af : Nat → Int32) (x y : Int32) : Prop := ∃ i j, i < 5 ∧ j < 5 ∧ x = nI i ∧ y = nI j ∧ sj_A p af i j = true
theorem sj_lkdn {p : Nat} {af : Nat → Int32} {i j : Nat} (hi : i < 5) (hj : j < 5) : sj_lkd p af (nI i) (nI j) ↔ sj_A p af i j = true := by
  constructor
  · rintro ⟨i', j', hi', hj', e1, e2, a⟩
    have q1 := (nI_eq (by omega) (by omega)).mp e1
    have q2 := (nI_eq (by omega) (by omega)).mp e2
    rw [q1, q2]
    exact a
  · exact fun a => ⟨i, j, hi, hj, rfl, rfl, a⟩
/-- the link set -/
def sj_af1 (af : Nat → Int32) (i j : Nat) : Nat → Int32 := upd af i (nI (sj_ad (sj_N af i) j))
def sj_af0 (af : Nat → Int32) (i j : Nat) : Nat → Int32 := upd af i (nI (sj_cl (sj_N af i) j))
theorem sj_af1e {af : Nat → Int32} {i j : Nat} (h : sj_le af 31) (hi : i < 5) (hj : j < 5) : upd af (nI i).toNatClampNeg (af (nI i).toNatClampNeg ||| ((1 : Int32) <<< (nI j &&& 31))) = sj_af1 af i j := by
  obtain ⟨e, l⟩ := sj_Ne h (by omega) hi
  have q := (sj_ad1 (sj_N af i) (by omega) j hj).1
  rw [← e] at q
  unfold sj_af1
  rw [nI_clamp (by omega), q]
theorem sj_af0e {af : Nat → Int32} {i j : Nat} (h : sj_le af 31) (hi : i < 5) (hj : j < 5) : upd af (nI i).toNatClampNeg (af (nI i).toNatClampNeg &&& (((1 : Int32) <<< (nI j &&& 31)) ^^^ (-1))) = sj_af0 af i j := by
  obtain ⟨e, l⟩ := sj_Ne h (by omega) hi
  have q := (sj_cl1 (sj_N af i) (by omega) j hj).1
  rw [← e] at q
  unfold sj_af0
  rw [nI_clamp (by omega), q]
theorem sj_af1l {af : Nat → Int32} {i j : Nat} (h : sj_le af 31) (hi : i < 5) (hj : j < 5) : sj_le (sj_af1 af i j) 31 := by
  obtain ⟨e, l⟩ := sj_Ne h (by omega) hi
  exact sj_leU h (by have := (sj_ad1 (sj_N af i) (by omega) j hj).2; omega)
theorem sj_af0l {af : Nat → Int32} {i j : Nat} (h : sj_le af 31) (hi : i < 5) (hj : j < 5) : sj_le (sj_af0 af i j) 31 := by
  obtain ⟨e, l⟩ := sj_Ne h (by omega) hi
  exact sj_leU h (by have := (sj_cl1 (sj_N af i) (by omega) j hj).2; omega)
theorem sj_af1b {af : Nat → Int32} {i j : Nat} (h : sj_le af 31) (hi : i < 5) (hj : j < 5) {x y : Nat} (hy : y < 5) : (sj_N (sj_af1 af i j) x).testBit y = ((sj_N af x).testBit y || (decide (x = i) && decide (y = j))) := by
  obtain ⟨e, l⟩ := sj_Ne h (by omega) hi
  have l2 := (sj_ad1 (sj_N af i) (by omega) j hj).2
  unfold sj_af1
  by_cases q : x = i
  · subst q
    rw [sj_Ns (by omega), sj_ad2 (sj_N af x) (by omega) j hj y hy]
    simp
  · rw [sj_Nu q]
    simp [q]
theorem sj_af0b {af : Nat → Int32} {i j : Nat} (h : sj_le af 31) (hi : i < 5) (hj : j < 5) {x y : Nat} (hy : y < 5) : (sj_N (sj_af0 af i j) x).testBit y = ((sj_N af x).testBit y && !(decide (x = i) && decide (y = j))) := by
  obtain ⟨e, l⟩ := sj_Ne h (by omega) hi
  have l2 := (sj_cl1 (sj_N af i) (by omega) j hj).2
  unfold sj_af0
  by_cases q : x = i
  · subst q
    rw [sj_Ns (by omega), sj_cl2 (sj_N af x) (by omega) j hj y hy]
    simp
  · rw [sj_Nu q]
    simp [q]
/-- set and unset again -/
theorem sj_af01 {af : Nat → Int32} {i j : Nat} (h : sj_le af 31) (hi : i < 5) (hj : j < 5) (n : ¬ (sj_N af i).testBit j = true) : sj_af0 (sj_af1 af i j) i j = af := by
  obtain ⟨e, l⟩ := sj_Ne h (by omega) hi
  have l2 := (sj_ad1 (sj_N af i) (by omega) j hj).2
  have n' : (sj_N af i).testBit j = false := by
    cases z : (sj_N af i).testBit j
    · rfl
    · exact absurd z n
  unfold sj_af0
  have q : sj_N (sj_af1 af i j) i = sj_ad (sj_N af i) j := by unfold sj_af1; rw [sj_Ns (by omega)]
  rw [q, sj_clad (sj_N af i) (by omega) j hj n', ← e]
  unfold sj_af1
  exact sj_uid rfl
theorem sj_adid : ∀ p, p < 32 → ∀ j, j < 5 → p.testBit j = true → sj_ad p j = p := by decide +kernel
theorem sj_af1id {af : Nat → Int32} {i j : Nat} (h : sj_le af 31) (hi : i < 5) (hj : j < 5) (n : (sj_N af i).testBit j = true) : sj_af1 af i j = af := by
  obtain ⟨e, l⟩ := sj_Ne h (by omega) hi
  unfold sj_af1
  rw [sj_adid (sj_N af i) (by omega) j hj n]
  exact sj_uid1 e
section
variable {c b : Int32} {p : Nat} {rel len kin due wt af st dl lf : Nat → Int32}
theorem sx_linkT {post : Int32 → Prop} (hp : p < 32) (haf : sj_le af 31) {i j : Nat} (hi : i < 5) (hj : j < 5) (a : sj_A p af i j = true) (k : post 1) : wpX_isLink post (c, b, nI p, rel, len, kin, due, wt, af, st, dl, lf) (nI i) (nI j) := by
  obtain ⟨a1, a2, a3⟩ := sj_At a
  obtain ⟨e, l⟩ := sj_Ne haf (by omega) hi
  have q := sj_bit (sj_N af i) (by omega) j hj
  rw [← e, a3] at q
  unfold wpX_isLink
  dsimp only
  refine sx_presT hp hi a1 (br_f (by decide) (sx_presT hp hj a2 (br_f (by decide) ⟨vp_in_nI hi (by omega), ?_⟩)))
  rw [nI_clamp (by omega)]
  exact br_f (fun z => absurd (q.mp z) (by decide)) k
theorem sx_linkF {post : Int32 → Prop} (hp : p < 32) (haf : sj_le af 31) {x y : Int32} (n : ¬ sj_lkd p af x y) (k : post 0) : wpX_isLink post (c, b, nI p, rel, len, kin, due, wt, af, st, dl, lf) x y := by
  unfold wpX_isLink
  dsimp only
  by_cases hx : sj_has p x
  · obtain ⟨i, hi, rfl, a1⟩ := hx
    refine sx_presT hp hi a1 (br_f (by decide) ?_)
    by_cases hy : sj_has p y
    · obtain ⟨j, hj, rfl, a2⟩ := hy
      obtain ⟨e, l⟩ := sj_Ne haf (by omega) hi
      have q := sj_bit (sj_N af i) (by omega) j hj
      rw [← e] at q
      refine sx_presT hp hj a2 (br_f (by decide) ⟨vp_in_nI hi (by omega), ?_⟩)
      rw [nI_clamp (by omega)]
      refine br_t (q.mpr ?_) k
      cases z : (sj_N af i).testBit j
      · rfl
      · exact absurd ⟨i, j, hi, hj, rfl, rfl, by unfold sj_A; rw [a1, a2, z]; rfl⟩ n
    · exact sx_presF hp hy (br_t rfl k)
  · exact sx_presF hp hx (br_t rfl k)
/-- what link would answer -/
theorem sx_judge {post : Int32 → SX → Prop} {rk : Nat → Nat} (B : sj_bnd p rel len kin due wt) (haf : sj_le af 31) (hb : ∀ i k, i < 5 → k < 5 → (sj_N af i).testBit k = true → sj_A p af i k = true) (hrk : sj_ord (sj_A p af) rk) {x y : Int32}
    (kB : (¬ sj_has p x ∨ ¬ sj_has p y ∨ x = y) → post (-1) (c, b, nI p, rel, len, kin, due, wt, af, st, dl, lf))
    (kO : ∀ i j, i < 5 → j < 5 → x = nI i → y = nI j → i ≠ j → sj_A p af i j = true → post 0 (c, b, nI p, rel, len, kin, due, wt, af, st, dl, lf))
    (kC : ∀ i j, i < 5 → j < 5 → x = nI i → y = nI j → i ≠ j → p.testBit i = true → p.testBit j = true → ¬ sj_A p af i j = true → sj_C (sj_A p af) j i → post (-4) (c, b, nI p, rel, len, kin, due, wt, af, st, dl, lf))
    (kG : ∀ i j, i < 5 → j < 5 → x = nI i → y = nI j → i ≠ j → p.testBit i = true → p.testBit j = true → ¬ sj_A p af i j = true → ¬ sj_C (sj_A p af) j i → sj_G p rel len kin due wt (sj_af1 af i j) sj_M0 b.toInt 34 (sj_Fu p len) → ∀ st' dl' lf', post 0 (c, b, nI p, rel, len, kin, due, wt, af, st', dl', lf'))
    (kR : ∀ i j, i < 5 → j < 5 → x = nI i → y = nI j → i ≠ j → p.testBit i = true → p.testBit j = true → ¬ sj_A p af i j = true → ¬ sj_C (sj_A p af) j i → ¬ sj_G p rel len kin due wt (sj_af1 af i j) sj_M0 b.toInt 34 (sj_Fu p len) → ∀ st' dl' lf', post (-3) (c, b, nI p, rel, len, kin, due, wt, af, st', dl', lf')) :
    wpX_judgeLink post (c, b, nI p, rel, len, kin, due, wt, af, st, dl, lf) x y := by
  have hp := B.1
  unfold wpX_judgeLink
  dsimp only
  by_cases hx : sj_has p x
  · obtain ⟨i, hi, rfl, a1⟩ := hx
    refine sx_presT hp hi a1 (br_f (by decide) ?_)
    by_cases hy : sj_has p y
    · obtain ⟨j, hj, rfl, a2⟩ := hy
      refine sx_presT hp hj a2 (br_f (by decide) ?_)
      by_cases e : nI i = nI j
      · exact br_t e (kB (Or.inr (Or.inr e)))
      · have ne : i ≠ j := fun z => e (by rw [z])
        refine br_f e ?_
        by_cases a : sj_A p af i j = true
        · exact sx_linkT hp haf hi hj a (br_f (by decide) (kO i j hi hj rfl rfl ne a))
        · refine sx_linkF hp haf (fun z => a ((sj_lkdn hi hj).mp z)) (br_t rfl ?_)
          refine sx_reach hi hj haf hb hrk (fun cc => ?_) (fun cc => ?_)
          · exact br_f (by decide) (kC i j hi hj rfl rfl ne a1 a2 a cc)
          · have vi : vp_in (nI i) 5 := vp_in_nI hi (by omega)
            have nb : ¬ (sj_N af i).testBit j = true := fun z => a (hb i j hi hj z)
            obtain ⟨rk', hrk'⟩ := sj_rknew (A' := sj_A p (sj_af1 af i j)) hrk cc (fun x y hx hy z => by
              obtain ⟨z1, z2, z3⟩ := sj_At z
              rw [sj_af1b haf hi hj hy] at z3
              simp at z3
              rcases z3 with z3 | z3
              · exact Or.inl (hb x y hx hy z3)
              · exact Or.inr z3)
            have rest : upd (sj_af1 af i j) (nI i).toNatClampNeg (sj_af1 af i j (nI i).toNatClampNeg &&& (((1 : Int32) <<< (nI j &&& 31)) ^^^ (-1))) = af := by
              rw [sj_af0e (sj_af1l haf hi hj) hi hj, sj_af01 haf hi hj nb]
            refine br_t rfl ⟨vi, vi, nm_r (sj_af1e haf hi hj) (sx_plan B (sj_af1l haf hi hj) hrk' (fun g s d l => ?_) (fun g s d l => ?_))⟩
            · exact ⟨vi, vi, nm_r rest (br_f (by decide) (kG i j hi hj rfl rfl ne a1 a2 a cc g s d l))⟩
            · exact ⟨vi, vi, nm_r rest (br_t rfl (kR i j hi hj rfl rfl ne a1 a2 a cc g s d l))⟩
    · exact sx_presF hp hy (br_t rfl (kB (Or.inr (Or.inl hy))))
  · exact sx_presF hp hx (br_t rfl (kB (Or.inl hx)))
end
section
variable {mo lim fu fd mi mb : Int32} {p : Nat} {hd rel len kin due wt af pr be : Nat → Int32}
theorem sy_linkT {post : Int32 → Prop} (h : sj_hd p hd) (hlk : sj_lk p af pr) {i j : Nat} (hi : i < 5) (hj : j < 5) (a : sj_A p af i j = true) (k : post 1) : wpY_linked post (mo, lim, fu, fd, mi, mb, hd, rel, len, kin, due, wt, pr, be) (nI i) (nI j) := by
  obtain ⟨a1, a2, a3⟩ := sj_At a
  obtain ⟨e, l⟩ := sj_Ne hlk.2.1 (by omega) hj
  have q := sj_sh1 (sj_N pr j) (by omega) i hi
  rw [← e] at q
  unfold wpY_linked
  dsimp only
  refine sy_thereT h hi a1 (br_f (by decide) (sy_thereT h hj a2 (br_f (by decide) ⟨vp_in_nI hj (by omega), ?_⟩)))
  rw [nI_clamp (by omega)]
  exact br_t (q.mpr (by rw [hlk.2.2.2 i j hi hj a2]; exact a3)) k
theorem sy_linkF {post : Int32 → Prop} (h : sj_hd p hd) (hlk : sj_lk p af pr) {x y : Int32} (n : ¬ sj_lkd p af x y) (k : post 0) : wpY_linked post (mo, lim, fu, fd, mi, mb, hd, rel, len, kin, due, wt, pr, be) x y := by
  unfold wpY_linked
  dsimp only
  by_cases hx : sj_has p x
  · obtain ⟨i, hi, rfl, a1⟩ := hx
    refine sy_thereT h hi a1 (br_f (by decide) ?_)
    by_cases hy : sj_has p y
    · obtain ⟨j, hj, rfl, a2⟩ := hy
      obtain ⟨e, l⟩ := sj_Ne hlk.2.1 (by omega) hj
      have q := sj_sh1 (sj_N pr j) (by omega) i hi
      rw [← e] at q
      refine sy_thereT h hj a2 (br_f (by decide) ⟨vp_in_nI hj (by omega), ?_⟩)
      rw [nI_clamp (by omega)]
      refine br_f (fun z => n ⟨i, j, hi, hj, rfl, rfl, ?_⟩) k
      have w := q.mp z
      rw [hlk.2.2.2 i j hi hj a2] at w
      unfold sj_A
      rw [a1, a2, w]
      rfl
    · exact sy_thereF h hy (br_t rfl k)
  · exact sy_thereF h hx (br_t rfl k)
theorem sy_mkB {post : Int32 → SY → Prop} (h : sj_hd p hd) {x y : Int32} (n : ¬ sj_has p x ∨ ¬ sj_has p y ∨ x = y) (k : post (-1) (mo, lim, fu, fd, mi, mb, hd, rel, len, kin, due, wt, pr, be)) : wpY_link post (mo, lim, fu, fd, mi, mb, hd, rel, len, kin, due, wt, pr, be) x y := by
  unfold wpY_link
  dsimp only
  by_cases hx : sj_has p x
  · obtain ⟨i, hi, rfl, a1⟩ := hx
    refine sy_thereT h hi a1 (br_f (by decide) ?_)
    by_cases hy : sj_has p y
    · obtain ⟨j, hj, rfl, a2⟩ := hy
      refine sy_thereT h hj a2 (br_f (by decide) (br_t ?_ k))
      rcases n with n | n | n
      · exact absurd ⟨i, hi, rfl, a1⟩ n
      · exact absurd ⟨j, hj, rfl, a2⟩ n
      · exact n
    · exact sy_thereF h hy (br_t rfl k)
  · exact sy_thereF h hx (br_t rfl k)
theorem sy_mkP {post : Int32 → SY → Prop} (h : sj_hd p hd) {i j : Nat} (hi : i < 5) (hj : j < 5) (ne : i ≠ j) (a1 : p.testBit i = true) (a2 : p.testBit j = true)
    (k : wpY_linked (fun r_34 => (r_34 = 0 → wpY_leads (fun r_50 => (r_50 = 0 → (vp_in (nI j) 5 ∧ (vp_in (nI j) 5 ∧ ∀ a_pre_68, a_pre_68 = upd pr (nI j).toNatClampNeg ((pr (nI j).toNatClampNeg) ||| ((1 : Int32) <<< (nI i &&& 31))) → (wpY_good (fun r_69 u => match u with | (f1, f2, f3, f4, f5, f6, g1, g2, g3, g4, g5, g6, g7, g8) => ((r_69 = 0 → (vp_in (nI j) 5 ∧ (vp_in (nI j) 5 ∧ ∀ a_pre_87, a_pre_87 = upd g7 (nI j).toNatClampNeg ((g7 (nI j).toNatClampNeg) &&& (((1 : Int32) <<< (nI i &&& 31)) ^^^ (-1))) → (post (-3) (f1, f2, f3, f4, f5, f6, g1, g2, g3, g4, g5, g6, a_pre_87, g8))))) ∧ (¬ r_69 = 0 → (post 0 (f1, f2, f3, f4, f5, f6, g1, g2, g3, g4, g5, g6, g7, g8))))) (mo, lim, fu, fd, mi, mb, hd, rel, len, kin, due, wt, a_pre_68, be))))) ∧ (¬ r_50 = 0 → (post (-4) (mo, lim, fu, fd, mi, mb, hd, rel, len, kin, due, wt, pr, be)))) (mo, lim, fu, fd, mi, mb, hd, rel, len, kin, due, wt, pr, be) (nI j) (nI i)) ∧ (¬ r_34 = 0 → (post 0 (mo, lim, fu, fd, mi, mb, hd, rel, len, kin, due, wt, pr, be)))) (mo, lim, fu, fd, mi, mb, hd, rel, len, kin, due, wt, pr, be) (nI i) (nI j)) :
    wpY_link post (mo, lim, fu, fd, mi, mb, hd, rel, len, kin, due, wt, pr, be) (nI i) (nI j) := by
  unfold wpY_link
  dsimp only
  exact sy_thereT h hi a1 (br_f (by decide) (sy_thereT h hj a2 (br_f (by decide) (br_f (fun z => ne ((nI_eq (by omega) (by omega)).mp z)) k))))
end
