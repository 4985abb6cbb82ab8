/-! ===== values carried along links ===== -/
def sj_m2 (a b : Int) : Int := if a < b then b else a
theorem sj_m2l (a b : Int) : a ≤ sj_m2 a b := by unfold sj_m2; split <;> omega
theorem sj_m2r (a b : Int) : b ≤ sj_m2 a b := by unfold sj_m2; split <;> omega
theorem sj_m2o (a b : Int) : sj_m2 a b = a ∨ sj_m2 a b = b := by unfold sj_m2; split <;> simp
def sj_mx (b : Int) (c : Nat → Int) : Int := sj_m2 (sj_m2 (sj_m2 (sj_m2 (sj_m2 b (c 0)) (c 1)) (c 2)) (c 3)) (c 4)
theorem sj_mxb (b : Int) (c : Nat → Int) : b ≤ sj_mx b c :=
  Int.le_trans (sj_m2l _ _) (Int.le_trans (sj_m2l _ _) (Int.le_trans (sj_m2l _ _) (Int.le_trans (sj_m2l _ _) (sj_m2l _ _))))
theorem sj_mxc (b : Int) (c : Nat → Int) : ∀ i, i < 5 → c i ≤ sj_mx b c :=
  sj_lt5 (Int.le_trans (sj_m2r _ _) (Int.le_trans (sj_m2l _ _) (Int.le_trans (sj_m2l _ _) (Int.le_trans (sj_m2l _ _) (sj_m2l _ _)))))
    (Int.le_trans (sj_m2r _ _) (Int.le_trans (sj_m2l _ _) (Int.le_trans (sj_m2l _ _) (sj_m2l _ _))))
    (Int.le_trans (sj_m2r _ _) (Int.le_trans (sj_m2l _ _) (sj_m2l _ _)))
    (Int.le_trans (sj_m2r _ _) (sj_m2l _ _)) (sj_m2r _ _)
theorem sj_mxs {b x : Int} {c : Nat → Int} {i : Nat} (hi : i < 5) (h : x = b ∨ ∃ k, k < 5 ∧ x = c k) : sj_m2 x (c i) = b ∨ ∃ k, k < 5 ∧ sj_m2 x (c i) = c k := by
  rcases sj_m2o x (c i) with e | e
  · rw [e]; exact h
  · exact Or.inr ⟨i, hi, e⟩
theorem sj_mxo (b : Int) (c : Nat → Int) : sj_mx b c = b ∨ ∃ i, i < 5 ∧ sj_mx b c = c i :=
  sj_mxs (i := 4) (by omega) (sj_mxs (i := 3) (by omega) (sj_mxs (i := 2) (by omega) (sj_mxs (i := 1) (by omega) (sj_mxs (i := 0) (by omega) (Or.inl rfl)))))
theorem sj_mxe {b : Int} {c c' : Nat → Int} (h : ∀ i, i < 5 → c i = c' i) : sj_mx b c = sj_mx b c' := by
  unfold sj_mx
  rw [h 0 (by omega), h 1 (by omega), h 2 (by omega), h 3 (by omega), h 4 (by omega)]
def sj_f (A : Nat → Nat → Bool) (L : Nat → Nat) (B : Nat → Int) : Nat → Nat → Int
  | 0 => B
  | r + 1 => fun j => sj_mx (B j) (fun i => if A i j = true then sj_f A L B r i + (L i : Int) else B j)
def sj_isF (A : Nat → Nat → Bool) (L : Nat → Nat) (B F : Nat → Int) : Prop :=
  (∀ j, j < 5 → B j ≤ F j) ∧ (∀ i j, i < 5 → j < 5 → A i j = true → F i + (L i : Int) ≤ F j) ∧ (∀ j, j < 5 → F j = B j ∨ ∃ i, i < 5 ∧ A i j = true ∧ F j = F i + (L i : Int))
/-- the order of the links, at most four deep -/
def sj_ord (A : Nat → Nat → Bool) (rk : Nat → Nat) : Prop := ∀ i j, i < 5 → j < 5 → A i j = true → rk i < rk j
section
variable {A : Nat → Nat → Bool} {L : Nat → Nat} {B F : Nat → Int} {rk : Nat → Nat}
theorem sj_fst (hrk : sj_ord A rk) : ∀ r j, j < 5 → rk j ≤ r → sj_f A L B (r + 1) j = sj_f A L B r j := by
  intro r
  induction r with
  | zero =>
    intro j hj hr
    show sj_mx (B j) (fun i => if A i j = true then B i + (L i : Int) else B j) = B j
    rcases sj_mxo (B j) (fun i => if A i j = true then B i + (L i : Int) else B j) with e | ⟨i, hi, e⟩
    · exact e
    · rw [e]
      have n : ¬ A i j = true := by
        intro a
        have := hrk i j hi hj a
        omega
      exact if_neg n
  | succ r ih =>
    intro j hj hr
    show sj_mx (B j) (fun i => if A i j = true then sj_f A L B (r + 1) i + (L i : Int) else B j) = sj_mx (B j) (fun i => if A i j = true then sj_f A L B r i + (L i : Int) else B j)
    refine sj_mxe (fun i hi => ?_)
    show (if A i j = true then sj_f A L B (r + 1) i + (L i : Int) else B j) = (if A i j = true then sj_f A L B r i + (L i : Int) else B j)
    by_cases a : A i j = true
    · have := hrk i j hi hj a
      rw [if_pos a, if_pos a, ih i hi (by omega)]
    · rw [if_neg a, if_neg a]
theorem sj_Fex (hrk : sj_ord A rk) (h4 : ∀ j, j < 5 → rk j ≤ 4) : sj_isF A L B (sj_f A L B 4) := by
  have e : ∀ j, j < 5 → sj_f A L B 4 j = sj_mx (B j) (fun i => if A i j = true then sj_f A L B 4 i + (L i : Int) else B j) := fun j hj => (sj_fst hrk 4 j hj (h4 j hj)).symm
  refine ⟨fun j hj => ?_, fun i j hi hj a => ?_, fun j hj => ?_⟩
  · rw [e j hj]; exact sj_mxb _ _
  · rw [e j hj]
    have := sj_mxc (B j) (fun i => if A i j = true then sj_f A L B 4 i + (L i : Int) else B j) i hi
    rw [if_pos a] at this
    exact this
  · rcases sj_mxo (B j) (fun i => if A i j = true then sj_f A L B 4 i + (L i : Int) else B j) with q | ⟨i, hi, q⟩
    · exact Or.inl ((e j hj).trans q)
    · by_cases a : A i j = true
      · exact Or.inr ⟨i, hi, a, (e j hj).trans (q.trans (if_pos a))⟩
      · exact Or.inl ((e j hj).trans (q.trans (if_neg a)))
theorem sj_fup {U : Int} (hB : ∀ j, j < 5 → B j ≤ U) (hL : ∀ i j, i < 5 → j < 5 → A i j = true → L i ≤ 3) : ∀ (r j : Nat), j < 5 → sj_f A L B r j ≤ U + 3 * (r : Int) := by
  intro r
  induction r with
  | zero =>
    intro j hj
    have := hB j hj
    show B j ≤ _
    omega
  | succ r ih =>
    intro j hj
    have b := hB j hj
    rcases sj_mxo (B j) (fun i => if A i j = true then sj_f A L B r i + (L i : Int) else B j) with e | ⟨i, hi, e⟩
    · show sj_mx (B j) (fun i => if A i j = true then sj_f A L B r i + (L i : Int) else B j) ≤ _
      rw [e]
      omega
    · show sj_mx (B j) (fun i => if A i j = true then sj_f A L B r i + (L i : Int) else B j) ≤ _
      rw [e]
      show (if A i j = true then sj_f A L B r i + (L i : Int) else B j) ≤ _
      by_cases a : A i j = true
      · have := ih i hi
        have l := hL i j hi hj a
        rw [if_pos a]
        omega
      · rw [if_neg a]
        omega
end
/-- the same in naturals -/
theorem sj_Fnat {A : Nat → Nat → Bool} {L R : Nat → Nat} {rk : Nat → Nat} (hrk : sj_ord A rk) (h4 : ∀ j, j < 5 → rk j ≤ 4) {U : Nat} (hR : ∀ j, j < 5 → R j ≤ U) (hL : ∀ i j, i < 5 → j < 5 → A i j = true → L i ≤ 3) :
    ∃ F : Nat → Nat, sj_isF A L (fun j => (R j : Int)) (fun j => (F j : Int)) ∧ ∀ j, j < 5 → F j ≤ U + 12 := by
  have h := sj_Fex (L := L) (B := fun j => (R j : Int)) hrk h4
  have up := sj_fup (A := A) (L := L) (B := fun j => (R j : Int)) (U := (U : Int)) (fun j hj => by have := hR j hj; show (R j : Int) ≤ (U : Int); omega) hL 4
  have e : ∀ j, j < 5 → ((sj_f A L (fun j => (R j : Int)) 4 j).toNat : Int) = sj_f A L (fun j => (R j : Int)) 4 j := by
    intro j hj
    have : (R j : Int) ≤ sj_f A L (fun j => (R j : Int)) 4 j := h.1 j hj
    omega
  refine ⟨fun j => (sj_f A L (fun j => (R j : Int)) 4 j).toNat, ⟨fun j hj => ?_, fun i j hi hj a => ?_, fun j hj => ?_⟩, fun j hj => ?_⟩
  · show (R j : Int) ≤ ((sj_f A L (fun j => (R j : Int)) 4 j).toNat : Int)
    rw [e j hj]
    exact h.1 j hj
  · show ((sj_f A L (fun j => (R j : Int)) 4 i).toNat : Int) + (L i : Int) ≤ ((sj_f A L (fun j => (R j : Int)) 4 j).toNat : Int)
    rw [e j hj, e i hi]
    exact h.2.1 i j hi hj a
  · show ((sj_f A L (fun j => (R j : Int)) 4 j).toNat : Int) = (R j : Int) ∨ ∃ i, i < 5 ∧ A i j = true ∧ ((sj_f A L (fun j => (R j : Int)) 4 j).toNat : Int) = ((sj_f A L (fun j => (R j : Int)) 4 i).toNat : Int) + (L i : Int)
    rw [e j hj]
    rcases h.2.2 j hj with q | ⟨i, hi, a, q⟩
    · exact Or.inl q
    · exact Or.inr ⟨i, hi, a, by rw [e i hi]; exact q⟩
  · have u := up j hj
    have x := e j hj
    show (sj_f A L (fun j => (R j : Int)) 4 j).toNat ≤ U + 12
    omega
/-- what holds while the links are gone through a round long: P, the links that had their turn -/
def sj_ri (A : Nat → Nat → Bool) (L : Nat → Nat) (B F : Nat → Int) (rk : Nat → Nat) (r : Nat) (P : Nat → Nat → Prop) (v : Nat → Int) : Prop :=
  (∀ j, j < 5 → B j ≤ v j ∧ v j ≤ F j) ∧ (∀ j, j < 5 → rk j < r → v j = F j) ∧ (∀ i j, i < 5 → j < 5 → A i j = true → P i j → rk j = r → F i + (L i : Int) ≤ v j)
section
variable {A : Nat → Nat → Bool} {L : Nat → Nat} {B F : Nat → Int} {rk : Nat → Nat}
theorem sj_ri0 (hF : sj_isF A L B F) (hrk : sj_ord A rk) {P : Nat → Nat → Prop} (hP : ∀ i j, ¬ P i j) {v : Nat → Int} (hv : ∀ j, j < 5 → v j = B j) : sj_ri A L B F rk 1 P v := by
  refine ⟨fun j hj => ?_, fun j hj hr => ?_, fun i j _ _ _ p => absurd p (hP i j)⟩
  · rw [hv j hj]
    exact ⟨Int.le_refl _, hF.1 j hj⟩
  · rw [hv j hj]
    rcases hF.2.2 j hj with e | ⟨i, hi, a, -⟩
    · exact e.symm
    · have := hrk i j hi hj a
      omega
theorem sj_riup (hF : sj_isF A L B F) (hrk : sj_ord A rk) {r : Nat} {P P' : Nat → Nat → Prop} {v v' : Nat → Int} {i j : Nat} (h : sj_ri A L B F rk r P v) (hi : i < 5) (hj : j < 5)
    (a : A i j = true) (lt : v j < v i + (L i : Int)) (e1 : v' j = v i + (L i : Int)) (e2 : ∀ k, k < 5 → k ≠ j → v' k = v k) (hP : ∀ x y, P' x y → P x y ∨ (x = i ∧ y = j)) : sj_ri A L B F rk r P' v' := by
  obtain ⟨h1, h2, h3⟩ := h
  have vi := h1 i hi
  have vj := h1 j hj
  have f := hF.2.1 i j hi hj a
  have nr : ¬ rk j < r := by
    intro q
    have := h2 j hj q
    omega
  have ge : ∀ k, k < 5 → v k ≤ v' k := by
    intro k hk
    by_cases e : k = j
    · subst e; omega
    · rw [e2 k hk e]; exact Int.le_refl _
  refine ⟨fun k hk => ?_, fun k hk q => ?_, fun x y hx hy axy p q => ?_⟩
  · by_cases e : k = j
    · subst e; omega
    · rw [e2 k hk e]; exact h1 k hk
  · have e : k ≠ j := by
      intro e
      subst e
      exact nr q
    rw [e2 k hk e]; exact h2 k hk q
  · rcases hP x y p with p | ⟨rfl, rfl⟩
    · exact Int.le_trans (h3 x y hx hy axy p q) (ge y hy)
    · have w := hrk x y hi hj a
      have := h2 x hi (by omega)
      omega
theorem sj_rino (hrk : sj_ord A rk) {r : Nat} {P P' : Nat → Nat → Prop} {v : Nat → Int} {i j : Nat} (h : sj_ri A L B F rk r P v) (hi : i < 5)
    (n : A i j = true → v i + (L i : Int) ≤ v j) (hP : ∀ x y, P' x y → P x y ∨ (x = i ∧ y = j)) : sj_ri A L B F rk r P' v := by
  obtain ⟨h1, h2, h3⟩ := h
  refine ⟨h1, h2, fun x y hx hy axy p q => ?_⟩
  rcases hP x y p with p | ⟨rfl, rfl⟩
  · exact h3 x y hx hy axy p q
  · have w := hrk x y hx hy axy
    have e := h2 x hx (by omega)
    have := n axy
    omega
theorem sj_ris {r : Nat} {P P' : Nat → Nat → Prop} {v : Nat → Int} (h : sj_ri A L B F rk r P v) (hP : ∀ x y, x < 5 → y < 5 → A x y = true → P' x y → P x y) : sj_ri A L B F rk r P' v :=
  ⟨h.1, h.2.1, fun x y hx hy a p q => h.2.2 x y hx hy a (hP x y hx hy a p) q⟩
theorem sj_rinx (hF : sj_isF A L B F) {r : Nat} {P P' : Nat → Nat → Prop} {v : Nat → Int} (h : sj_ri A L B F rk r P v) (hP : ∀ x y, x < 5 → y < 5 → A x y = true → P x y) (hN : ∀ x y, ¬ P' x y) : sj_ri A L B F rk (r + 1) P' v := by
  obtain ⟨h1, h2, h3⟩ := h
  refine ⟨h1, fun j hj q => ?_, fun x y _ _ _ p => absurd p (hN x y)⟩
  by_cases e : rk j < r
  · exact h2 j hj e
  · have b := h1 j hj
    rcases hF.2.2 j hj with f | ⟨i, hi, a, f⟩
    · omega
    · have := h3 i j hi hj a (hP i j hi hj a) (by omega)
      omega
theorem sj_ri5 (h4 : ∀ j, j < 5 → rk j ≤ 4) {P : Nat → Nat → Prop} {v : Nat → Int} (h : sj_ri A L B F rk 5 P v) : ∀ j, j < 5 → v j = F j :=
  fun j hj => h.2.1 j hj (by have := h4 j hj; omega)
/-- an order at most four deep -/
theorem sj_rk4 (h : sj_ord A rk) : ∃ rk' : Nat → Nat, (∀ j, j < 5 → rk' j ≤ 4) ∧ sj_ord A rk' := by
  refine ⟨fun i => sj_S (fun k => if rk k < rk i then 1 else 0), fun j hj => ?_, fun i j hi hj a => ?_⟩
  · show sj_S (fun k => if rk k < rk j then 1 else 0) ≤ 4
    have lt : sj_S (fun k => if rk k < rk j then 1 else 0) < sj_S (fun _ => 1) := by
      refine sj_Slt (j := j) (fun i _ => ?_) hj ?_
      · show (if rk i < rk j then 1 else 0) ≤ 1
        split <;> omega
      · show (if rk j < rk j then 1 else 0) < 1
        rw [if_neg (by omega)]
        omega
    have e : sj_S (fun _ => 1) = 5 := rfl
    omega
  · have w := h i j hi hj a
    show sj_S (fun k => if rk k < rk i then 1 else 0) < sj_S (fun k => if rk k < rk j then 1 else 0)
    refine sj_Slt (j := i) (fun k _ => ?_) hi ?_
    · show (if rk k < rk i then 1 else 0) ≤ (if rk k < rk j then 1 else 0)
      by_cases c : rk k < rk i
      · rw [if_pos c, if_pos (by omega)]; exact Nat.le_refl _
      · rw [if_neg c]; exact Nat.zero_le _
    · show (if rk i < rk i then 1 else 0) < (if rk i < rk j then 1 else 0)
      rw [if_neg (by omega), if_pos w]
      omega
end
/-! ===== what is reached along links ===== -/
def sj_C (A : Nat → Nat → Bool) (j k : Nat) : Prop := ∀ Q : Nat → Prop, Q j → (∀ x y, x < 5 → y < 5 → A x y = true → Q x → Q y) → Q k
section
variable {A : Nat → Nat → Bool} {rk : Nat → Nat}
theorem sj_Cs (j : Nat) : sj_C A j j := fun _ h _ => h
theorem sj_Cn {j x y : Nat} (hx : x < 5) (hy : y < 5) (a : A x y = true) (h : sj_C A j x) : sj_C A j y := fun Q h0 hc => hc x y hx hy a (h Q h0 hc)
theorem sj_Cp {j k : Nat} (h : sj_C A j k) (ne : k ≠ j) : ∃ i, i < 5 ∧ sj_C A j i ∧ A i k = true := by
  apply Classical.byContradiction
  intro n
  have := h (fun x => sj_C A j x ∧ x ≠ k) ⟨sj_Cs j, fun e => ne e.symm⟩ (fun x y hx hy a q => ⟨sj_Cn hx hy a q.1, fun e => n ⟨x, hx, q.1, e ▸ a⟩⟩)
  exact this.2 rfl
theorem sj_rknew (h : sj_ord A rk) {i j : Nat} (hn : ¬ sj_C A j i) {A' : Nat → Nat → Bool}
    (hA : ∀ x y, x < 5 → y < 5 → A' x y = true → A x y = true ∨ (x = i ∧ y = j)) : ∃ rk' : Nat → Nat, sj_ord A' rk' := by
  classical
  refine ⟨fun k => if sj_C A j k then rk k + (rk i + 1) else rk k, fun x y hx hy a => ?_⟩
  show (if sj_C A j x then rk x + (rk i + 1) else rk x) < (if sj_C A j y then rk y + (rk i + 1) else rk y)
  rcases hA x y hx hy a with a | ⟨rfl, rfl⟩
  · have w := h x y hx hy a
    by_cases c : sj_C A j x
    · rw [if_pos c, if_pos (sj_Cn hx hy a c)]; omega
    · rw [if_neg c]
      split <;> omega
  · rw [if_neg hn, if_pos (sj_Cs y)]
    omega
end
