/-! WHAT STANDS BETWEEN TWO ACTS: the book, and by hand. -/
theorem gLs_zero {cl : Nat → Int32} {se : Nat → Int32} {g : Nat} (hf : gFt cl g = false) : ∀ t, (gLs cl se g t).2 = 0
  | 0 => by rw [gLs, gF0, if_neg (by rw [hf]; decide)]
  | t + 1 => by rw [gLs, gLs_zero hf t]; rfl
/-- there are seatings just if nobody is torn -/
theorem ft_pos {K : Bk} {g : Nat} (hg : g ≤ 10) (hK : Kg K g) {cl : Nat → Int32} (hc : gCls K cl) (s0 : Nat → Int32) : gFt cl g = decide (0 < (gLs cl s0 g g).2) := by
  rcases hf : gFt cl g with _ | _
  · rw [gLs_zero hf]; rfl
  · rw [decide_eq_true (first_inv hg hK hc s0 hf g (Nat.le_refl g)).1]
def Inv (K : Bk) (g r : Nat) (f1 f2 : Nat → Int32) (inf : Int32) (dr cl se : Nat → Int32) (ct : Nat) : Prop :=
  g ≤ 7 ∧ r ≤ 30 ∧ gOK K g r f1 f2 inf ∧ (∀ j, r ≤ j → j < 32 → bt inf j = false) ∧ (∀ j, j < r → K.2.1 j ≠ K.2.2.1 j) ∧ gDrs K dr ∧ gCls K cl ∧ ∃ s0, se = (gLs cl s0 g g).1 ∧ ct = (gLs cl s0 g g).2
theorem fresh_ok {K : Bk} {g r : Nat} {f1 f2 : Nat → Int32} {inf : Int32} (h : gOK K g r f1 f2 inf) (hg : g ≤ 10) (hr : r ≤ 30) (d c : Nat → Int32) : gDrs K (gLA f1 f2 inf (-1) r d) ∧ gCls K (gCl (gLA f1 f2 inf (-1) r c) 20) := by
  have hn := kL_none (K := K) (by rw [h.1]; exact hr)
  constructor
  · intro u v hu hv
    rw [gDrs_of h hg hr d u v hu hv, hn]
  · intro u v hu hv
    rw [gCls_of h hg hr c u v hu hv, fol_congr hn]
theorem Inv_invite {K : Bk} {g r : Nat} {f1 f2 : Nat → Int32} {inf : Int32} {dr cl se : Nat → Int32} {ct : Nat} (h : Inv K g r f1 f2 inf dr cl se ct) (hg : g < 7) :
    Inv K (g + 1) r f1 f2 inf (gLA f1 f2 inf (-1) r dr) (gCl (gLA f1 f2 inf (-1) r cl) 20) (gLs (gCl (gLA f1 f2 inf (-1) r cl) 20) se (g + 1) (g + 1)).1 (gLs (gCl (gLA f1 f2 inf (-1) r cl) 20) se (g + 1) (g + 1)).2 := by
  obtain ⟨h1, h2, h3, h4, h5, -, -, -⟩ := h
  have h3' : gOK K (g + 1) r f1 f2 inf := ⟨h3.1, fun j hj => by
    obtain ⟨a, b, c, d, e⟩ := h3.2 j hj
    exact ⟨a, b, by omega, by omega, e⟩⟩
  obtain ⟨k1, k2⟩ := fresh_ok h3' (by omega) h2 dr cl
  exact ⟨by omega, h2, h3', h4, h5, k1, k2, se, rfl, rfl⟩
def kAdd (K : Bk) (r wa wb : Nat) : Bk := (r + 1, fun j => if j = r then wa else K.2.1 j, fun j => if j = r then wb else K.2.2.1 j, fun j => if j = r then true else K.2.2.2 j)
theorem Inv_rule {K : Bk} {g r : Nat} {f1 f2 : Nat → Int32} {inf : Int32} {dr cl se : Nat → Int32} {ct : Nat} (h : Inv K g r f1 f2 inf dr cl se ct) (hr : r < 30) {wa wb : Nat} (ha : wa < 2 * g) (hb : wb < 2 * g) (hne : ¬ wa = wb) :
    Inv (kAdd K r wa wb) g (r + 1) (gPut 30 f1 (nI r) (nI wa)) (gPut 30 f2 (nI r) (nI wb)) (inf ||| ((1 : Int32) <<< (nI r &&& 31))) (gLA (gPut 30 f1 (nI r) (nI wa)) (gPut 30 f2 (nI r) (nI wb)) (inf ||| ((1 : Int32) <<< (nI r &&& 31))) (-1) (r + 1) dr) (gCl (gLA (gPut 30 f1 (nI r) (nI wa)) (gPut 30 f2 (nI r) (nI wb)) (inf ||| ((1 : Int32) <<< (nI r &&& 31))) (-1) (r + 1) cl) 20) (gLs (gCl (gLA (gPut 30 f1 (nI r) (nI wa)) (gPut 30 f2 (nI r) (nI wb)) (inf ||| ((1 : Int32) <<< (nI r &&& 31))) (-1) (r + 1) cl) 20) se g g).1 (gLs (gCl (gLA (gPut 30 f1 (nI r) (nI wa)) (gPut 30 f2 (nI r) (nI wb)) (inf ||| ((1 : Int32) <<< (nI r &&& 31))) (-1) (r + 1) cl) 20) se g g).2 := by
  rw [gPut_in (n := 30) hr (by decide) f1, gPut_in (n := 30) hr (by decide) f2]
  obtain ⟨h1, h2, h3, h4, h5, -, -, -⟩ := h
  have hbit : ∀ j, j < 32 → bt (inf ||| ((1 : Int32) <<< (nI r &&& 31))) j = (bt inf j || decide (j = r)) := fun j hj => by rw [b_or, bt_one (by omega) hj]
  have h3' : gOK (kAdd K r wa wb) g (r + 1) (upd f1 r (nI wa)) (upd f2 r (nI wb)) (inf ||| ((1 : Int32) <<< (nI r &&& 31))) := ⟨rfl, fun j hj => by
    by_cases c : j = r
    · subst c
      simp only [kAdd, upd, if_true]
      exact ⟨trivial, trivial, ha, hb, by rw [hbit _ (by omega)]; simp⟩
    · obtain ⟨a, b, c', d, e⟩ := h3.2 j (by omega)
      simp only [kAdd, upd, c, if_false]
      exact ⟨a, b, c', d, by rw [hbit _ (by omega), e]; simp [c]⟩⟩
  obtain ⟨k1, k2⟩ := fresh_ok h3' (by omega) (by omega) dr cl
  refine ⟨h1, by omega, h3', fun j hj hj2 => ?_, fun j hj => ?_, k1, k2, se, rfl, rfl⟩
  · rw [hbit j hj2, h4 j (by omega) hj2]
    have : ¬ j = r := by omega
    simp [this]
  · by_cases c : j = r
    · subst c
      simp only [kAdd, if_true]
      exact hne
    · simp only [kAdd, c, if_false]
      exact h5 j (by omega)
def kTurn (K : Bk) (x : Nat) : Bk := (K.1, K.2.1, K.2.2.1, fun j => if j = x then !K.2.2.2 j else K.2.2.2 j)
theorem turn_bit {inf : Int32} {x j : Nat} (hx : x < 32) (hj : j < 32) : bt (inf ^^^ ((1 : Int32) <<< (nI x &&& 31))) j = (bt inf j ^^ decide (j = x)) := by rw [b_xor, bt_one hx hj]
theorem Inv_turn {K : Bk} {g r : Nat} {f1 f2 : Nat → Int32} {inf : Int32} {dr cl se : Nat → Int32} {ct : Nat} (h : Inv K g r f1 f2 inf dr cl se ct) {x : Nat} (hx : x < r) :
    Inv (kTurn K x) g r f1 f2 (inf ^^^ ((1 : Int32) <<< (nI x &&& 31))) (gLA f1 f2 (inf ^^^ ((1 : Int32) <<< (nI x &&& 31))) (-1) r dr) (gCl (gLA f1 f2 (inf ^^^ ((1 : Int32) <<< (nI x &&& 31))) (-1) r cl) 20) (gLs (gCl (gLA f1 f2 (inf ^^^ ((1 : Int32) <<< (nI x &&& 31))) (-1) r cl) 20) se g g).1 (gLs (gCl (gLA f1 f2 (inf ^^^ ((1 : Int32) <<< (nI x &&& 31))) (-1) r cl) 20) se g g).2 := by
  obtain ⟨h1, h2, h3, h4, h5, -, -, -⟩ := h
  have h3' : gOK (kTurn K x) g r f1 f2 (inf ^^^ ((1 : Int32) <<< (nI x &&& 31))) := ⟨h3.1, fun j hj => by
    obtain ⟨a, b, c', d, e⟩ := h3.2 j hj
    refine ⟨a, b, c', d, ?_⟩
    rw [turn_bit (by omega) (by omega), e]
    by_cases c : j = x <;> simp [kTurn, c]⟩
  obtain ⟨k1, k2⟩ := fresh_ok h3' (by omega) h2 dr cl
  refine ⟨h1, h2, h3', fun j hj hj2 => ?_, h5, k1, k2, se, rfl, rfl⟩
  rw [turn_bit (by omega) hj2, h4 j hj hj2]
  have : ¬ j = x := by omega
  simp [this]
theorem turn_eq {K : Bk} {g r : Nat} {f1 f2 : Nat → Int32} {inf : Int32} (h : gOK K g r f1 f2 inf) (hr : r ≤ 30) {x : Nat} (hx : x < r) : gHas (inf ^^^ ((1 : Int32) <<< (nI x &&& 31))) (nI x) = !K.2.2.2 x := by
  rw [gHas_bt (by omega), turn_bit (by omega) (by omega), (h.2 x hx).2.2.2.2]
  simp
theorem Inv_new : Inv (0, fun _ => 0, fun _ => 0, fun _ => false) 0 0 (fun _ => 0) (fun _ => 0) 0 (gLA (fun _ => 0) (fun _ => 0) 0 (-1) 0 (fun _ => 0)) (gCl (gLA (fun _ => 0) (fun _ => 0) 0 (-1) 0 (fun _ => 0)) 20) (gLs (gCl (gLA (fun _ => 0) (fun _ => 0) 0 (-1) 0 (fun _ => 0)) 20) (fun _ => 0) 0 0).1 (gLs (gCl (gLA (fun _ => 0) (fun _ => 0) 0 (-1) 0 (fun _ => 0)) 20) (fun _ => 0) 0 0).2 := by
  have h3 : gOK (0, fun _ => 0, fun _ => 0, fun _ => false) 0 0 (fun _ => 0) (fun _ => 0) 0 := ⟨rfl, fun j hj => absurd hj (Nat.not_lt_zero j)⟩
  obtain ⟨k1, k2⟩ := fresh_ok h3 (by decide) (by decide) (fun _ => 0) (fun _ => 0)
  exact ⟨by decide, by decide, h3, fun j _ _ => b_0 j, fun j hj => absurd hj (Nat.not_lt_zero j), k1, k2, _, rfl, rfl⟩
theorem gc_or (v : Int32) (n : Nat) : (∃ x, x < n ∧ v = nI x) ∨ ∀ j : Nat, j < n → v ≠ nI j := by
  rcases Classical.em (∃ x, x < n ∧ v = nI x) with h | h
  · exact Or.inl h
  · exact Or.inr (fun j hj q => h ⟨j, hj, q⟩)
