/-! WHAT STANDS BETWEEN TWO CALLS OF THE LAW. -/
theorem gLs_zero {cl : Nat → Int32} {se : Nat → Int32} {g : Nat} (hf : gFt cl g = false) : ∀ t, (gLs cl se g t).2 = 0
  | 0 => by rw [gLs, gF0, if_neg (by rw [hf]; decide)]
  | t + 1 => by rw [gLs, gLs_zero hf t]; rfl
/-- there are seatings just if nobody is torn -/
theorem ft_pos {K : Bk} {g : Nat} (hg : g ≤ 10) (hK : Kg K g) {cl : Nat → Int32} (hc : gCls K cl) (s0 : Nat → Int32) : gFt cl g = decide (0 < (gLs cl s0 g g).2) := by
  rcases hf : gFt cl g with _ | _
  · rw [gLs_zero hf]; rfl
  · rw [decide_eq_true (first_inv hg hK hc s0 hf g (Nat.le_refl g)).1]
def Inv (K : Bk) (g r : Nat) (f1 f2 : Nat → Int32) (inf : Int32) (dr cl se : Nat → Int32) (ct : Nat) (of : Nat → Int32) : Prop :=
  g ≤ 10 ∧ r ≤ 30 ∧ gOK K g r f1 f2 inf ∧ (∀ j, r ≤ j → j < 32 → bt inf j = false) ∧ mOK K g r f1 f2 of ∧ (∀ j, r ≤ j → j < 30 → of j = 0) ∧ gDrs K dr ∧ gCls K cl ∧ ∃ s0, se = (gLs cl s0 g g).1 ∧ ct = (gLs cl s0 g g).2
theorem fresh_ok {K : Bk} {g r : Nat} {f1 f2 : Nat → Int32} {inf : Int32} (h : gOK K g r f1 f2 inf) (hg : g ≤ 10) (hr : r ≤ 30) (d c : Nat → Int32) : gDrs K (gLA f1 f2 inf (-1) r d) ∧ gCls K (gCl (gLA f1 f2 inf (-1) r c) 20) := by
  have hn := kL_none (K := K) (by rw [h.1]; exact hr)
  constructor
  · intro u v hu hv
    rw [gDrs_of h hg hr d u v hu hv, hn]
  · intro u v hu hv
    rw [gCls_of h hg hr c u v hu hv, fol_congr hn]
theorem Inv_invite {K : Bk} {g r : Nat} {f1 f2 : Nat → Int32} {inf : Int32} {dr cl se : Nat → Int32} {ct : Nat} {of : Nat → Int32} (h : Inv K g r f1 f2 inf dr cl se ct of) (hg : g < 10) :
    Inv K (g + 1) r f1 f2 inf (gLA f1 f2 inf (-1) r dr) (gCl (gLA f1 f2 inf (-1) r cl) 20) (gLs (gCl (gLA f1 f2 inf (-1) r cl) 20) se (g + 1) (g + 1)).1 (gLs (gCl (gLA f1 f2 inf (-1) r cl) 20) se (g + 1) (g + 1)).2 of := by
  obtain ⟨h1, h2, h3, h4, h5, h6, -, -, -⟩ := h
  have h3' : gOK K (g + 1) r f1 f2 inf := ⟨h3.1, fun j hj => by
    obtain ⟨a, b, c, d, e⟩ := h3.2 j hj
    exact ⟨a, b, by omega, by omega, e⟩⟩
  obtain ⟨k1, k2⟩ := fresh_ok h3' (by omega) h2 dr cl
  exact ⟨by omega, h2, h3', h4, ⟨h5.1, fun j hj => by
    obtain ⟨a, b, c, d, e⟩ := h5.2 j hj
    exact ⟨a, b, by omega, by omega, e⟩⟩, h6, k1, k2, se, rfl, rfl⟩
def kAdd (K : Bk) (r wa wb : Nat) : Bk := (r + 1, fun j => if j = r then wa else K.2.1 j, fun j => if j = r then wb else K.2.2.1 j, fun j => if j = r then true else K.2.2.2 j)
theorem Inv_rule {K : Bk} {g r : Nat} {f1 f2 : Nat → Int32} {inf : Int32} {dr cl se : Nat → Int32} {ct : Nat} {of : Nat → Int32} (h : Inv K g r f1 f2 inf dr cl se ct of) (hr : r < 30) {wa wb : Nat} (ha : wa < 2 * g) (hb : wb < 2 * g) :
    Inv (kAdd K r wa wb) g (r + 1) (upd f1 r (nI wa)) (upd f2 r (nI wb)) (inf ||| ((1 : Int32) <<< (nI r &&& 31))) (gLA (upd f1 r (nI wa)) (upd f2 r (nI wb)) (inf ||| ((1 : Int32) <<< (nI r &&& 31))) (-1) (r + 1) dr) (gCl (gLA (upd f1 r (nI wa)) (upd f2 r (nI wb)) (inf ||| ((1 : Int32) <<< (nI r &&& 31))) (-1) (r + 1) cl) 20) (gLs (gCl (gLA (upd f1 r (nI wa)) (upd f2 r (nI wb)) (inf ||| ((1 : Int32) <<< (nI r &&& 31))) (-1) (r + 1) cl) 20) se g g).1 (gLs (gCl (gLA (upd f1 r (nI wa)) (upd f2 r (nI wb)) (inf ||| ((1 : Int32) <<< (nI r &&& 31))) (-1) (r + 1) cl) 20) se g g).2 of := by
  obtain ⟨h1, h2, h3, h4, h5, h6, -, -, -⟩ := h
  have hbit : ∀ j, j < 32 → bt (inf ||| ((1 : Int32) <<< (nI r &&& 31))) j = (bt inf j || decide (j = r)) := fun j hj => by rw [b_or, bt_one (by omega) hj]
  have h3' : gOK (kAdd K r wa wb) g (r + 1) (upd f1 r (nI wa)) (upd f2 r (nI wb)) (inf ||| ((1 : Int32) <<< (nI r &&& 31))) := ⟨rfl, fun j hj => by
    by_cases c : j = r
    · subst c
      simp only [kAdd, upd, if_true]
      exact ⟨trivial, trivial, ha, hb, by rw [hbit _ (by omega)]; simp⟩
    · obtain ⟨a, b, c', d, e⟩ := h3.2 j (by omega)
      simp only [kAdd, upd, c, if_false]
      exact ⟨a, b, c', d, by rw [hbit _ (by omega), e]; simp [c]⟩⟩
  obtain ⟨k1, k2⟩ := fresh_ok h3' h1 (by omega) dr cl
  refine ⟨h1, by omega, h3', fun j hj hj2 => ?_, ⟨rfl, fun j hj => ?_⟩, fun j hj hj2 => h6 j (by omega) hj2, k1, k2, se, rfl, rfl⟩
  · rw [hbit j hj2, h4 j (by omega) hj2]
    have : ¬ j = r := by omega
    simp [this]
  · by_cases c : j = r
    · subst c
      simp only [kAdd, upd, if_true]
      exact ⟨trivial, trivial, ha, hb, by rw [h6 j (Nat.le_refl j) hr]; rfl⟩
    · obtain ⟨a, b, c', d, e⟩ := h5.2 j (by omega)
      simp only [kAdd, upd, c, if_false]
      exact ⟨a, b, c', d, e⟩
def kTurn (K : Bk) (x : Nat) : Bk := (K.1, K.2.1, K.2.2.1, fun j => if j = x then !K.2.2.2 j else K.2.2.2 j)
theorem turn_bit {inf : Int32} {x j : Nat} (hx : x < 32) (hj : j < 32) : bt (inf ^^^ ((1 : Int32) <<< (nI x &&& 31))) j = (bt inf j ^^ decide (j = x)) := by rw [b_xor, bt_one hx hj]
theorem Inv_turn {K : Bk} {g r : Nat} {f1 f2 : Nat → Int32} {inf : Int32} {dr cl se : Nat → Int32} {ct : Nat} {of : Nat → Int32} (h : Inv K g r f1 f2 inf dr cl se ct of) {x : Nat} (hx : x < r) :
    Inv (kTurn K x) g r f1 f2 (inf ^^^ ((1 : Int32) <<< (nI x &&& 31))) (gLA f1 f2 (inf ^^^ ((1 : Int32) <<< (nI x &&& 31))) (-1) r dr) (gCl (gLA f1 f2 (inf ^^^ ((1 : Int32) <<< (nI x &&& 31))) (-1) r cl) 20) (gLs (gCl (gLA f1 f2 (inf ^^^ ((1 : Int32) <<< (nI x &&& 31))) (-1) r cl) 20) se g g).1 (gLs (gCl (gLA f1 f2 (inf ^^^ ((1 : Int32) <<< (nI x &&& 31))) (-1) r cl) 20) se g g).2 (upd of x (gB (K.2.2.2 x))) := by
  obtain ⟨h1, h2, h3, h4, h5, h6, -, -, -⟩ := h
  have h3' : gOK (kTurn K x) g r f1 f2 (inf ^^^ ((1 : Int32) <<< (nI x &&& 31))) := ⟨h3.1, fun j hj => by
    obtain ⟨a, b, c', d, e⟩ := h3.2 j hj
    refine ⟨a, b, c', d, ?_⟩
    rw [turn_bit (by omega) (by omega), e]
    by_cases c : j = x <;> simp [kTurn, c]⟩
  obtain ⟨k1, k2⟩ := fresh_ok h3' h1 h2 dr cl
  refine ⟨h1, h2, h3', fun j hj hj2 => ?_, ⟨h5.1, fun j hj => ?_⟩, fun j hj hj2 => ?_, k1, k2, se, rfl, rfl⟩
  · rw [turn_bit (by omega) hj2, h4 j hj hj2]
    have : ¬ j = x := by omega
    simp [this]
  · obtain ⟨a, b, c', d, e⟩ := h5.2 j hj
    refine ⟨a, b, c', d, ?_⟩
    by_cases c : j = x
    · subst c; simp [upd, kTurn]
    · simp [upd, kTurn, c, e]
  · have : ¬ j = x := by omega
    simp [upd, this, h6 j hj hj2]
theorem turn_eq {K : Bk} {g r : Nat} {f1 f2 : Nat → Int32} {inf : Int32} (h : gOK K g r f1 f2 inf) (hr : r ≤ 30) {x : Nat} (hx : x < r) : gHas (inf ^^^ ((1 : Int32) <<< (nI x &&& 31))) (nI x) = !K.2.2.2 x := by
  rw [gHas_bt (by omega), turn_bit (by omega) (by omega), (h.2 x hx).2.2.2.2]
  simp
theorem Inv_new : Inv (0, fun _ => 0, fun _ => 0, fun _ => false) 0 0 (fun _ => 0) (fun _ => 0) 0 (gLA (fun _ => 0) (fun _ => 0) 0 (-1) 0 (fun _ => 0)) (gCl (gLA (fun _ => 0) (fun _ => 0) 0 (-1) 0 (fun _ => 0)) 20) (gLs (gCl (gLA (fun _ => 0) (fun _ => 0) 0 (-1) 0 (fun _ => 0)) 20) (fun _ => 0) 0 0).1 (gLs (gCl (gLA (fun _ => 0) (fun _ => 0) 0 (-1) 0 (fun _ => 0)) 20) (fun _ => 0) 0 0).2 (fun _ => 0) := by
  have h3 : gOK (0, fun _ => 0, fun _ => 0, fun _ => false) 0 0 (fun _ => 0) (fun _ => 0) 0 := ⟨rfl, fun j hj => absurd hj (Nat.not_lt_zero j)⟩
  obtain ⟨k1, k2⟩ := fresh_ok h3 (by decide) (by decide) (fun _ => 0) (fun _ => 0)
  exact ⟨by decide, by decide, h3, fun j _ _ => b_0 j, ⟨rfl, fun j hj => absurd hj (Nat.not_lt_zero j)⟩, fun _ _ _ => rfl, k1, k2, _, rfl, rfl⟩
/-- a throw's wants, with what may have been written so far -/
def gcXA (A : Nat → Prop) (U : State) : Prop := (∀ w ∈ gcXL, va_Nw w U) ∧ vx_Zq Bundle.tN "UNASSIGNED_STACK" Bundle.steD A U U.heap ∧ vx_Zq Bundle.tN "SUPPRESSED_SENTINEL" Bundle.listD A U U.heap ∧ (∀ q ∈ gcTX, ∃ sa, vk_R RX0 q.1 q.2 sa U) ∧ ∀ q ∈ gcNC, va_Nc q.1 q.2 U
theorem gcXA_go {A : Nat → Prop} {s U : State} {H : Heap} {locs : List Loc} {d : Drawn} (h : gcXA A s) (hS : va_S A s.heap H locs) (hU : U.heap = H) (hW : (s.setDrawn d).WarmedH U.vm) : gcX U := by
  have hW' : s.WarmedH U.vm := hW
  refine ⟨fun w hw => gcNw_warm (gcXL_dc w hw) hW' (h.1 w hw), ?_, ?_, fun q hq => (h.2.2.2.1 q hq).imp fun _ h => h.warm hW', fun q hq => (h.2.2.2.2 q hq).moved hW'.alike⟩
  · rw [hU]; exact ((h.2.1.kept (fun a ha hn => hS.2.1 a ha hn)).moved hW'.alike).narrow (fun _ q => q.elim)
  · rw [hU]; exact ((h.2.2.1.kept (fun a ha hn => hS.2.1 a ha hn)).moved hW'.alike).narrow (fun _ q => q.elim)
theorem gc_or (v : Int32) (n : Nat) : (∃ x, x < n ∧ v = nI x) ∨ ∀ j : Nat, j < n → v ≠ nI j := by
  rcases Classical.em (∃ x, x < n ∧ v = nI x) with h | h
  · exact Or.inl h
  · exact Or.inr (fun j hj q => h ⟨j, hj, q⟩)
theorem nI_3 (j : Nat) : nI (3 * j) + 3 = nI (3 * (j + 1)) := nI_add (3 * j) 3
theorem law_gt {L j : Nat} (hL : L ≤ 1536) (hj : j ≤ 512) (c : ¬ nI L - 3 < nI (3 * j)) : 3 * j + 3 ≤ L := by
  have h1 := pk_sub_toInt (a := L) (b := 3) (by omega) (by omega)
  have h2 := nI_toInt (n := 3 * j) (by omega)
  have e : (nI L - 3 : Int32) = nI L - nI 3 := rfl
  apply Classical.byContradiction
  intro q
  apply c
  rw [Int32.lt_iff_toInt_lt, e, h1, h2]
  omega
/-- the law's loop: the room grows by one cell a round, the record of draws may move -/
theorem law_rounds {p : Program} {l : Launch} {e : Env} {R : Room} {s : State} {m : MethodId} {args : Array Value} {below : List Frame} {meth : Method} {c : Code} {Q : State → Prop} {pc k0 n0 : Nat} (N : Nat) (I : Nat → Heap → List Loc → Array Slot → Prop)
    (step : ∀ (i : Nat) (d : Drawn) (H : Heap) (locs : List Loc) (ls : Array Slot), i ≤ N → s.drawn.sameBut d lw_cs → I i H locs ls →
      (∀ (d1 : Drawn) (H1 : Heap) (locs1 : List Loc) (ls1 : Array Slot), i < N → s.drawn.sameBut d1 lw_cs → I (i + 1) H1 locs1 ls1 → W p l e R (s.setDrawn d1) m args below meth c H1 locs1 (k0 + (i + 1)) (n0 + 6 * (i + 1)) Q (F0 m pc ls1 [])) →
      W p l e R (s.setDrawn d) m args below meth c H locs (k0 + i) (n0 + 6 * i) Q (F0 m pc ls [])) {d : Drawn} {H : Heap} {locs : List Loc} {ls : Array Slot} (hd : s.drawn.sameBut d lw_cs) (h0 : I 0 H locs ls) : W p l e R (s.setDrawn d) m args below meth c H locs k0 n0 Q (F0 m pc ls []) := by
  have K : ∀ (n i : Nat) (d : Drawn) (H : Heap) (locs : List Loc) (ls : Array Slot), i ≤ N → N < i + n → s.drawn.sameBut d lw_cs → I i H locs ls → W p l e R (s.setDrawn d) m args below meth c H locs (k0 + i) (n0 + 6 * i) Q (F0 m pc ls []) := by
    intro n
    induction n with
    | zero => intro i d H locs ls h1 h2; exact absurd h2 (by omega)
    | succ n ih =>
      intro i d H locs ls h1 h2 hd h3
      exact step i d H locs ls h1 hd h3 (fun d1 H1 locs1 ls1 h4 h5 h6 => ih (i + 1) d1 H1 locs1 ls1 h4 (by omega) h5 h6)
  exact K (N + 1) 0 d H locs ls (Nat.zero_le N) (by omega) hd h0
