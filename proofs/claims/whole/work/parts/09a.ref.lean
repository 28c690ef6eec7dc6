/-! THE REFERENCE'S METHODS. Its book of rules is K: what its rows hold, read as numbers. -/
def mOK (K : Bk) (g r : Nat) (f1 f2 of : Nat → Int32) : Prop := K.1 = r ∧ ∀ j, j < r → f1 j = nI (K.2.1 j) ∧ f2 j = nI (K.2.2.1 j) ∧ K.2.1 j < 2 * g ∧ K.2.2.1 j < 2 * g ∧ of j = gB (!K.2.2.2 j)
theorem mOK_20 {K : Bk} {g r : Nat} {f1 f2 of : Nat → Int32} (h : mOK K g r f1 f2 of) (hg : g ≤ 10) : Bk20 K := fun j hj => by
  have q := h.2 j (by rw [← h.1]; exact hj)
  exact ⟨by omega, by omega⟩
def mIn (v lo hi : Int32) : Bool := decide (¬ v < lo ∧ ¬ hi < v)
theorem mIn_ok {j n : Nat} (h : j < n) (hn : n < 2 ^ 30) : mIn (nI j) 0 (nI n - 1) = true := by
  have e : nI n - 1 = nI (n - 1) := by rw [show n = (n - 1) + 1 by omega, nI_pred]; rfl
  rw [e]
  unfold mIn
  rw [decide_eq_true_iff]
  exact ⟨nI_pos (by omega), fun q => absurd ((nI_ltI (by omega) (by omega)).mp q) (by omega)⟩
theorem mIn_no {x : Int32} {n : Nat} (hn : n < 2 ^ 30) (h : ∀ j, j < n → x ≠ nI j) : mIn x 0 (nI n - 1) = false := by
  unfold mIn
  rw [decide_eq_false_iff_not]
  rintro ⟨h0, h1⟩
  rcases pk_ix x (n := n) (by omega) with c | c | ⟨j, hj, c⟩
  · exact h0 c
  · apply h1
    have h2 : (nI n - 1).toInt = (n : Int) - 1 := by
      have := pk_sub_toInt (a := n) (b := 1) (by omega) (by omega)
      exact this
    have h3 := Int32.le_iff_toInt_le.mp c
    rw [nI_toInt (by omega)] at h3
    exact Int32.lt_iff_toInt_lt.mpr (by omega)
  · exact h j hj c
set_option maxHeartbeats 4000000 in
set_option maxRecDepth 100000 in
theorem c_X1_fail (l : Launch) (dC : Nat → ClassId) (dI : Nat → Nat → Nat) (h : Nat → Nat) (kc : Nat → ClassId) (f1 : Nat → Int32) (f2 : Nat → Int32) (of : Nat → Int32) (ro : Nat → Int32) (fa : Nat → Int32) (th : Int32) (g : Nat) (r : Nat) (x1 : Int32) (x2 : Int32) (x : Int32) (sz : Nat) : Met l yX1_fail wsX1_fail ({ frames := 0, cells := 0, slots := 0, locals := 0 }) (gcPM (dC, dI) [.ref (h 0), .int x] (gmW h kc f1 f2 of ro fa th (nI g) (nI r) x1 x2) (gmT kc) sz) (va_Qi (fun (rv : Int32) (_u : Unit) => rv = 0) (fun _u t9 => va_P (dC, dI) vwCl (gmW h kc f1 f2 of ro fa x (nI g) (nI r) x1 x2) t9.heap ∧ va_D (va_A (gmW h kc f1 f2 of ro fa th (nI g) (nI r) x1 x2) sz) (gmW h kc f1 f2 of ro fa x (nI g) (nI r) x1 x2)) (va_A (gmW h kc f1 f2 of ro fa th (nI g) (nI r) x1 x2) sz)) 0 0 (va_A (gmW h kc f1 f2 of ro fa th (nI g) (nI r) x1 x2) sz) := by
  refine Met.ofW (cc := cX1_fail) (maxL := 2) (ret := (some .int)) (by decide) rfl ?_
  intro p e s m args below meth c s₁ B hml hv
  obtain ⟨rfl, hsz, hP, hK, hD0⟩ := hv
  have hx := B.exec
  have hb := B.bytes
  have hr := B.returns
  have hts := atoms_spec (ws := wsX1_fail) B.pre
  have hown : s.vm.findClass RX1 = some m.cls := findClass_of_methodNamed B.named
  have hlocks := B.notSynchronized
  subst hsz
  have hD := hD0.self (sz := s.heap.size)
  generalize hAe : va_A (gmW h kc f1 f2 of ro fa th (nI g) (nI r) x1 x2) s.heap.size = A at hD ⊢
  have hA : ∀ q : Nat, s.heap.size ≤ q → A q := fun q h => by rw [← hAe]; exact Or.inr h
  have hS : va_S A s.heap s.heap [] := va_S.rf
  have hP : va_P (dC, dI) vwCl (gmW h kc f1 f2 of ro fa th (nI g) (nI r) x1 x2) s.heap := hP
  have hin1 : ∀ w ∈ wsX10, w ∈ wsX1_fail := by decide +kernel
  have hl := lv_entry [.ref (h 0), .int x] (n := 2) (Nat.le_of_ble_eq_true rfl)
  rw [lg_entry_eq]
  generalize (lg_sl [.ref (h 0), .int x] ++ List.replicate (2 - (lg_sl [.ref (h 0), .int x]).length) Slot.unset).toArray = ls at hl ⊢
  have hl : lv_has ls 2 [(0, .ref (h 0)), (1, .int x)] := hl
  refine lv_aload_n hx hb dX1_fail_0 rfl (lv_at hl 0 rfl) ?_
  refine lv_iload_n hx hb dX1_fail_1 rfl (lv_at hl 1 rfl) ?_
  refine va_put (D := (dC, dI)) (ci := 1) (v := .int x) (ty := .int) (C := RX1) (T := TX1) (N := 10) hx hb hts hin1 tyX1 tyX1_ok nmX1 hown hK hP hD hS 0 rfl rfl 0 (by decide) (hts (.fieldLink RX1 33 "GuestChairsModel" "thrown" "I") (by decide +kernel)) (fun _ h9 => h9) rfl (by decide +kernel) rfl rfl (Nat.le_of_ble_eq_true rfl) dX1_fail_2 (fun H locs hP hD hS => ?_)
  have hP : va_P (dC, dI) vwCl (gmW h kc f1 f2 of ro fa x (nI g) (nI r) x1 x2) H := hP
  have hD : va_D A (gmW h kc f1 f2 of ro fa x (nI g) (nI r) x1 x2) := hD
  refine lv_iconst (v := 0) hx hb dX1_fail_5 (by decide) ?_
  have hpost : (0 : Int32) = 0 := by first | rfl | assumption
  exact W.iret (v := 0) hx hb hr (fun t ht hW => ⟨⟨0, (), rfl, hpost, ⟨by rw [ht]; exact hP, hD⟩⟩, hS.F ht⟩) hS.2.2 dX1_fail_6
set_option maxHeartbeats 4000000 in
set_option maxRecDepth 100000 in
theorem c_X1_thrown (l : Launch) (dC : Nat → ClassId) (dI : Nat → Nat → Nat) (h : Nat → Nat) (kc : Nat → ClassId) (f1 : Nat → Int32) (f2 : Nat → Int32) (of : Nat → Int32) (ro : Nat → Int32) (fa : Nat → Int32) (th : Int32) (g : Nat) (r : Nat) (x1 : Int32) (x2 : Int32) : Met l yX1_thrown wsX1_thrown ({ frames := 0, cells := 0, slots := 0, locals := 0 }) (gcPR (dC, dI) [.ref (h 0)] (gmW h kc f1 f2 of ro fa th (nI g) (nI r) x1 x2) (gmT kc)) (va_Qi (fun (rv : Int32) (_u : Unit) => rv = th) (fun _ _ => True) (fun _ => False)) 0 0 (fun _ => False) := by
  refine Met.ofW (cc := cX1_thrown) (maxL := 1) (ret := (some .int)) (by decide) rfl ?_
  intro p e s m args below meth c s₁ B hml hv
  obtain ⟨rfl, hP, hK⟩ := hv
  have hx := B.exec
  have hb := B.bytes
  have hr := B.returns
  have hts := atoms_spec (ws := wsX1_thrown) B.pre
  have hown : s.vm.findClass RX1 = some m.cls := findClass_of_methodNamed B.named
  have hlocks := B.notSynchronized
  have hS : va_S (fun _ => False) s.heap s.heap [] := va_S.rf
  have hP : va_P (dC, dI) vwCl (gmW h kc f1 f2 of ro fa th (nI g) (nI r) x1 x2) s.heap := hP
  have hin1 : ∀ w ∈ wsX10, w ∈ wsX1_thrown := by decide +kernel
  have hl := lv_entry [.ref (h 0)] (n := 1) (Nat.le_of_ble_eq_true rfl)
  rw [lg_entry_eq]
  generalize (lg_sl [.ref (h 0)] ++ List.replicate (1 - (lg_sl [.ref (h 0)]).length) Slot.unset).toArray = ls at hl ⊢
  have hl : lv_has ls 1 [(0, .ref (h 0))] := hl
  refine lv_aload_n hx hb dX1_thrown_0 rfl (lv_at hl 0 rfl) ?_
  refine va_get (D := (dC, dI)) (ci := 1) (v := .int th) (C := RX1) (T := TX1) (N := 10) hx hb hts hin1 hown hK hP 0 rfl rfl 0 (by decide) (hts (.fieldLink RX1 33 "GuestChairsModel" "thrown" "I") (by decide +kernel)) (fun _ h9 => h9) rfl dX1_thrown_1 ?_
  have hpost : th = th := by first | rfl | assumption
  exact W.iret (v := th) hx hb hr (fun t ht hW => ⟨⟨th, (), rfl, hpost, trivial⟩, hS.F ht⟩) hS.2.2 dX1_thrown_4
set_option maxHeartbeats 4000000 in
set_option maxRecDepth 100000 in
theorem c_X1_isIn (l : Launch) (v : Int32) (lo : Int32) (hi : Int32) : Met l yX1_isIn wsX1_isIn ({ frames := 0, cells := 0, slots := 0, locals := 0 }) (va_Pc [.int v, .int lo, .int hi] (fun _ => True)) (va_Qi (fun (rv : Int32) (_u : Unit) => rv = gB (mIn v lo hi)) (fun _ _ => True) (fun _ => False)) 0 0 (fun _ => False) := by
  refine Met.ofW (cc := cX1_isIn) (maxL := 3) (ret := (some .boolean)) (by decide) rfl ?_
  intro p e s m args below meth c s₁ B hml hv
  obtain ⟨rfl, -⟩ := hv
  have hx := B.exec
  have hb := B.bytes
  have hr := B.returns
  have hts := atoms_spec (ws := wsX1_isIn) B.pre
  have hown : s.vm.findClass RX1 = some m.cls := findClass_of_methodNamed B.named
  have hlocks := B.notSynchronized
  have hS : va_S (fun _ => False) s.heap s.heap [] := va_S.rf
  have hl := lv_entry [.int v, .int lo, .int hi] (n := 3) (Nat.le_of_ble_eq_true rfl)
  rw [lg_entry_eq]
  generalize (lg_sl [.int v, .int lo, .int hi] ++ List.replicate (3 - (lg_sl [.int v, .int lo, .int hi]).length) Slot.unset).toArray = ls at hl ⊢
  have hl : lv_has ls 3 [(0, .int v), (1, .int lo), (2, .int hi)] := hl
  refine lv_iload_n hx hb dX1_isIn_0 rfl (lv_at hl 0 rfl) ?_
  refine lv_iload_n hx hb dX1_isIn_1 rfl (lv_at hl 1 rfl) ?_
  refine lv_icmp_lt (tgt := 14) hx hb dX1_isIn_2 (by decide) (fun c_2 => ?_) (fun c_2 => ?_)
  · skip
    refine lv_iconst (v := 0) hx hb dX1_isIn_14 (by decide) ?_
    have hpost : (0 : Int32) = gB (mIn v lo hi) := by simp [gB, mIn, c_2]
    exact W.zret (ty := .boolean) (v := 0) hx hb hr (by first | rfl | decide | exact gB_nar _) (fun t ht hW => ⟨⟨0, (), rfl, hpost, trivial⟩, hS.F ht⟩) hS.2.2 dX1_isIn_15
  · skip
    refine lv_iload_n hx hb dX1_isIn_5 rfl (lv_at hl 0 rfl) ?_
    refine lv_iload_n hx hb dX1_isIn_6 rfl (lv_at hl 2 rfl) ?_
    refine lv_icmp_gt (tgt := 14) hx hb dX1_isIn_7 (by decide) (fun c_7 => ?_) (fun c_7 => ?_)
    · skip
      refine lv_iconst (v := 0) hx hb dX1_isIn_14 (by decide) ?_
      have hpost : (0 : Int32) = gB (mIn v lo hi) := by simp [gB, mIn, c_2, c_7]
      exact W.zret (ty := .boolean) (v := 0) hx hb hr (by first | rfl | decide | exact gB_nar _) (fun t ht hW => ⟨⟨0, (), rfl, hpost, trivial⟩, hS.F ht⟩) hS.2.2 dX1_isIn_15
    · skip
      refine lv_iconst (v := 1) hx hb dX1_isIn_10 (by decide) ?_
      refine lv_goto (tgt := 15) hx hb dX1_isIn_11 (by decide) ?_
      have hpost : (1 : Int32) = gB (mIn v lo hi) := by simp [gB, mIn, c_2, c_7]
      exact W.zret (ty := .boolean) (v := 1) hx hb hr (by first | rfl | decide | exact gB_nar _) (fun t ht hW => ⟨⟨1, (), rfl, hpost, trivial⟩, hS.F ht⟩) hS.2.2 dX1_isIn_15
set_option maxHeartbeats 4000000 in
set_option maxRecDepth 100000 in
theorem c_X1_isWish (l : Launch) (dC : Nat → ClassId) (dI : Nat → Nat → Nat) (h : Nat → Nat) (kc : Nat → ClassId) (f1 : Nat → Int32) (f2 : Nat → Int32) (of : Nat → Int32) (ro : Nat → Int32) (fa : Nat → Int32) (th : Int32) (g : Nat) (r : Nat) (x1 : Int32) (x2 : Int32) (x : Int32) : Met l yX1_isWish wsX1_isWish ({ frames := 1, cells := 0, slots := 0, locals := 22 }) (gcPR (dC, dI) [.ref (h 0), .int x] (gmW h kc f1 f2 of ro fa th (nI g) (nI r) x1 x2) (gmT kc)) (va_Qi (fun (rv : Int32) (_u : Unit) => rv = gB (mIn x 0 (nI (2 * g) - 1))) (fun _ _ => True) (fun _ => False)) 0 0 (fun _ => False) := by
  refine Met.ofW (cc := cX1_isWish) (maxL := 2) (ret := (some .boolean)) (by decide) rfl ?_
  intro p e s m args below meth c s₁ B hml hv
  obtain ⟨rfl, hP, hK⟩ := hv
  have hx := B.exec
  have hb := B.bytes
  have hr := B.returns
  have hts := atoms_spec (ws := wsX1_isWish) B.pre
  have hown : s.vm.findClass RX1 = some m.cls := findClass_of_methodNamed B.named
  have hlocks := B.notSynchronized
  have hS : va_S (fun _ => False) s.heap s.heap [] := va_S.rf
  have hP : va_P (dC, dI) vwCl (gmW h kc f1 f2 of ro fa th (nI g) (nI r) x1 x2) s.heap := hP
  have hin1 : ∀ w ∈ wsX10, w ∈ wsX1_isWish := by decide +kernel
  have hl := lv_entry [.ref (h 0), .int x] (n := 2) (Nat.le_of_ble_eq_true rfl)
  rw [lg_entry_eq]
  generalize (lg_sl [.ref (h 0), .int x] ++ List.replicate (2 - (lg_sl [.ref (h 0), .int x]).length) Slot.unset).toArray = ls at hl ⊢
  have hl : lv_has ls 2 [(0, .ref (h 0)), (1, .int x)] := hl
  refine lv_iload_n hx hb dX1_isWish_0 rfl (lv_at hl 1 rfl) ?_
  refine lv_iconst (v := 0) hx hb dX1_isWish_1 (by decide) ?_
  refine lv_iconst (v := 2) hx hb dX1_isWish_2 (by decide) ?_
  refine lv_aload_n hx hb dX1_isWish_3 rfl (lv_at hl 0 rfl) ?_
  refine va_get (D := (dC, dI)) (ci := 1) (v := .int (nI g)) (C := RX1) (T := TX1) (N := 10) hx hb hts hin1 hown hK hP 0 rfl rfl 1 (by decide) (hts (.fieldLink RX1 36 "GuestChairsModel" "guests" "I") (by decide +kernel)) (fun _ h9 => h9) rfl dX1_isWish_4 ?_
  refine lv_imul hx hb dX1_isWish_7 ?_
  refine gc_topi (y := nI (2 * g)) (pk_mul 2 g) ?_
  refine lv_iconst (v := 1) hx hb dX1_isWish_8 (by decide) ?_
  refine lv_isub hx hb dX1_isWish_9 ?_
  refine va_calli (va_runS (As := [.int x, .int 0, .int (nI (2 * g) - 1)]) (rest := []) ⟨hx, hb, hml, hown, hts⟩ (c_X1_isIn l x 0 (nI (2 * g) - 1)) (va_cwS 3 hts gX1_isWish_X1_isIn rfl rfl rfl (by decide +kernel) ⟨Nat.le_of_ble_eq_true rfl, Nat.le_of_ble_eq_true rfl⟩) ⟨fun a U g mk q => q, fun U hU hW => ⟨rfl, trivial⟩⟩ rfl rfl hl.1 rfl (lv_room (Nat.le_of_ble_eq_true rfl)) dX1_isWish_10 ⟨Nat.zero_le _, Nat.zero_le _⟩) hS (fun q _ h => h.elim) (fun q h => h.elim) (fun r1 u t H locs ht hvm hw hB hz1 hk1 hS => ?_)
  have hP := gc_keep hP hk1
  have hw : r1 = gB (mIn x 0 (nI (2 * g) - 1)) := hw
  subst hw
  clear hw
  clear hB hz1 hk1 ht hvm
  have hpost : (gB (mIn x 0 (nI (2 * g) - 1))) = gB (mIn x 0 (nI (2 * g) - 1)) := by first | rfl | assumption
  exact W.zret (ty := .boolean) (v := gB (mIn x 0 (nI (2 * g) - 1))) hx hb hr (by first | rfl | decide | exact gB_nar _) (fun t ht hW => ⟨⟨gB (mIn x 0 (nI (2 * g) - 1)), (), rfl, hpost, trivial⟩, hS.F ht⟩) hS.2.2 dX1_isWish_13
set_option maxHeartbeats 4000000 in
set_option maxRecDepth 100000 in
theorem c_X1_against (l : Launch) (w : Nat) (hw : w < 20) : Met l yX1_against wsX1_against ({ frames := 0, cells := 0, slots := 0, locals := 0 }) (va_Pc [.int (nI w)] (fun _ => True)) (va_Qi (fun (rv : Int32) (_u : Unit) => rv = nI (w ^^^ 1)) (fun _ _ => True) (fun _ => False)) 0 0 (fun _ => False) := by
  refine Met.ofW (cc := cX1_against) (maxL := 1) (ret := (some .int)) (by decide) rfl ?_
  intro p e s m args below meth c s₁ B hml hv
  obtain ⟨rfl, -⟩ := hv
  have hx := B.exec
  have hb := B.bytes
  have hr := B.returns
  have hts := atoms_spec (ws := wsX1_against) B.pre
  have hown : s.vm.findClass RX1 = some m.cls := findClass_of_methodNamed B.named
  have hlocks := B.notSynchronized
  have hS : va_S (fun _ => False) s.heap s.heap [] := va_S.rf
  have hl := lv_entry [.int (nI w)] (n := 1) (Nat.le_of_ble_eq_true rfl)
  rw [lg_entry_eq]
  generalize (lg_sl [.int (nI w)] ++ List.replicate (1 - (lg_sl [.int (nI w)]).length) Slot.unset).toArray = ls at hl ⊢
  have hl : lv_has ls 1 [(0, .int (nI w))] := hl
  refine lv_iload_n hx hb dX1_against_0 rfl (lv_at hl 0 rfl) ?_
  refine lv_iconst (v := 2) hx hb dX1_against_1 (by decide) ?_
  refine lv_irem hx hb dX1_against_2 (by decide) ?_
  refine gc_topi (y := nI (w % 2)) (pk_rem (d := 2) (by omega) (by decide) (by decide)) ?_
  refine lv_if_ne (tgt := 12) hx hb dX1_against_3 (by decide) (fun c_3 => ?_) (fun c_3 => ?_)
  · skip
    have c_3 : w % 2 = 1 := by (have q : ¬ w % 2 = 0 := fun q => c_3 (by rw [q]; rfl)); omega
    refine lv_iload_n hx hb dX1_against_12 rfl (lv_at hl 0 rfl) ?_
    refine lv_iconst (v := 1) hx hb dX1_against_13 (by decide) ?_
    refine lv_isub hx hb dX1_against_14 ?_
    have hpost : (nI w - 1) = nI (w ^^^ 1) := by first | (rw [xor1_even c_3]; exact nI_1 w) | (rw [xor1_odd c_3]; exact pk_sub (b := 1) (by omega))
    exact W.iret (v := (nI w - 1)) hx hb hr (fun t ht hW => ⟨⟨(nI w - 1), (), rfl, hpost, trivial⟩, hS.F ht⟩) hS.2.2 dX1_against_15
  · skip
    have c_3 : w % 2 = 0 := (nI_eq (b := 0) (by omega) (by decide)).mp c_3
    refine lv_iload_n hx hb dX1_against_6 rfl (lv_at hl 0 rfl) ?_
    refine lv_iconst (v := 1) hx hb dX1_against_7 (by decide) ?_
    refine lv_iadd hx hb dX1_against_8 ?_
    refine lv_goto (tgt := 15) hx hb dX1_against_9 (by decide) ?_
    have hpost : (nI w + 1) = nI (w ^^^ 1) := by first | (rw [xor1_even c_3]; exact nI_1 w) | (rw [xor1_odd c_3]; exact pk_sub (b := 1) (by omega))
    exact W.iret (v := (nI w + 1)) hx hb hr (fun t ht hW => ⟨⟨(nI w + 1), (), rfl, hpost, trivial⟩, hS.F ht⟩) hS.2.2 dX1_against_15
set_option maxHeartbeats 4000000 in
set_option maxRecDepth 100000 in
theorem c_X1_put (l : Launch) (dC : Nat → ClassId) (dI : Nat → Nat → Nat) (h : Nat → Nat) (kc : Nat → ClassId) (f1 : Nat → Int32) (f2 : Nat → Int32) (of : Nat → Int32) (ro : Nat → Int32) (fa : Nat → Int32) (th : Int32) (g : Nat) (r : Nat) (x1 : Int32) (x2 : Int32) (many : Nat) (t : Nat) (v : Int32) (sz : Nat) (ht : t < 20) (hm : fa t = -1 → many < 20) : Met l yX1_put wsX1_put ({ frames := 0, cells := 0, slots := 0, locals := 0 }) (gcPM (dC, dI) [.ref (h 0), .int (nI many), .int (nI t), .int v] (gmW h kc f1 f2 of ro fa th (nI g) (nI r) x1 x2) (gmT kc) sz) (va_Qi (fun (rv : Int32) (_u : Unit) => rv = nI (mPn fa many t)) (fun _u t9 => va_P (dC, dI) vwCl (gmW h kc f1 f2 of (mPr ro fa many t) (mPf fa t v) th (nI g) (nI r) x1 x2) t9.heap ∧ va_D (va_A (gmW h kc f1 f2 of ro fa th (nI g) (nI r) x1 x2) sz) (gmW h kc f1 f2 of (mPr ro fa many t) (mPf fa t v) th (nI g) (nI r) x1 x2)) (va_A (gmW h kc f1 f2 of ro fa th (nI g) (nI r) x1 x2) sz)) 0 0 (va_A (gmW h kc f1 f2 of ro fa th (nI g) (nI r) x1 x2) sz) := by
  refine Met.ofW (cc := cX1_put) (maxL := 4) (ret := (some .int)) (by decide) rfl ?_
  intro p e s m args below meth c s₁ B hml hv
  obtain ⟨rfl, hsz, hP, hK, hD0⟩ := hv
  have hx := B.exec
  have hb := B.bytes
  have hr := B.returns
  have hts := atoms_spec (ws := wsX1_put) B.pre
  have hown : s.vm.findClass RX1 = some m.cls := findClass_of_methodNamed B.named
  have hlocks := B.notSynchronized
  subst hsz
  have hD := hD0.self (sz := s.heap.size)
  generalize hAe : va_A (gmW h kc f1 f2 of ro fa th (nI g) (nI r) x1 x2) s.heap.size = A at hD ⊢
  have hA : ∀ q : Nat, s.heap.size ≤ q → A q := fun q h => by rw [← hAe]; exact Or.inr h
  have hS : va_S A s.heap s.heap [] := va_S.rf
  have hP : va_P (dC, dI) vwCl (gmW h kc f1 f2 of ro fa th (nI g) (nI r) x1 x2) s.heap := hP
  have hin1 : ∀ w ∈ wsX10, w ∈ wsX1_put := by decide +kernel
  have hl := lv_entry [.ref (h 0), .int (nI many), .int (nI t), .int v] (n := 4) (Nat.le_of_ble_eq_true rfl)
  rw [lg_entry_eq]
  generalize (lg_sl [.ref (h 0), .int (nI many), .int (nI t), .int v] ++ List.replicate (4 - (lg_sl [.ref (h 0), .int (nI many), .int (nI t), .int v]).length) Slot.unset).toArray = ls at hl ⊢
  have hl : lv_has ls 4 [(0, .ref (h 0)), (1, .int (nI many)), (2, .int (nI t)), (3, .int v)] := hl
  refine lv_aload_n hx hb dX1_put_0 rfl (lv_at hl 0 rfl) ?_
  refine va_get (D := (dC, dI)) (ci := 1) (v := .ref (h 5)) (C := RX1) (T := TX1) (N := 10) hx hb hts hin1 hown hK hP 0 rfl rfl 9 (by decide) (hts (.fieldLink RX1 30 "GuestChairsModel" "far" "[I") (by decide +kernel)) (fun _ h9 => h9) rfl dX1_put_1 ?_
  refine lv_iload_n hx hb dX1_put_4 rfl (lv_at hl 2 rfl) ?_
  refine va_iald hx hb hK hP 5 4 rfl rfl (vp_in_nI (n := t) (by omega) (by decide)) dX1_put_5 ?_
  rw [nI_clamp (n := t) (by omega)]
  refine lv_iconst (v := -1) hx hb dX1_put_6 (by decide) ?_
  refine lv_icmp_eq (tgt := 12) hx hb dX1_put_7 (by decide) (fun c_7 => ?_) (fun c_7 => ?_)
  · skip
    have hm20 := hm c_7
    refine lv_aload_n hx hb dX1_put_12 rfl (lv_at hl 0 rfl) ?_
    refine va_get (D := (dC, dI)) (ci := 1) (v := .ref (h 5)) (C := RX1) (T := TX1) (N := 10) hx hb hts hin1 hown hK hP 0 rfl rfl 9 (by decide) (hts (.fieldLink RX1 30 "GuestChairsModel" "far" "[I") (by decide +kernel)) (fun _ h9 => h9) rfl dX1_put_13 ?_
    refine lv_iload_n hx hb dX1_put_16 rfl (lv_at hl 2 rfl) ?_
    refine lv_iload_n hx hb dX1_put_17 rfl (lv_at hl 3 rfl) ?_
    refine va_iast hx hb hK hP hD hS 5 4 rfl rfl (vp_in_nI (n := t) (by omega) (by decide)) dX1_put_18 (fun H locs hP hD hS => ?_)
    rw [nI_clamp (n := t) (by omega)] at hP hD
    have hP : va_P (dC, dI) vwCl (gmW h kc f1 f2 of ro (upd fa t v) th (nI g) (nI r) x1 x2) H := hP
    have hD : va_D A (gmW h kc f1 f2 of ro (upd fa t v) th (nI g) (nI r) x1 x2) := hD
    refine lv_aload_n hx hb dX1_put_19 rfl (lv_at hl 0 rfl) ?_
    refine va_get (D := (dC, dI)) (ci := 1) (v := .ref (h 4)) (C := RX1) (T := TX1) (N := 10) hx hb hts hin1 hown hK hP 0 rfl rfl 8 (by decide) (hts (.fieldLink RX1 27 "GuestChairsModel" "row" "[I") (by decide +kernel)) (fun _ h9 => h9) rfl dX1_put_20 ?_
    refine lv_iload_n hx hb dX1_put_23 rfl (lv_at hl 1 rfl) ?_
    refine lv_iload_n hx hb dX1_put_24 rfl (lv_at hl 2 rfl) ?_
    refine va_iast hx hb hK hP hD hS 4 3 rfl rfl (vp_in_nI (n := many) (by omega) (by decide)) dX1_put_25 (fun H locs hP hD hS => ?_)
    rw [nI_clamp (n := many) (by omega)] at hP hD
    have hP : va_P (dC, dI) vwCl (gmW h kc f1 f2 of (upd ro many (nI t)) (upd fa t v) th (nI g) (nI r) x1 x2) H := hP
    have hD : va_D A (gmW h kc f1 f2 of (upd ro many (nI t)) (upd fa t v) th (nI g) (nI r) x1 x2) := hD
    refine lv_iload_n hx hb dX1_put_26 rfl (lv_at hl 1 rfl) ?_
    refine lv_iconst (v := 1) hx hb dX1_put_27 (by decide) ?_
    refine lv_iadd hx hb dX1_put_28 ?_
    have hpost : (nI many + 1) = nI (mPn fa many t) := by first | (rw [nI_1]; simp [mPn, c_7]) | simp [mPn, c_7]
    have hWe : ((gmW h kc f1 f2 of (upd ro many (nI t)) (upd fa t v) th (nI g) (nI r) x1 x2) : va_W) = (gmW h kc f1 f2 of (mPr ro fa many t) (mPf fa t v) th (nI g) (nI r) x1 x2) := by simp [mPr, mPf, c_7]
    rw [hWe] at hP hD
    exact W.iret (v := (nI many + 1)) hx hb hr (fun t ht hW => ⟨⟨(nI many + 1), (), rfl, hpost, ⟨by rw [ht]; exact hP, hD⟩⟩, hS.F ht⟩) hS.2.2 dX1_put_29
  · skip
    refine lv_iload_n hx hb dX1_put_10 rfl (lv_at hl 1 rfl) ?_
    have hpost : (nI many) = nI (mPn fa many t) := by first | (rw [nI_1]; simp [mPn, c_7]) | simp [mPn, c_7]
    have hWe : ((gmW h kc f1 f2 of ro fa th (nI g) (nI r) x1 x2) : va_W) = (gmW h kc f1 f2 of (mPr ro fa many t) (mPf fa t v) th (nI g) (nI r) x1 x2) := by simp [mPr, mPf, c_7]
    rw [hWe] at hP hD
    exact W.iret (v := nI many) hx hb hr (fun t ht hW => ⟨⟨nI many, (), rfl, hpost, ⟨by rw [ht]; exact hP, hD⟩⟩, hS.F ht⟩) hS.2.2 dX1_put_11
set_option maxHeartbeats 4000000 in
set_option maxRecDepth 100000 in
theorem c_X1_spread (l : Launch) (dC : Nat → ClassId) (dI : Nat → Nat → Nat) (h : Nat → Nat) (kc : Nat → ClassId) (f1 : Nat → Int32) (f2 : Nat → Int32) (of : Nat → Int32) (ro : Nat → Int32) (fa : Nat → Int32) (th : Int32) (g : Nat) (r : Nat) (x1 : Int32) (x2 : Int32) (K : Bk) (a : Nat) (sz : Nat) (hBk : mOK K g r f1 f2 of) (hg : g ≤ 10) (hr30 : r ≤ 30) (ha : a < 20) : Met l yX1_spread wsX1_spread ({ frames := 1, cells := 0, slots := 0, locals := 23 }) (gcPM (dC, dI) [.ref (h 0), .int (nI a)] (gmW h kc f1 f2 of ro fa th (nI g) (nI r) x1 x2) (gmT kc) sz) (va_Qi (fun (rv : Int32) (u : (Nat → Int32) × (Nat → Int32)) => (match u with | (ro2, fa2) => rv = nI (fb_ct (fun v => fo K a v) 20) ∧ (∀ v, v < 20 → fa2 v = di K a v) ∧ ∀ v, v < 20 → (fo K a v = true ∧ ∃ n, n < 20 ∧ di K a v = nI n ∧ rk K n a v) ∨ (fo K a v = false ∧ di K a v = -1))) (fun u t9 => va_P (dC, dI) vwCl (match u with | (ro2, fa2) => (gmW h kc f1 f2 of ro2 fa2 th (nI g) (nI r) x1 x2)) t9.heap ∧ va_D (va_A (gmW h kc f1 f2 of ro fa th (nI g) (nI r) x1 x2) sz) (match u with | (ro2, fa2) => (gmW h kc f1 f2 of ro2 fa2 th (nI g) (nI r) x1 x2))) (va_A (gmW h kc f1 f2 of ro fa th (nI g) (nI r) x1 x2) sz)) 0 0 (va_A (gmW h kc f1 f2 of ro fa th (nI g) (nI r) x1 x2) sz) := by
  refine Met.ofW (cc := cX1_spread) (maxL := 6) (ret := (some .int)) (by decide) rfl ?_
  intro p e s m args below meth c s₁ B hml hv
  obtain ⟨rfl, hsz, hP, hK, hD0⟩ := hv
  have hx := B.exec
  have hb := B.bytes
  have hr := B.returns
  have hts := atoms_spec (ws := wsX1_spread) B.pre
  have hown : s.vm.findClass RX1 = some m.cls := findClass_of_methodNamed B.named
  have hlocks := B.notSynchronized
  subst hsz
  have hD := hD0.self (sz := s.heap.size)
  generalize hAe : va_A (gmW h kc f1 f2 of ro fa th (nI g) (nI r) x1 x2) s.heap.size = A at hD ⊢
  have hA : ∀ q : Nat, s.heap.size ≤ q → A q := fun q h => by rw [← hAe]; exact Or.inr h
  have hS : va_S A s.heap s.heap [] := va_S.rf
  have hP : va_P (dC, dI) vwCl (gmW h kc f1 f2 of ro fa th (nI g) (nI r) x1 x2) s.heap := hP
  have hin1 : ∀ w ∈ wsX10, w ∈ wsX1_spread := by decide +kernel
  have hl := lv_entry [.ref (h 0), .int (nI a)] (n := 6) (Nat.le_of_ble_eq_true rfl)
  rw [lg_entry_eq]
  generalize (lg_sl [.ref (h 0), .int (nI a)] ++ List.replicate (6 - (lg_sl [.ref (h 0), .int (nI a)]).length) Slot.unset).toArray = ls at hl ⊢
  have hl : lv_has ls 6 [(0, .ref (h 0)), (1, .int (nI a))] := hl
  have hK20 := mOK_20 hBk hg
  refine lv_iconst (v := 0) hx hb dX1_spread_0 (by decide) ?_
  refine lv_istore_n (lv' := [(2, .int 0), (0, .ref (h 0)), (1, .int (nI a))]) hx hb dX1_spread_1 rfl hl (by decide) rfl (fun ls hl => ?_)
  refine gc_loop (20) (fun (i0 : Nat) (H : Heap) (locs : List Loc) (ls : Array Slot) => ∃ (fz : Nat → Int32), (∀ v : Nat, v < i0 → fz v = -1) ∧ va_P (dC, dI) vwCl (gmW h kc f1 f2 of ro fz th (nI g) (nI r) x1 x2) H ∧ va_D A (gmW h kc f1 f2 of ro fz th (nI g) (nI r) x1 x2) ∧ va_S A s.heap H locs ∧ lv_has ls 6 [(2, .int (nI i0)), (0, .ref (h 0)), (1, .int (nI a))]) 0 (Nat.zero_le _) ⟨fa, (fun v hv => absurd hv (Nat.not_lt_zero v)), hP, hD, hS, lv_sub hl [0, 1, 2] rfl⟩ ?_
  intro i0 H locs ls hi0 hI ihi0
  obtain ⟨fz, hz, hP, hD, hS, hl⟩ := hI
  refine lv_iload_n hx hb dX1_spread_2 rfl (lv_at hl 0 rfl) ?_
  refine lv_bipush (v := 20) hx hb dX1_spread_3 (by decide) ?_
  refine lv_icmp_ge (tgt := 21) hx hb dX1_spread_5 (by decide) (fun c_5 => ?_) (fun c_5 => ?_)
  · skip
    have hEi0 : i0 = 20 := gc_ge c_5 (by omega) (by omega)
    refine lv_aload_n hx hb dX1_spread_21 rfl (lv_at hl 1 rfl) ?_
    refine lv_iconst (v := 0) hx hb dX1_spread_22 (by decide) ?_
    refine lv_iload_n hx hb dX1_spread_23 rfl (lv_at hl 2 rfl) ?_
    refine lv_iconst (v := 0) hx hb dX1_spread_24 (by decide) ?_
    have hPc : va_P (dC, dI) vwCl (gmW h kc f1 f2 of ro fz th (nI g) (nI r) x1 x2) _ := hP.sub [0, 1, 2, 3, 4, 5] rfl
    have hKc : va_K (dC, dI) vwCl (gmT kc) s := hK.sub [0, 1, 2, 3, 4] rfl
    have hDc : va_D A (gmW h kc f1 f2 of ro fz th (nI g) (nI r) x1 x2) := hD.sub [0, 1, 2, 3, 4, 5] (by decide) rfl
    have hFc := va_free (wc := (gmW h kc f1 f2 of ro fz th (nI g) (nI r) x1 x2)) hD hS hA [0, 1, 2, 3, 4, 5] rfl
    refine va_calli (va_runV (As := [.int 0, .int (nI a), .int 0]) (rest := []) ⟨hx, hb, hml, hown, hts⟩ (c_X1_put l dC dI h kc f1 f2 of ro fz th g r x1 x2 0 a 0 H.size (by first | assumption | omega) (fun _ => by omega)) (cwV 3 hts gX1_spread_X1_put rfl rfl rfl (by decide +kernel) ⟨Nat.le_of_ble_eq_true rfl, Nat.le_of_ble_eq_true rfl⟩) ⟨gcPM_blind, va_recv hK hP (ci := 1) (q0 := 0) rfl rfl, fun U hU hW => ⟨rfl, by rw [hU], by rw [hU]; exact hPc, va_K.moved hW.alike hKc, hDc.weaken (fun _ _ _ _ => trivial)⟩⟩ rfl rfl hl.1 rfl (lv_room (Nat.le_of_ble_eq_true rfl)) dX1_spread_25 ⟨Nat.zero_le _, Nat.zero_le _⟩) hS (fun q _ h => hFc q h) hFc (fun r1 u t H locs ht hvm hw hB hz1 hk1 hS => ?_)
    obtain ⟨hP1, hD1⟩ := hB
    rw [ht] at hP1
    obtain ⟨hP, hD⟩ := va_join (wr := []) (w1 := (gmW h kc f1 f2 of (mPr ro fz 0 a) (mPf fz a 0) th (nI g) (nI r) x1 x2)) hP hD [0, 1, 2, 3, 4, 5] [] rfl rfl (by decide) (by decide) hk1 hFc hP1 hD1
    have hP : va_P (dC, dI) vwCl (gmW h kc f1 f2 of (mPr ro fz 0 a) (mPf fz a 0) th (nI g) (nI r) x1 x2) H := hP.sub [0, 1, 2, 3, 4, 5] rfl
    have hD : va_D A (gmW h kc f1 f2 of (mPr ro fz 0 a) (mPf fz a 0) th (nI g) (nI r) x1 x2) := hD.sub [0, 1, 2, 3, 4, 5] (by decide) rfl
    have hw : r1 = nI (mPn fz 0 a) := hw
    subst hw
    clear hw
    clear hz1 hk1 ht hvm hP1 hD1 hFc hDc
    clear hPc hKc
    refine lv_istore_n (lv' := [(2, .int (nI (mPn fz 0 a))), (0, .ref (h 0)), (1, .int (nI a))]) hx hb dX1_spread_28 rfl hl (by decide) rfl (fun ls hl => ?_)
    refine lv_iconst (v := 0) hx hb dX1_spread_29 (by decide) ?_
    refine lv_istore_n (lv' := [(3, .int 0), (2, .int (nI (mPn fz 0 a))), (0, .ref (h 0)), (1, .int (nI a))]) hx hb dX1_spread_30 rfl hl (by decide) rfl (fun ls hl => ?_)
    refine gc_loop (20) (fun (i1 : Nat) (H : Heap) (locs : List Loc) (ls : Array Slot) => ∃ (n1 : Nat) (ro1 : Nat → Int32) (fa1 : Nat → Int32), (BO K a i1 n1 ro1 fa1) ∧ va_P (dC, dI) vwCl (gmW h kc f1 f2 of ro1 fa1 th (nI g) (nI r) x1 x2) H ∧ va_D A (gmW h kc f1 f2 of ro1 fa1 th (nI g) (nI r) x1 x2) ∧ va_S A s.heap H locs ∧ lv_has ls 6 [(3, .int (nI i1)), (2, .int (nI n1)), (0, .ref (h 0)), (1, .int (nI a))]) 0 (Nat.zero_le _) ⟨(mPn fz 0 a), mPr ro fz 0 a, mPf fz a 0, (BO_init K ha _ _ (by subst hEi0; exact hz)), hP, hD, hS, lv_sub hl [0, 1, 2, 3] rfl⟩ ?_
    intro i1 H locs ls hi1 hI ihi1
    obtain ⟨n1, ro1, fa1, hO, hP, hD, hS, hl⟩ := hI
    refine lv_iload_n hx hb dX1_spread_31 rfl (lv_at hl 0 rfl) ?_
    refine lv_iload_n hx hb dX1_spread_32 rfl (lv_at hl 1 rfl) ?_
    refine lv_icmp_ge (tgt := 155) hx hb dX1_spread_33 (by decide) (fun c_33 => ?_) (fun c_33 => ?_)
    · skip
      have hk1 := BO_le hO
      have hke : i1 = n1 := gc_ge c_33 hk1.2 (by omega)
      refine lv_iload_n hx hb dX1_spread_155 rfl (lv_at hl 1 rfl) ?_
      have hpost : (nI n1) = nI (fb_ct (fun v => fo K a v) 20) ∧ (∀ v, v < 20 → fa1 v = di K a v) ∧ ∀ v, v < 20 → (fo K a v = true ∧ ∃ n, n < 20 ∧ di K a v = nI n ∧ rk K n a v) ∨ (fo K a v = false ∧ di K a v = -1) := by subst hke; have q := BO_end hK20 hO; exact ⟨congrArg nI q.2.1, q.1, q.2.2⟩
      exact W.iret (v := nI n1) hx hb hr (fun t ht hW => ⟨⟨nI n1, (ro1, fa1), rfl, hpost, ⟨by rw [ht]; exact hP, hD⟩⟩, hS.F ht⟩) hS.2.2 dX1_spread_156
    · skip
      have hk1 := BO_le hO
      have hkl : i1 < n1 := gc_lt c_33 hk1.2 (by omega)
      obtain ⟨w, hw20, hrw, hJ⟩ := BO_J hO hkl
      refine lv_aload_n hx hb dX1_spread_36 rfl (lv_at hl 2 rfl) ?_
      refine va_get (D := (dC, dI)) (ci := 1) (v := .ref (h 4)) (C := RX1) (T := TX1) (N := 10) hx hb hts hin1 hown hK hP 0 rfl rfl 8 (by decide) (hts (.fieldLink RX1 27 "GuestChairsModel" "row" "[I") (by decide +kernel)) (fun _ h9 => h9) rfl dX1_spread_37 ?_
      refine lv_iload_n hx hb dX1_spread_40 rfl (lv_at hl 0 rfl) ?_
      refine va_iald hx hb hK hP 4 3 rfl rfl (vp_in_nI (n := i1) (by omega) (by decide)) dX1_spread_41 ?_
      rw [nI_clamp (n := i1) (by omega)]
      refine gc_topi (y := nI w) (hrw) ?_
      refine lv_istore (lv' := [(4, .int (nI w)), (3, .int (nI i1)), (2, .int (nI n1)), (0, .ref (h 0)), (1, .int (nI a))]) hx hb dX1_spread_42 hl (by decide) rfl (fun ls hl => ?_)
      refine lv_iconst (v := 0) hx hb dX1_spread_44 (by decide) ?_
      refine lv_istore (lv' := [(5, .int 0), (4, .int (nI w)), (3, .int (nI i1)), (2, .int (nI n1)), (0, .ref (h 0)), (1, .int (nI a))]) hx hb dX1_spread_45 hl (by decide) rfl (fun ls hl => ?_)
      refine gc_loop (r) (fun (j : Nat) (H : Heap) (locs : List Loc) (ls : Array Slot) => ∃ (n2 : Nat) (rj : Nat → Int32) (fj : Nat → Int32), (BJ K a i1 j w n2 rj fj) ∧ va_P (dC, dI) vwCl (gmW h kc f1 f2 of rj fj th (nI g) (nI r) x1 x2) H ∧ va_D A (gmW h kc f1 f2 of rj fj th (nI g) (nI r) x1 x2) ∧ va_S A s.heap H locs ∧ lv_has ls 6 [(5, .int (nI j)), (4, .int (nI w)), (3, .int (nI i1)), (2, .int (nI n2)), (0, .ref (h 0)), (1, .int (nI a))]) 0 (Nat.zero_le _) ⟨n1, ro1, fa1, (hJ), hP, hD, hS, lv_sub hl [0, 1, 2, 3, 4, 5] rfl⟩ ?_
      intro j H locs ls hj hI ihj
      obtain ⟨n2, rj, fj, hj, hP, hD, hS, hl⟩ := hI
      refine lv_iload hx hb dX1_spread_47 (lv_at hl 0 rfl) ?_
      refine lv_aload_n hx hb dX1_spread_49 rfl (lv_at hl 4 rfl) ?_
      refine va_get (D := (dC, dI)) (ci := 1) (v := .int (nI r)) (C := RX1) (T := TX1) (N := 10) hx hb hts hin1 hown hK hP 0 rfl rfl 2 (by decide) (hts (.fieldLink RX1 51 "GuestChairsModel" "rules" "I") (by decide +kernel)) (fun _ h9 => h9) rfl dX1_spread_50 ?_
      refine lv_icmp_ge (tgt := 149) hx hb dX1_spread_53 (by decide) (fun c_53 => ?_) (fun c_53 => ?_)
      · skip
        have hEj : j = r := gc_ge c_53 (by omega) (by omega)
        refine lv_iinc (v := nI (i1 + 1)) (lv' := [(3, .int (nI (i1 + 1))), (5, .int (nI j)), (4, .int (nI w)), (2, .int (nI n2)), (0, .ref (h 0)), (1, .int (nI a))]) hx hb dX1_spread_149 hl (k := 2) rfl (nI_1 i1) (by decide) rfl (fun ls hl => ?_)
        refine lv_goto (tgt := 31) hx hb dX1_spread_152 (by decide) ?_
        exact ihi1 H _ ls (by omega) ⟨n2, rj, fj, (BJ_O (by rw [hBk.1, ← hEj]; exact hj)), hP, hD, hS, lv_sub hl [0, 3, 4, 5] rfl⟩
      · skip
        have hLj : j < r := gc_lt c_53 (by omega) (by omega)
        refine lv_aload_n hx hb dX1_spread_56 rfl (lv_at hl 4 rfl) ?_
        refine va_get (D := (dC, dI)) (ci := 1) (v := .ref (h 3)) (C := RX1) (T := TX1) (N := 10) hx hb hts hin1 hown hK hP 0 rfl rfl 5 (by decide) (hts (.fieldLink RX1 16 "GuestChairsModel" "off" "[Z") (by decide +kernel)) (fun _ h9 => h9) rfl dX1_spread_57 ?_
        refine lv_iload hx hb dX1_spread_60 (lv_at hl 0 rfl) ?_
        refine va_zald hx hb hK hP 3 2 rfl rfl (vp_in_nI (n := j) (by omega) (by decide)) dX1_spread_62 ?_
        rw [nI_clamp (n := j) (by omega)]
        refine gc_topi (y := gB (!K.2.2.2 j)) ((hBk.2 j hLj).2.2.2.2) ?_
        refine lv_if_eq (tgt := 69) hx hb dX1_spread_63 (by decide) (fun c_63 => ?_) (fun c_63 => ?_)
        · skip
          have c_63 := gB_f c_63
          have hon : K.2.2.2 j = true := by simpa using c_63
          have hb20 := hK20 j (by rw [hBk.1]; exact hLj)
          have hx20 := xor1_lt (n := 10) hb20.2
          have hy20 := xor1_lt (n := 10) hb20.1
          refine lv_aload_n hx hb dX1_spread_69 rfl (lv_at hl 4 rfl) ?_
          refine va_get (D := (dC, dI)) (ci := 1) (v := .ref (h 1)) (C := RX1) (T := TX1) (N := 10) hx hb hts hin1 hown hK hP 0 rfl rfl 3 (by decide) (hts (.fieldLink RX1 9 "GuestChairsModel" "firsts" "[I") (by decide +kernel)) (fun _ h9 => h9) rfl dX1_spread_70 ?_
          refine lv_iload hx hb dX1_spread_73 (lv_at hl 0 rfl) ?_
          refine va_iald hx hb hK hP 1 0 rfl rfl (vp_in_nI (n := j) (by omega) (by decide)) dX1_spread_75 ?_
          rw [nI_clamp (n := j) (by omega)]
          refine gc_topi (y := nI (K.2.1 j)) ((hBk.2 j hLj).1) ?_
          refine lv_iload hx hb dX1_spread_76 (lv_at hl 1 rfl) ?_
          refine lv_icmp_ne (tgt := 103) hx hb dX1_spread_78 (by decide) (fun c_78 => ?_) (fun c_78 => ?_)
          · skip
            have hAj : ¬ K.2.1 j = w := fun q => c_78 (by rw [q])
            have hh := BJ_no hj hAj
            refine lv_aload_n hx hb dX1_spread_103 rfl (lv_at hl 4 rfl) ?_
            refine va_get (D := (dC, dI)) (ci := 1) (v := .ref (h 2)) (C := RX1) (T := TX1) (N := 10) hx hb hts hin1 hown hK hP 0 rfl rfl 4 (by decide) (hts (.fieldLink RX1 13 "GuestChairsModel" "seconds" "[I") (by decide +kernel)) (fun _ h9 => h9) rfl dX1_spread_104 ?_
            refine lv_iload hx hb dX1_spread_107 (lv_at hl 0 rfl) ?_
            refine va_iald hx hb hK hP 2 1 rfl rfl (vp_in_nI (n := j) (by omega) (by decide)) dX1_spread_109 ?_
            rw [nI_clamp (n := j) (by omega)]
            refine gc_topi (y := nI (K.2.2.1 j)) ((hBk.2 j hLj).2.1) ?_
            refine va_calli (va_runS (As := [.int (nI (K.2.2.1 j))]) (rest := []) ⟨hx, hb, hml, hown, hts⟩ (c_X1_against l (K.2.2.1 j) (by first | assumption | omega)) (va_cwS 1 hts gX1_spread_X1_against rfl rfl rfl (by decide +kernel) ⟨Nat.le_of_ble_eq_true rfl, Nat.le_of_ble_eq_true rfl⟩) ⟨fun a U g mk q => q, fun U hU hW => ⟨rfl, trivial⟩⟩ rfl rfl hl.1 rfl (lv_room (Nat.le_of_ble_eq_true rfl)) dX1_spread_110 ⟨Nat.zero_le _, Nat.zero_le _⟩) hS (fun q _ h => h.elim) (fun q h => h.elim) (fun r2 u t H locs ht hvm hw hB hz1 hk1 hS => ?_)
            have hP := gc_keep hP hk1
            have hw : r2 = nI ((K.2.2.1 j) ^^^ 1) := hw
            subst hw
            clear hw
            clear hB hz1 hk1 ht hvm
            refine lv_iload hx hb dX1_spread_113 (lv_at hl 1 rfl) ?_
            refine lv_icmp_ne (tgt := 143) hx hb dX1_spread_115 (by decide) (fun c_115 => ?_) (fun c_115 => ?_)
            · skip
              have hBj : ¬ K.2.2.1 j ^^^ 1 = w := fun q => c_115 (by rw [q])
              have hj3 := BH_no hh hBj
              refine lv_iinc (v := nI (j + 1)) (lv' := [(5, .int (nI (j + 1))), (4, .int (nI w)), (3, .int (nI i1)), (2, .int (nI n2)), (0, .ref (h 0)), (1, .int (nI a))]) hx hb dX1_spread_143 hl (k := 0) rfl (nI_1 j) (by decide) rfl (fun ls hl => ?_)
              refine lv_goto (tgt := 47) hx hb dX1_spread_146 (by decide) ?_
              exact ihj H _ ls (by omega) ⟨n2, rj, fj, (by first | exact hj3 | exact BJ_skip hj hoff), hP, hD, hS, lv_sub hl [0, 1, 2, 3, 4, 5] rfl⟩
            · skip
              have hBj : K.2.2.1 j ^^^ 1 = w := (nI_eq (by omega) (by omega)).mp c_115
              have hj3 := BH_yes hK20 hh (by rw [hBk.1]; exact hLj) hon hBj
              refine lv_aload_n hx hb dX1_spread_118 rfl (lv_at hl 4 rfl) ?_
              refine lv_iload_n hx hb dX1_spread_119 rfl (lv_at hl 3 rfl) ?_
              refine lv_aload_n hx hb dX1_spread_120 rfl (lv_at hl 4 rfl) ?_
              refine va_get (D := (dC, dI)) (ci := 1) (v := .ref (h 1)) (C := RX1) (T := TX1) (N := 10) hx hb hts hin1 hown hK hP 0 rfl rfl 3 (by decide) (hts (.fieldLink RX1 9 "GuestChairsModel" "firsts" "[I") (by decide +kernel)) (fun _ h9 => h9) rfl dX1_spread_121 ?_
              refine lv_iload hx hb dX1_spread_124 (lv_at hl 0 rfl) ?_
              refine va_iald hx hb hK hP 1 0 rfl rfl (vp_in_nI (n := j) (by omega) (by decide)) dX1_spread_126 ?_
              rw [nI_clamp (n := j) (by omega)]
              refine gc_topi (y := nI (K.2.1 j)) ((hBk.2 j hLj).1) ?_
              refine va_calli (va_runS (As := [.int (nI (K.2.1 j))]) (rest := [.int (nI n2), .ref (h 0)]) ⟨hx, hb, hml, hown, hts⟩ (c_X1_against l (K.2.1 j) (by first | assumption | omega)) (va_cwS 1 hts gX1_spread_X1_against rfl rfl rfl (by decide +kernel) ⟨Nat.le_of_ble_eq_true rfl, Nat.le_of_ble_eq_true rfl⟩) ⟨fun a U g mk q => q, fun U hU hW => ⟨rfl, trivial⟩⟩ rfl rfl hl.1 rfl (lv_room (Nat.le_of_ble_eq_true rfl)) dX1_spread_127 ⟨Nat.zero_le _, Nat.zero_le _⟩) hS (fun q _ h => h.elim) (fun q h => h.elim) (fun r3 u t H locs ht hvm hw hB hz1 hk1 hS => ?_)
              have hP := gc_keep hP hk1
              have hw : r3 = nI ((K.2.1 j) ^^^ 1) := hw
              subst hw
              clear hw
              clear hB hz1 hk1 ht hvm
              refine lv_aload_n hx hb dX1_spread_130 rfl (lv_at hl 4 rfl) ?_
              refine va_get (D := (dC, dI)) (ci := 1) (v := .ref (h 5)) (C := RX1) (T := TX1) (N := 10) hx hb hts hin1 hown hK hP 0 rfl rfl 9 (by decide) (hts (.fieldLink RX1 30 "GuestChairsModel" "far" "[I") (by decide +kernel)) (fun _ h9 => h9) rfl dX1_spread_131 ?_
              refine lv_iload hx hb dX1_spread_134 (lv_at hl 1 rfl) ?_
              refine va_iald hx hb hK hP 5 4 rfl rfl (vp_in_nI (n := w) (by omega) (by decide)) dX1_spread_136 ?_
              rw [nI_clamp (n := w) (by omega)]
              refine lv_iconst (v := 1) hx hb dX1_spread_137 (by decide) ?_
              refine lv_iadd hx hb dX1_spread_138 ?_
              have hPc : va_P (dC, dI) vwCl (gmW h kc f1 f2 of rj fj th (nI g) (nI r) x1 x2) _ := hP.sub [0, 1, 2, 3, 4, 5] rfl
              have hKc : va_K (dC, dI) vwCl (gmT kc) s := hK.sub [0, 1, 2, 3, 4] rfl
              have hDc : va_D A (gmW h kc f1 f2 of rj fj th (nI g) (nI r) x1 x2) := hD.sub [0, 1, 2, 3, 4, 5] (by decide) rfl
              have hFc := va_free (wc := (gmW h kc f1 f2 of rj fj th (nI g) (nI r) x1 x2)) hD hS hA [0, 1, 2, 3, 4, 5] rfl
              refine va_calli (va_runV (As := [.int (nI n2), .int (nI ((K.2.1 j) ^^^ 1)), .int (fj w + 1)]) (rest := []) ⟨hx, hb, hml, hown, hts⟩ (c_X1_put l dC dI h kc f1 f2 of rj fj th g r x1 x2 n2 ((K.2.1 j) ^^^ 1) (fj w + 1) H.size (by first | assumption | omega) (fun q => BH_room hh (by omega) q)) (cwV 3 hts gX1_spread_X1_put rfl rfl rfl (by decide +kernel) ⟨Nat.le_of_ble_eq_true rfl, Nat.le_of_ble_eq_true rfl⟩) ⟨gcPM_blind, va_recv hK hP (ci := 1) (q0 := 0) rfl rfl, fun U hU hW => ⟨rfl, by rw [hU], by rw [hU]; exact hPc, va_K.moved hW.alike hKc, hDc.weaken (fun _ _ _ _ => trivial)⟩⟩ rfl rfl hl.1 rfl (lv_room (Nat.le_of_ble_eq_true rfl)) dX1_spread_139 ⟨Nat.zero_le _, Nat.zero_le _⟩) hS (fun q _ h => hFc q h) hFc (fun r4 u t H locs ht hvm hw hB hz1 hk1 hS => ?_)
              obtain ⟨hP1, hD1⟩ := hB
              rw [ht] at hP1
              obtain ⟨hP, hD⟩ := va_join (wr := []) (w1 := (gmW h kc f1 f2 of (mPr rj fj n2 ((K.2.1 j) ^^^ 1)) (mPf fj ((K.2.1 j) ^^^ 1) (fj w + 1)) th (nI g) (nI r) x1 x2)) hP hD [0, 1, 2, 3, 4, 5] [] rfl rfl (by decide) (by decide) hk1 hFc hP1 hD1
              have hP : va_P (dC, dI) vwCl (gmW h kc f1 f2 of (mPr rj fj n2 ((K.2.1 j) ^^^ 1)) (mPf fj ((K.2.1 j) ^^^ 1) (fj w + 1)) th (nI g) (nI r) x1 x2) H := hP.sub [0, 1, 2, 3, 4, 5] rfl
              have hD : va_D A (gmW h kc f1 f2 of (mPr rj fj n2 ((K.2.1 j) ^^^ 1)) (mPf fj ((K.2.1 j) ^^^ 1) (fj w + 1)) th (nI g) (nI r) x1 x2) := hD.sub [0, 1, 2, 3, 4, 5] (by decide) rfl
              have hw : r4 = nI (mPn fj n2 ((K.2.1 j) ^^^ 1)) := hw
              subst hw
              clear hw
              clear hz1 hk1 ht hvm hP1 hD1 hFc hDc
              clear hPc hKc
              refine lv_istore_n (lv' := [(2, .int (nI (mPn fj n2 ((K.2.1 j) ^^^ 1)))), (5, .int (nI j)), (4, .int (nI w)), (3, .int (nI i1)), (0, .ref (h 0)), (1, .int (nI a))]) hx hb dX1_spread_142 rfl hl (by decide) rfl (fun ls hl => ?_)
              refine lv_iinc (v := nI (j + 1)) (lv' := [(5, .int (nI (j + 1))), (2, .int (nI (mPn fj n2 ((K.2.1 j) ^^^ 1)))), (4, .int (nI w)), (3, .int (nI i1)), (0, .ref (h 0)), (1, .int (nI a))]) hx hb dX1_spread_143 hl (k := 1) rfl (nI_1 j) (by decide) rfl (fun ls hl => ?_)
              refine lv_goto (tgt := 47) hx hb dX1_spread_146 (by decide) ?_
              exact ihj H _ ls (by omega) ⟨(mPn fj n2 ((K.2.1 j) ^^^ 1)), (mPr rj fj n2 ((K.2.1 j) ^^^ 1)), (mPf fj ((K.2.1 j) ^^^ 1) (fj w + 1)), (by first | exact hj3 | exact BJ_skip hj hoff), hP, hD, hS, lv_sub hl [0, 2, 3, 1, 4, 5] rfl⟩
          · skip
            have hAj : K.2.1 j = w := (nI_eq (by omega) (by omega)).mp c_78
            have hh := BJ_yes hK20 hj (by rw [hBk.1]; exact hLj) hon hAj
            refine lv_aload_n hx hb dX1_spread_81 rfl (lv_at hl 4 rfl) ?_
            refine lv_iload_n hx hb dX1_spread_82 rfl (lv_at hl 3 rfl) ?_
            refine lv_aload_n hx hb dX1_spread_83 rfl (lv_at hl 4 rfl) ?_
            refine va_get (D := (dC, dI)) (ci := 1) (v := .ref (h 2)) (C := RX1) (T := TX1) (N := 10) hx hb hts hin1 hown hK hP 0 rfl rfl 4 (by decide) (hts (.fieldLink RX1 13 "GuestChairsModel" "seconds" "[I") (by decide +kernel)) (fun _ h9 => h9) rfl dX1_spread_84 ?_
            refine lv_iload hx hb dX1_spread_87 (lv_at hl 0 rfl) ?_
            refine va_iald hx hb hK hP 2 1 rfl rfl (vp_in_nI (n := j) (by omega) (by decide)) dX1_spread_89 ?_
            rw [nI_clamp (n := j) (by omega)]
            refine gc_topi (y := nI (K.2.2.1 j)) ((hBk.2 j hLj).2.1) ?_
            refine lv_aload_n hx hb dX1_spread_90 rfl (lv_at hl 4 rfl) ?_
            refine va_get (D := (dC, dI)) (ci := 1) (v := .ref (h 5)) (C := RX1) (T := TX1) (N := 10) hx hb hts hin1 hown hK hP 0 rfl rfl 9 (by decide) (hts (.fieldLink RX1 30 "GuestChairsModel" "far" "[I") (by decide +kernel)) (fun _ h9 => h9) rfl dX1_spread_91 ?_
            refine lv_iload hx hb dX1_spread_94 (lv_at hl 1 rfl) ?_
            refine va_iald hx hb hK hP 5 4 rfl rfl (vp_in_nI (n := w) (by omega) (by decide)) dX1_spread_96 ?_
            rw [nI_clamp (n := w) (by omega)]
            refine lv_iconst (v := 1) hx hb dX1_spread_97 (by decide) ?_
            refine lv_iadd hx hb dX1_spread_98 ?_
            have hPc : va_P (dC, dI) vwCl (gmW h kc f1 f2 of rj fj th (nI g) (nI r) x1 x2) _ := hP.sub [0, 1, 2, 3, 4, 5] rfl
            have hKc : va_K (dC, dI) vwCl (gmT kc) s := hK.sub [0, 1, 2, 3, 4] rfl
            have hDc : va_D A (gmW h kc f1 f2 of rj fj th (nI g) (nI r) x1 x2) := hD.sub [0, 1, 2, 3, 4, 5] (by decide) rfl
            have hFc := va_free (wc := (gmW h kc f1 f2 of rj fj th (nI g) (nI r) x1 x2)) hD hS hA [0, 1, 2, 3, 4, 5] rfl
            refine va_calli (va_runV (As := [.int (nI n2), .int (nI (K.2.2.1 j)), .int (fj w + 1)]) (rest := []) ⟨hx, hb, hml, hown, hts⟩ (c_X1_put l dC dI h kc f1 f2 of rj fj th g r x1 x2 n2 (K.2.2.1 j) (fj w + 1) H.size (by first | assumption | omega) (fun q => BJ_room hj (by omega) q)) (cwV 3 hts gX1_spread_X1_put rfl rfl rfl (by decide +kernel) ⟨Nat.le_of_ble_eq_true rfl, Nat.le_of_ble_eq_true rfl⟩) ⟨gcPM_blind, va_recv hK hP (ci := 1) (q0 := 0) rfl rfl, fun U hU hW => ⟨rfl, by rw [hU], by rw [hU]; exact hPc, va_K.moved hW.alike hKc, hDc.weaken (fun _ _ _ _ => trivial)⟩⟩ rfl rfl hl.1 rfl (lv_room (Nat.le_of_ble_eq_true rfl)) dX1_spread_99 ⟨Nat.zero_le _, Nat.zero_le _⟩) hS (fun q _ h => hFc q h) hFc (fun r5 u t H locs ht hvm hw hB hz1 hk1 hS => ?_)
            obtain ⟨hP1, hD1⟩ := hB
            rw [ht] at hP1
            obtain ⟨hP, hD⟩ := va_join (wr := []) (w1 := (gmW h kc f1 f2 of (mPr rj fj n2 (K.2.2.1 j)) (mPf fj (K.2.2.1 j) (fj w + 1)) th (nI g) (nI r) x1 x2)) hP hD [0, 1, 2, 3, 4, 5] [] rfl rfl (by decide) (by decide) hk1 hFc hP1 hD1
            have hP : va_P (dC, dI) vwCl (gmW h kc f1 f2 of (mPr rj fj n2 (K.2.2.1 j)) (mPf fj (K.2.2.1 j) (fj w + 1)) th (nI g) (nI r) x1 x2) H := hP.sub [0, 1, 2, 3, 4, 5] rfl
            have hD : va_D A (gmW h kc f1 f2 of (mPr rj fj n2 (K.2.2.1 j)) (mPf fj (K.2.2.1 j) (fj w + 1)) th (nI g) (nI r) x1 x2) := hD.sub [0, 1, 2, 3, 4, 5] (by decide) rfl
            have hw : r5 = nI (mPn fj n2 (K.2.2.1 j)) := hw
            subst hw
            clear hw
            clear hz1 hk1 ht hvm hP1 hD1 hFc hDc
            clear hPc hKc
            refine lv_istore_n (lv' := [(2, .int (nI (mPn fj n2 (K.2.2.1 j)))), (5, .int (nI j)), (4, .int (nI w)), (3, .int (nI i1)), (0, .ref (h 0)), (1, .int (nI a))]) hx hb dX1_spread_102 rfl hl (by decide) rfl (fun ls hl => ?_)
            refine lv_aload_n hx hb dX1_spread_103 rfl (lv_at hl 4 rfl) ?_
            refine va_get (D := (dC, dI)) (ci := 1) (v := .ref (h 2)) (C := RX1) (T := TX1) (N := 10) hx hb hts hin1 hown hK hP 0 rfl rfl 4 (by decide) (hts (.fieldLink RX1 13 "GuestChairsModel" "seconds" "[I") (by decide +kernel)) (fun _ h9 => h9) rfl dX1_spread_104 ?_
            refine lv_iload hx hb dX1_spread_107 (lv_at hl 1 rfl) ?_
            refine va_iald hx hb hK hP 2 1 rfl rfl (vp_in_nI (n := j) (by omega) (by decide)) dX1_spread_109 ?_
            rw [nI_clamp (n := j) (by omega)]
            refine gc_topi (y := nI (K.2.2.1 j)) ((hBk.2 j hLj).2.1) ?_
            refine va_calli (va_runS (As := [.int (nI (K.2.2.1 j))]) (rest := []) ⟨hx, hb, hml, hown, hts⟩ (c_X1_against l (K.2.2.1 j) (by first | assumption | omega)) (va_cwS 1 hts gX1_spread_X1_against rfl rfl rfl (by decide +kernel) ⟨Nat.le_of_ble_eq_true rfl, Nat.le_of_ble_eq_true rfl⟩) ⟨fun a U g mk q => q, fun U hU hW => ⟨rfl, trivial⟩⟩ rfl rfl hl.1 rfl (lv_room (Nat.le_of_ble_eq_true rfl)) dX1_spread_110 ⟨Nat.zero_le _, Nat.zero_le _⟩) hS (fun q _ h => h.elim) (fun q h => h.elim) (fun r6 u t H locs ht hvm hw hB hz1 hk1 hS => ?_)
            have hP := gc_keep hP hk1
            have hw : r6 = nI ((K.2.2.1 j) ^^^ 1) := hw
            subst hw
            clear hw
            clear hB hz1 hk1 ht hvm
            refine lv_iload hx hb dX1_spread_113 (lv_at hl 2 rfl) ?_
            refine lv_icmp_ne (tgt := 143) hx hb dX1_spread_115 (by decide) (fun c_115 => ?_) (fun c_115 => ?_)
            · skip
              have hBj : ¬ K.2.2.1 j ^^^ 1 = w := fun q => c_115 (by rw [q])
              have hj3 := BH_no hh hBj
              refine lv_iinc (v := nI (j + 1)) (lv' := [(5, .int (nI (j + 1))), (2, .int (nI (mPn fj n2 (K.2.2.1 j)))), (4, .int (nI w)), (3, .int (nI i1)), (0, .ref (h 0)), (1, .int (nI a))]) hx hb dX1_spread_143 hl (k := 1) rfl (nI_1 j) (by decide) rfl (fun ls hl => ?_)
              refine lv_goto (tgt := 47) hx hb dX1_spread_146 (by decide) ?_
              exact ihj H _ ls (by omega) ⟨(mPn fj n2 (K.2.2.1 j)), (mPr rj fj n2 (K.2.2.1 j)), (mPf fj (K.2.2.1 j) (fj w + 1)), (by first | exact hj3 | exact BJ_skip hj hoff), hP, hD, hS, lv_sub hl [0, 2, 3, 1, 4, 5] rfl⟩
            · skip
              have hBj : K.2.2.1 j ^^^ 1 = w := (nI_eq (by omega) (by omega)).mp c_115
              have hj3 := BH_yes hK20 hh (by rw [hBk.1]; exact hLj) hon hBj
              refine lv_aload_n hx hb dX1_spread_118 rfl (lv_at hl 4 rfl) ?_
              refine lv_iload_n hx hb dX1_spread_119 rfl (lv_at hl 0 rfl) ?_
              refine lv_aload_n hx hb dX1_spread_120 rfl (lv_at hl 4 rfl) ?_
              refine va_get (D := (dC, dI)) (ci := 1) (v := .ref (h 1)) (C := RX1) (T := TX1) (N := 10) hx hb hts hin1 hown hK hP 0 rfl rfl 3 (by decide) (hts (.fieldLink RX1 9 "GuestChairsModel" "firsts" "[I") (by decide +kernel)) (fun _ h9 => h9) rfl dX1_spread_121 ?_
              refine lv_iload hx hb dX1_spread_124 (lv_at hl 1 rfl) ?_
              refine va_iald hx hb hK hP 1 0 rfl rfl (vp_in_nI (n := j) (by omega) (by decide)) dX1_spread_126 ?_
              rw [nI_clamp (n := j) (by omega)]
              refine gc_topi (y := nI (K.2.1 j)) ((hBk.2 j hLj).1) ?_
              refine va_calli (va_runS (As := [.int (nI (K.2.1 j))]) (rest := [.int (nI (mPn fj n2 (K.2.2.1 j))), .ref (h 0)]) ⟨hx, hb, hml, hown, hts⟩ (c_X1_against l (K.2.1 j) (by first | assumption | omega)) (va_cwS 1 hts gX1_spread_X1_against rfl rfl rfl (by decide +kernel) ⟨Nat.le_of_ble_eq_true rfl, Nat.le_of_ble_eq_true rfl⟩) ⟨fun a U g mk q => q, fun U hU hW => ⟨rfl, trivial⟩⟩ rfl rfl hl.1 rfl (lv_room (Nat.le_of_ble_eq_true rfl)) dX1_spread_127 ⟨Nat.zero_le _, Nat.zero_le _⟩) hS (fun q _ h => h.elim) (fun q h => h.elim) (fun r7 u t H locs ht hvm hw hB hz1 hk1 hS => ?_)
              have hP := gc_keep hP hk1
              have hw : r7 = nI ((K.2.1 j) ^^^ 1) := hw
              subst hw
              clear hw
              clear hB hz1 hk1 ht hvm
              refine lv_aload_n hx hb dX1_spread_130 rfl (lv_at hl 4 rfl) ?_
              refine va_get (D := (dC, dI)) (ci := 1) (v := .ref (h 5)) (C := RX1) (T := TX1) (N := 10) hx hb hts hin1 hown hK hP 0 rfl rfl 9 (by decide) (hts (.fieldLink RX1 30 "GuestChairsModel" "far" "[I") (by decide +kernel)) (fun _ h9 => h9) rfl dX1_spread_131 ?_
              refine lv_iload hx hb dX1_spread_134 (lv_at hl 2 rfl) ?_
              refine va_iald hx hb hK hP 5 4 rfl rfl (vp_in_nI (n := w) (by omega) (by decide)) dX1_spread_136 ?_
              rw [nI_clamp (n := w) (by omega)]
              refine lv_iconst (v := 1) hx hb dX1_spread_137 (by decide) ?_
              refine lv_iadd hx hb dX1_spread_138 ?_
              have hPc : va_P (dC, dI) vwCl (gmW h kc f1 f2 of (mPr rj fj n2 (K.2.2.1 j)) (mPf fj (K.2.2.1 j) (fj w + 1)) th (nI g) (nI r) x1 x2) _ := hP.sub [0, 1, 2, 3, 4, 5] rfl
              have hKc : va_K (dC, dI) vwCl (gmT kc) s := hK.sub [0, 1, 2, 3, 4] rfl
              have hDc : va_D A (gmW h kc f1 f2 of (mPr rj fj n2 (K.2.2.1 j)) (mPf fj (K.2.2.1 j) (fj w + 1)) th (nI g) (nI r) x1 x2) := hD.sub [0, 1, 2, 3, 4, 5] (by decide) rfl
              have hFc := va_free (wc := (gmW h kc f1 f2 of (mPr rj fj n2 (K.2.2.1 j)) (mPf fj (K.2.2.1 j) (fj w + 1)) th (nI g) (nI r) x1 x2)) hD hS hA [0, 1, 2, 3, 4, 5] rfl
              refine va_calli (va_runV (As := [.int (nI (mPn fj n2 (K.2.2.1 j))), .int (nI ((K.2.1 j) ^^^ 1)), .int ((mPf fj (K.2.2.1 j) (fj w + 1)) w + 1)]) (rest := []) ⟨hx, hb, hml, hown, hts⟩ (c_X1_put l dC dI h kc f1 f2 of (mPr rj fj n2 (K.2.2.1 j)) (mPf fj (K.2.2.1 j) (fj w + 1)) th g r x1 x2 (mPn fj n2 (K.2.2.1 j)) ((K.2.1 j) ^^^ 1) ((mPf fj (K.2.2.1 j) (fj w + 1)) w + 1) H.size (by first | assumption | omega) (fun q => BH_room hh (by omega) q)) (cwV 3 hts gX1_spread_X1_put rfl rfl rfl (by decide +kernel) ⟨Nat.le_of_ble_eq_true rfl, Nat.le_of_ble_eq_true rfl⟩) ⟨gcPM_blind, va_recv hK hP (ci := 1) (q0 := 0) rfl rfl, fun U hU hW => ⟨rfl, by rw [hU], by rw [hU]; exact hPc, va_K.moved hW.alike hKc, hDc.weaken (fun _ _ _ _ => trivial)⟩⟩ rfl rfl hl.1 rfl (lv_room (Nat.le_of_ble_eq_true rfl)) dX1_spread_139 ⟨Nat.zero_le _, Nat.zero_le _⟩) hS (fun q _ h => hFc q h) hFc (fun r8 u t H locs ht hvm hw hB hz1 hk1 hS => ?_)
              obtain ⟨hP1, hD1⟩ := hB
              rw [ht] at hP1
              obtain ⟨hP, hD⟩ := va_join (wr := []) (w1 := (gmW h kc f1 f2 of (mPr (mPr rj fj n2 (K.2.2.1 j)) (mPf fj (K.2.2.1 j) (fj w + 1)) (mPn fj n2 (K.2.2.1 j)) ((K.2.1 j) ^^^ 1)) (mPf (mPf fj (K.2.2.1 j) (fj w + 1)) ((K.2.1 j) ^^^ 1) ((mPf fj (K.2.2.1 j) (fj w + 1)) w + 1)) th (nI g) (nI r) x1 x2)) hP hD [0, 1, 2, 3, 4, 5] [] rfl rfl (by decide) (by decide) hk1 hFc hP1 hD1
              have hP : va_P (dC, dI) vwCl (gmW h kc f1 f2 of (mPr (mPr rj fj n2 (K.2.2.1 j)) (mPf fj (K.2.2.1 j) (fj w + 1)) (mPn fj n2 (K.2.2.1 j)) ((K.2.1 j) ^^^ 1)) (mPf (mPf fj (K.2.2.1 j) (fj w + 1)) ((K.2.1 j) ^^^ 1) ((mPf fj (K.2.2.1 j) (fj w + 1)) w + 1)) th (nI g) (nI r) x1 x2) H := hP.sub [0, 1, 2, 3, 4, 5] rfl
              have hD : va_D A (gmW h kc f1 f2 of (mPr (mPr rj fj n2 (K.2.2.1 j)) (mPf fj (K.2.2.1 j) (fj w + 1)) (mPn fj n2 (K.2.2.1 j)) ((K.2.1 j) ^^^ 1)) (mPf (mPf fj (K.2.2.1 j) (fj w + 1)) ((K.2.1 j) ^^^ 1) ((mPf fj (K.2.2.1 j) (fj w + 1)) w + 1)) th (nI g) (nI r) x1 x2) := hD.sub [0, 1, 2, 3, 4, 5] (by decide) rfl
              have hw : r8 = nI (mPn (mPf fj (K.2.2.1 j) (fj w + 1)) (mPn fj n2 (K.2.2.1 j)) ((K.2.1 j) ^^^ 1)) := hw
              subst hw
              clear hw
              clear hz1 hk1 ht hvm hP1 hD1 hFc hDc
              clear hPc hKc
              refine lv_istore_n (lv' := [(2, .int (nI (mPn (mPf fj (K.2.2.1 j) (fj w + 1)) (mPn fj n2 (K.2.2.1 j)) ((K.2.1 j) ^^^ 1)))), (5, .int (nI j)), (4, .int (nI w)), (3, .int (nI i1)), (0, .ref (h 0)), (1, .int (nI a))]) hx hb dX1_spread_142 rfl hl (by decide) rfl (fun ls hl => ?_)
              refine lv_iinc (v := nI (j + 1)) (lv' := [(5, .int (nI (j + 1))), (2, .int (nI (mPn (mPf fj (K.2.2.1 j) (fj w + 1)) (mPn fj n2 (K.2.2.1 j)) ((K.2.1 j) ^^^ 1)))), (4, .int (nI w)), (3, .int (nI i1)), (0, .ref (h 0)), (1, .int (nI a))]) hx hb dX1_spread_143 hl (k := 1) rfl (nI_1 j) (by decide) rfl (fun ls hl => ?_)
              refine lv_goto (tgt := 47) hx hb dX1_spread_146 (by decide) ?_
              exact ihj H _ ls (by omega) ⟨(mPn (mPf fj (K.2.2.1 j) (fj w + 1)) (mPn fj n2 (K.2.2.1 j)) ((K.2.1 j) ^^^ 1)), (mPr (mPr rj fj n2 (K.2.2.1 j)) (mPf fj (K.2.2.1 j) (fj w + 1)) (mPn fj n2 (K.2.2.1 j)) ((K.2.1 j) ^^^ 1)), (mPf (mPf fj (K.2.2.1 j) (fj w + 1)) ((K.2.1 j) ^^^ 1) ((mPf fj (K.2.2.1 j) (fj w + 1)) w + 1)), (by first | exact hj3 | exact BJ_skip hj hoff), hP, hD, hS, lv_sub hl [0, 2, 3, 1, 4, 5] rfl⟩
        · skip
          have c_63 := gB_t c_63
          have hoff : K.2.2.2 j = false := by simpa using c_63
          refine lv_goto (tgt := 143) hx hb dX1_spread_66 (by decide) ?_
          refine lv_iinc (v := nI (j + 1)) (lv' := [(5, .int (nI (j + 1))), (4, .int (nI w)), (3, .int (nI i1)), (2, .int (nI n2)), (0, .ref (h 0)), (1, .int (nI a))]) hx hb dX1_spread_143 hl (k := 0) rfl (nI_1 j) (by decide) rfl (fun ls hl => ?_)
          refine lv_goto (tgt := 47) hx hb dX1_spread_146 (by decide) ?_
          exact ihj H _ ls (by omega) ⟨n2, rj, fj, (by first | exact hj3 | exact BJ_skip hj hoff), hP, hD, hS, lv_sub hl [0, 1, 2, 3, 4, 5] rfl⟩
  · skip
    have hLi0 : i0 < 20 := gc_lt c_5 (by omega) (by omega)
    refine lv_aload_n hx hb dX1_spread_8 rfl (lv_at hl 1 rfl) ?_
    refine va_get (D := (dC, dI)) (ci := 1) (v := .ref (h 5)) (C := RX1) (T := TX1) (N := 10) hx hb hts hin1 hown hK hP 0 rfl rfl 9 (by decide) (hts (.fieldLink RX1 30 "GuestChairsModel" "far" "[I") (by decide +kernel)) (fun _ h9 => h9) rfl dX1_spread_9 ?_
    refine lv_iload_n hx hb dX1_spread_12 rfl (lv_at hl 0 rfl) ?_
    refine lv_iconst (v := -1) hx hb dX1_spread_13 (by decide) ?_
    refine va_iast hx hb hK hP hD hS 5 4 rfl rfl (vp_in_nI (n := i0) (by omega) (by decide)) dX1_spread_14 (fun H locs hP hD hS => ?_)
    rw [nI_clamp (n := i0) (by omega)] at hP hD
    have hP : va_P (dC, dI) vwCl (gmW h kc f1 f2 of ro (upd fz i0 (-1)) th (nI g) (nI r) x1 x2) H := hP
    have hD : va_D A (gmW h kc f1 f2 of ro (upd fz i0 (-1)) th (nI g) (nI r) x1 x2) := hD
    refine lv_iinc (v := nI (i0 + 1)) (lv' := [(2, .int (nI (i0 + 1))), (0, .ref (h 0)), (1, .int (nI a))]) hx hb dX1_spread_15 hl (k := 0) rfl (nI_1 i0) (by decide) rfl (fun ls hl => ?_)
    refine lv_goto (tgt := 2) hx hb dX1_spread_18 (by decide) ?_
    exact ihi0 H _ ls (by omega) ⟨(upd fz i0 (-1)), (fun v hv => by by_cases q : v = i0 <;> simp [upd, q]; exact hz v (by omega)), hP, hD, hS, lv_sub hl [0, 1, 2] rfl⟩
set_option maxHeartbeats 4000000 in
set_option maxRecDepth 100000 in
theorem c_X1_leads (l : Launch) (dC : Nat → ClassId) (dI : Nat → Nat → Nat) (h : Nat → Nat) (kc : Nat → ClassId) (f1 : Nat → Int32) (f2 : Nat → Int32) (of : Nat → Int32) (ro : Nat → Int32) (fa : Nat → Int32) (th : Int32) (g : Nat) (r : Nat) (x1 : Int32) (x2 : Int32) (K : Bk) (a : Nat) (b : Nat) (sz : Nat) (hBk : mOK K g r f1 f2 of) (hg : g ≤ 10) (hr30 : r ≤ 30) (ha : a < 20) (hb2 : b < 20) : Met l yX1_leads wsX1_leads ({ frames := 2, cells := 0, slots := 0, locals := 48 }) (gcPM (dC, dI) [.ref (h 0), .int (nI a), .int (nI b)] (gmW h kc f1 f2 of ro fa th (nI g) (nI r) x1 x2) (gmT kc) sz) (va_Qi (fun (rv : Int32) (u : (Nat → Int32) × (Nat → Int32)) => (match u with | (ro2, fa2) => rv = gB (fo K a b))) (fun u t9 => va_P (dC, dI) vwCl (match u with | (ro2, fa2) => (gmW h kc f1 f2 of ro2 fa2 th (nI g) (nI r) x1 x2)) t9.heap ∧ va_D (va_A (gmW h kc f1 f2 of ro fa th (nI g) (nI r) x1 x2) sz) (match u with | (ro2, fa2) => (gmW h kc f1 f2 of ro2 fa2 th (nI g) (nI r) x1 x2))) (va_A (gmW h kc f1 f2 of ro fa th (nI g) (nI r) x1 x2) sz)) 0 0 (va_A (gmW h kc f1 f2 of ro fa th (nI g) (nI r) x1 x2) sz) := by
  refine Met.ofW (cc := cX1_leads) (maxL := 3) (ret := (some .boolean)) (by decide) rfl ?_
  intro p e s m args below meth c s₁ B hml hv
  obtain ⟨rfl, hsz, hP, hK, hD0⟩ := hv
  have hx := B.exec
  have hb := B.bytes
  have hr := B.returns
  have hts := atoms_spec (ws := wsX1_leads) B.pre
  have hown : s.vm.findClass RX1 = some m.cls := findClass_of_methodNamed B.named
  have hlocks := B.notSynchronized
  subst hsz
  have hD := hD0.self (sz := s.heap.size)
  generalize hAe : va_A (gmW h kc f1 f2 of ro fa th (nI g) (nI r) x1 x2) s.heap.size = A at hD ⊢
  have hA : ∀ q : Nat, s.heap.size ≤ q → A q := fun q h => by rw [← hAe]; exact Or.inr h
  have hS : va_S A s.heap s.heap [] := va_S.rf
  have hP : va_P (dC, dI) vwCl (gmW h kc f1 f2 of ro fa th (nI g) (nI r) x1 x2) s.heap := hP
  have hin1 : ∀ w ∈ wsX10, w ∈ wsX1_leads := by decide +kernel
  have hl := lv_entry [.ref (h 0), .int (nI a), .int (nI b)] (n := 3) (Nat.le_of_ble_eq_true rfl)
  rw [lg_entry_eq]
  generalize (lg_sl [.ref (h 0), .int (nI a), .int (nI b)] ++ List.replicate (3 - (lg_sl [.ref (h 0), .int (nI a), .int (nI b)]).length) Slot.unset).toArray = ls at hl ⊢
  have hl : lv_has ls 3 [(0, .ref (h 0)), (1, .int (nI a)), (2, .int (nI b))] := hl
  refine lv_aload_n hx hb dX1_leads_0 rfl (lv_at hl 0 rfl) ?_
  refine lv_iload_n hx hb dX1_leads_1 rfl (lv_at hl 1 rfl) ?_
  have hPc : va_P (dC, dI) vwCl (gmW h kc f1 f2 of ro fa th (nI g) (nI r) x1 x2) _ := hP.sub [0, 1, 2, 3, 4, 5] rfl
  have hKc : va_K (dC, dI) vwCl (gmT kc) s := hK.sub [0, 1, 2, 3, 4] rfl
  have hDc : va_D A (gmW h kc f1 f2 of ro fa th (nI g) (nI r) x1 x2) := hD.sub [0, 1, 2, 3, 4, 5] (by decide) rfl
  have hFc := va_free (wc := (gmW h kc f1 f2 of ro fa th (nI g) (nI r) x1 x2)) hD hS hA [0, 1, 2, 3, 4, 5] rfl
  refine va_calli (va_runV (As := [.int (nI a)]) (rest := []) ⟨hx, hb, hml, hown, hts⟩ (c_X1_spread l dC dI h kc f1 f2 of ro fa th g r x1 x2 K a s.heap.size (by first | assumption | omega) (by first | assumption | omega) (by first | assumption | omega) (by first | assumption | omega)) (cwV 1 hts gX1_leads_X1_spread rfl rfl rfl (by decide +kernel) ⟨Nat.le_of_ble_eq_true rfl, Nat.le_of_ble_eq_true rfl⟩) ⟨gcPM_blind, va_recv hK hP (ci := 1) (q0 := 0) rfl rfl, fun U hU hW => ⟨rfl, by rw [hU], by rw [hU]; exact hPc, va_K.moved hW.alike hKc, hDc.weaken (fun _ _ _ _ => trivial)⟩⟩ rfl rfl hl.1 rfl (lv_room (Nat.le_of_ble_eq_true rfl)) dX1_leads_2 ⟨Nat.zero_le _, Nat.zero_le _⟩) hS (fun q _ h => hFc q h) hFc (fun r1 u t H locs ht hvm hw hB hz1 hk1 hS => ?_)
  obtain ⟨ro22, fa23⟩ := u
  obtain ⟨hP1, hD1⟩ := hB
  rw [ht] at hP1
  obtain ⟨hP, hD⟩ := va_join (wr := []) (w1 := (gmW h kc f1 f2 of ro22 fa23 th (nI g) (nI r) x1 x2)) hP hD [0, 1, 2, 3, 4, 5] [] rfl rfl (by decide) (by decide) hk1 hFc hP1 hD1
  have hP : va_P (dC, dI) vwCl (gmW h kc f1 f2 of ro22 fa23 th (nI g) (nI r) x1 x2) H := hP.sub [0, 1, 2, 3, 4, 5] rfl
  have hD : va_D A (gmW h kc f1 f2 of ro22 fa23 th (nI g) (nI r) x1 x2) := hD.sub [0, 1, 2, 3, 4, 5] (by decide) rfl
  have hw_2 : r1 = nI (fb_ct (fun v => fo K a v) 20) ∧ (∀ v, v < 20 → fa23 v = di K a v) ∧ ∀ v, v < 20 → (fo K a v = true ∧ ∃ n, n < 20 ∧ di K a v = nI n ∧ rk K n a v) ∨ (fo K a v = false ∧ di K a v = -1) := hw
  clear hz1 hk1 ht hvm hP1 hD1 hFc hDc
  clear hPc hKc
  refine lv_pop hx hb dX1_leads_5 rfl ?_
  refine lv_aload_n hx hb dX1_leads_6 rfl (lv_at hl 0 rfl) ?_
  refine va_get (D := (dC, dI)) (ci := 1) (v := .ref (h 5)) (C := RX1) (T := TX1) (N := 10) hx hb hts hin1 hown hK hP 0 rfl rfl 9 (by decide) (hts (.fieldLink RX1 30 "GuestChairsModel" "far" "[I") (by decide +kernel)) (fun _ h9 => h9) rfl dX1_leads_7 ?_
  refine lv_iload_n hx hb dX1_leads_10 rfl (lv_at hl 2 rfl) ?_
  refine va_iald hx hb hK hP 5 4 rfl rfl (vp_in_nI (n := b) (by omega) (by decide)) dX1_leads_11 ?_
  rw [nI_clamp (n := b) (by omega)]
  refine lv_iconst (v := -1) hx hb dX1_leads_12 (by decide) ?_
  refine lv_icmp_eq (tgt := 20) hx hb dX1_leads_13 (by decide) (fun c_13 => ?_) (fun c_13 => ?_)
  · skip
    have hfo : fo K a b = false := by (have q := hw_2.2.2 b hb2); rw [← hw_2.2.1 b hb2, c_13] at q; rcases q with ⟨-, n, hn, q, -⟩ | ⟨q, -⟩; exact absurd q.symm (nI_ne1 (by omega)); exact q
    refine lv_iconst (v := 0) hx hb dX1_leads_20 (by decide) ?_
    have hpost : (0 : Int32) = gB (fo K a b) := by rw [hfo]; rfl
    exact W.zret (ty := .boolean) (v := 0) hx hb hr (by first | rfl | decide | exact gB_nar _) (fun t ht hW => ⟨⟨0, (ro22, fa23), rfl, hpost, ⟨by rw [ht]; exact hP, hD⟩⟩, hS.F ht⟩) hS.2.2 dX1_leads_21
  · skip
    have hfo : fo K a b = true := by (have q := hw_2.2.2 b hb2); rw [← hw_2.2.1 b hb2] at q; rcases q with ⟨q, -⟩ | ⟨-, q⟩; exact q; exact absurd q c_13
    refine lv_iconst (v := 1) hx hb dX1_leads_16 (by decide) ?_
    refine lv_goto (tgt := 21) hx hb dX1_leads_17 (by decide) ?_
    have hpost : (1 : Int32) = gB (fo K a b) := by rw [hfo]; rfl
    exact W.zret (ty := .boolean) (v := 1) hx hb hr (by first | rfl | decide | exact gB_nar _) (fun t ht hW => ⟨⟨1, (ro22, fa23), rfl, hpost, ⟨by rw [ht]; exact hP, hD⟩⟩, hS.F ht⟩) hS.2.2 dX1_leads_21
