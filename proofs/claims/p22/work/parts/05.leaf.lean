/-! THE BOOK'S SMALL METHODS: what each answers, in words of the machine's ints. -/
def gHas (x b : Int32) : Bool := decide (¬ ((x >>> (b &&& 31)) &&& 1) = 0)
def gAt (n : Nat) (f : Nat → Int32) (i : Int32) : Int32 := if i < 0 then 0 else if nI n ≤ i then 0 else f i.toNatClampNeg
def gPut (n : Nat) (f : Nat → Int32) (i v : Int32) : Nat → Int32 := if i < 0 then f else if nI n ≤ i then f else upd f i.toNatClampNeg v
def gUs (x k : Int32) : Int32 := (x.toUInt32 >>> (k.toUInt32 &&& Int32.toUInt32 31)).toInt32
def gBC1 (x : Int32) : Int32 := x - (gUs x 1 &&& 1431655765)
def gBC2 (x : Int32) : Int32 := (x &&& 858993459) + (gUs x 2 &&& 858993459)
def gBC3 (x : Int32) : Int32 := (x + gUs x 4) &&& 252645135
def gBC4 (x : Int32) : Int32 := x + gUs x 8
def gBC5 (x : Int32) : Int32 := x + gUs x 16
def gBC (x : Int32) : Int32 := gBC5 (gBC4 (gBC3 (gBC2 (gBC1 x)))) &&& 63
def gHolds (w g : Int32) : Bool := if (w &&& 1) = 0 then gHas g (w >>> (1 &&& 31)) else !gHas g (w >>> (1 &&& 31))
def gVain (n : Nat) (f : Nat → Int32) (w : Int32) : Bool := gHas (gAt n f w) (w ^^^ 1)
def gTorn (n : Nat) (f : Nat → Int32) (g : Int32) : Bool := gVain n f (2 * g) && gVain n f ((2 * g) + 1)
def gLink (n : Nat) (f : Nat → Int32) (a b : Int32) : Nat → Int32 := gPut n f a (gAt n f a ||| ((1 : Int32) <<< (b &&& 31)))
/-- one row of Warshall's closing: the first w wishes take what the middle has -/
def gClB (f : Nat → Int32) (m : Nat) : Nat → (Nat → Int32)
  | 0 => f
  | w + 1 => if gHas (gClB f m w w) (nI m) = true then upd (gClB f m w) w (gClB f m w w ||| gClB f m w m) else gClB f m w
def gCl (f : Nat → Int32) : Nat → (Nat → Int32)
  | 0 => f
  | m + 1 => gClB (gCl f m) m 20
set_option maxHeartbeats 4000000 in
set_option maxRecDepth 100000 in
theorem c_X0_has (l : Launch) (x : Int32) (b : Int32) : Met l yX0_has wsX0_has ({ frames := 0, cells := 0, slots := 0, locals := 0 }) (va_Pc [.int x, .int b] (fun _ => True)) (va_Qi (fun (rv : Int32) (_u : Unit) => rv = gB (gHas x b)) (fun _ _ => True) (fun _ => False)) 0 0 (fun _ => False) := by
  refine Met.ofW (cc := cX0_has) (maxL := 2) (ret := (some .boolean)) (by decide) rfl ?_
  intro p e s m args below meth c s₁ B hml hv
  obtain ⟨rfl, -⟩ := hv
  have hx := B.exec
  have hb := B.bytes
  have hr := B.returns
  have hts := atoms_spec (ws := wsX0_has) B.pre
  have hown : s.vm.findClass RX0 = some m.cls := findClass_of_methodNamed B.named
  have hlocks := B.notSynchronized
  have hS : va_S (fun _ => False) s.heap s.heap [] := va_S.rf
  have hl := lv_entry [.int x, .int b] (n := 2) (Nat.le_of_ble_eq_true rfl)
  rw [lg_entry_eq]
  generalize (lg_sl [.int x, .int b] ++ List.replicate (2 - (lg_sl [.int x, .int b]).length) Slot.unset).toArray = ls at hl ⊢
  have hl : lv_has ls 2 [(0, .int x), (1, .int b)] := hl
  refine lv_iload_n hx hb dX0_has_0 rfl (lv_at hl 0 rfl) ?_
  refine lv_iload_n hx hb dX0_has_1 rfl (lv_at hl 1 rfl) ?_
  refine lv_ishr hx hb dX0_has_2 ?_
  refine lv_iconst (v := 1) hx hb dX0_has_3 (by decide) ?_
  refine lv_iand hx hb dX0_has_4 ?_
  refine lv_if_eq (tgt := 12) hx hb dX0_has_5 (by decide) (fun c_5 => ?_) (fun c_5 => ?_)
  · skip
    refine lv_iconst (v := 0) hx hb dX0_has_12 (by decide) ?_
    have hpost : (0 : Int32) = gB (gHas x b) := by simp [gB, gHas, c_5]
    exact W.zret (ty := .boolean) (v := 0) hx hb hr (by first | rfl | decide | exact gB_nar _) (fun t ht hW => ⟨⟨0, (), rfl, hpost, trivial⟩, hS.F ht⟩) hS.2.2 dX0_has_13
  · skip
    refine lv_iconst (v := 1) hx hb dX0_has_8 (by decide) ?_
    refine lv_goto (tgt := 13) hx hb dX0_has_9 (by decide) ?_
    have hpost : (1 : Int32) = gB (gHas x b) := by simp [gB, gHas, c_5]
    exact W.zret (ty := .boolean) (v := 1) hx hb hr (by first | rfl | decide | exact gB_nar _) (fun t ht hW => ⟨⟨1, (), rfl, hpost, trivial⟩, hS.F ht⟩) hS.2.2 dX0_has_13
set_option maxHeartbeats 4000000 in
set_option maxRecDepth 100000 in
theorem c_X0_oneIf (l : Launch) (b : Bool) : Met l yX0_oneIf wsX0_oneIf ({ frames := 0, cells := 0, slots := 0, locals := 0 }) (va_Pc [.int (gB b)] (fun _ => True)) (va_Qi (fun (rv : Int32) (_u : Unit) => rv = gB b) (fun _ _ => True) (fun _ => False)) 0 0 (fun _ => False) := by
  refine Met.ofW (cc := cX0_oneIf) (maxL := 1) (ret := (some .int)) (by decide) rfl ?_
  intro p e s m args below meth c s₁ B hml hv
  obtain ⟨rfl, -⟩ := hv
  have hx := B.exec
  have hb := B.bytes
  have hr := B.returns
  have hts := atoms_spec (ws := wsX0_oneIf) B.pre
  have hown : s.vm.findClass RX0 = some m.cls := findClass_of_methodNamed B.named
  have hlocks := B.notSynchronized
  have hS : va_S (fun _ => False) s.heap s.heap [] := va_S.rf
  have hl := lv_entry [.int (gB b)] (n := 1) (Nat.le_of_ble_eq_true rfl)
  rw [lg_entry_eq]
  generalize (lg_sl [.int (gB b)] ++ List.replicate (1 - (lg_sl [.int (gB b)]).length) Slot.unset).toArray = ls at hl ⊢
  have hl : lv_has ls 1 [(0, .int (gB b))] := hl
  refine lv_iload_n hx hb dX0_oneIf_0 rfl (lv_at hl 0 rfl) ?_
  refine lv_if_eq (tgt := 8) hx hb dX0_oneIf_1 (by decide) (fun c_1 => ?_) (fun c_1 => ?_)
  · skip
    have c_1 := gB_f c_1
    refine lv_iconst (v := 0) hx hb dX0_oneIf_8 (by decide) ?_
    have hpost : (0 : Int32) = gB b := by simp [gB, c_1]
    exact W.iret (v := 0) hx hb hr (fun t ht hW => ⟨⟨0, (), rfl, hpost, trivial⟩, hS.F ht⟩) hS.2.2 dX0_oneIf_9
  · skip
    have c_1 := gB_t c_1
    refine lv_iconst (v := 1) hx hb dX0_oneIf_4 (by decide) ?_
    refine lv_goto (tgt := 9) hx hb dX0_oneIf_5 (by decide) ?_
    have hpost : (1 : Int32) = gB b := by simp [gB, c_1]
    exact W.iret (v := 1) hx hb hr (fun t ht hW => ⟨⟨1, (), rfl, hpost, trivial⟩, hS.F ht⟩) hS.2.2 dX0_oneIf_9
set_option maxHeartbeats 4000000 in
set_option maxRecDepth 100000 in
theorem c_X0_against (l : Launch) (x : Int32) : Met l yX0_against wsX0_against ({ frames := 0, cells := 0, slots := 0, locals := 0 }) (va_Pc [.int x] (fun _ => True)) (va_Qi (fun (rv : Int32) (_u : Unit) => rv = (x ^^^ 1)) (fun _ _ => True) (fun _ => False)) 0 0 (fun _ => False) := by
  refine Met.ofW (cc := cX0_against) (maxL := 1) (ret := (some .int)) (by decide) rfl ?_
  intro p e s m args below meth c s₁ B hml hv
  obtain ⟨rfl, -⟩ := hv
  have hx := B.exec
  have hb := B.bytes
  have hr := B.returns
  have hts := atoms_spec (ws := wsX0_against) B.pre
  have hown : s.vm.findClass RX0 = some m.cls := findClass_of_methodNamed B.named
  have hlocks := B.notSynchronized
  have hS : va_S (fun _ => False) s.heap s.heap [] := va_S.rf
  have hl := lv_entry [.int x] (n := 1) (Nat.le_of_ble_eq_true rfl)
  rw [lg_entry_eq]
  generalize (lg_sl [.int x] ++ List.replicate (1 - (lg_sl [.int x]).length) Slot.unset).toArray = ls at hl ⊢
  have hl : lv_has ls 1 [(0, .int x)] := hl
  refine lv_iload_n hx hb dX0_against_0 rfl (lv_at hl 0 rfl) ?_
  refine lv_iconst (v := 1) hx hb dX0_against_1 (by decide) ?_
  refine lv_ixor hx hb dX0_against_2 ?_
  have hpost : (x ^^^ 1) = (x ^^^ 1) := by first | rfl | assumption
  exact W.iret (v := (x ^^^ 1)) hx hb hr (fun t ht hW => ⟨⟨(x ^^^ 1), (), rfl, hpost, trivial⟩, hS.F ht⟩) hS.2.2 dX0_against_3
set_option maxHeartbeats 4000000 in
set_option maxRecDepth 100000 in
theorem c_J6_bitCount_0f7a4 (l : Launch) (x : Int32) : Met l yJ6_bitCount_0f7a4 wsJ6_bitCount_0f7a4 ({ frames := 0, cells := 0, slots := 0, locals := 0 }) (va_Pc [.int x] (fun _ => True)) (va_Qi (fun (rv : Int32) (_u : Unit) => rv = gBC x) (fun _ _ => True) (fun _ => False)) 0 0 (fun _ => False) := by
  refine Met.ofW (cc := cJ6_bitCount_0f7a4) (maxL := 1) (ret := (some .int)) (by decide) rfl ?_
  intro p e s m args below meth c s₁ B hml hv
  obtain ⟨rfl, -⟩ := hv
  have hx := B.exec
  have hb := B.bytes
  have hr := B.returns
  have hts := atoms_spec (ws := wsJ6_bitCount_0f7a4) B.pre
  have hown : s.vm.findClass RJ6 = some m.cls := findClass_of_methodNamed B.named
  have hlocks := B.notSynchronized
  have hS : va_S (fun _ => False) s.heap s.heap [] := va_S.rf
  have hl := lv_entry [.int x] (n := 1) (Nat.le_of_ble_eq_true rfl)
  rw [lg_entry_eq]
  generalize (lg_sl [.int x] ++ List.replicate (1 - (lg_sl [.int x]).length) Slot.unset).toArray = ls at hl ⊢
  have hl : lv_has ls 1 [(0, .int x)] := hl
  refine lv_iload_n hx hb dJ6_bitCount_0f7a4_0 rfl (lv_at hl 0 rfl) ?_
  refine lv_iload_n hx hb dJ6_bitCount_0f7a4_1 rfl (lv_at hl 0 rfl) ?_
  refine lv_iconst (v := 1) hx hb dJ6_bitCount_0f7a4_2 (by decide) ?_
  refine lv_iushr hx hb dJ6_bitCount_0f7a4_3 rfl ?_
  refine lv_ldcw (v := 1431655765) hx hb hown (hts (.constant RJ6 265 (1431655765)) (by decide +kernel)) dJ6_bitCount_0f7a4_4 ?_
  refine lv_iand hx hb dJ6_bitCount_0f7a4_7 ?_
  refine lv_isub hx hb dJ6_bitCount_0f7a4_8 ?_
  refine lv_topi (fun y1 e_y1 => ?_)
  refine lv_istore_n (lv' := [(0, .int y1)]) hx hb dJ6_bitCount_0f7a4_9 rfl hl (by decide) rfl (fun ls hl => ?_)
  refine lv_iload_n hx hb dJ6_bitCount_0f7a4_10 rfl (lv_at hl 0 rfl) ?_
  refine lv_ldcw (v := 858993459) hx hb hown (hts (.constant RJ6 266 (858993459)) (by decide +kernel)) dJ6_bitCount_0f7a4_11 ?_
  refine lv_iand hx hb dJ6_bitCount_0f7a4_14 ?_
  refine lv_iload_n hx hb dJ6_bitCount_0f7a4_15 rfl (lv_at hl 0 rfl) ?_
  refine lv_iconst (v := 2) hx hb dJ6_bitCount_0f7a4_16 (by decide) ?_
  refine lv_iushr hx hb dJ6_bitCount_0f7a4_17 rfl ?_
  refine lv_ldcw (v := 858993459) hx hb hown (hts (.constant RJ6 266 (858993459)) (by decide +kernel)) dJ6_bitCount_0f7a4_18 ?_
  refine lv_iand hx hb dJ6_bitCount_0f7a4_21 ?_
  refine lv_iadd hx hb dJ6_bitCount_0f7a4_22 ?_
  refine lv_topi (fun y2 e_y2 => ?_)
  refine lv_istore_n (lv' := [(0, .int y2)]) hx hb dJ6_bitCount_0f7a4_23 rfl hl (by decide) rfl (fun ls hl => ?_)
  refine lv_iload_n hx hb dJ6_bitCount_0f7a4_24 rfl (lv_at hl 0 rfl) ?_
  refine lv_iload_n hx hb dJ6_bitCount_0f7a4_25 rfl (lv_at hl 0 rfl) ?_
  refine lv_iconst (v := 4) hx hb dJ6_bitCount_0f7a4_26 (by decide) ?_
  refine lv_iushr hx hb dJ6_bitCount_0f7a4_27 rfl ?_
  refine lv_iadd hx hb dJ6_bitCount_0f7a4_28 ?_
  refine lv_ldcw (v := 252645135) hx hb hown (hts (.constant RJ6 267 (252645135)) (by decide +kernel)) dJ6_bitCount_0f7a4_29 ?_
  refine lv_iand hx hb dJ6_bitCount_0f7a4_32 ?_
  refine lv_topi (fun y3 e_y3 => ?_)
  refine lv_istore_n (lv' := [(0, .int y3)]) hx hb dJ6_bitCount_0f7a4_33 rfl hl (by decide) rfl (fun ls hl => ?_)
  refine lv_iload_n hx hb dJ6_bitCount_0f7a4_34 rfl (lv_at hl 0 rfl) ?_
  refine lv_iload_n hx hb dJ6_bitCount_0f7a4_35 rfl (lv_at hl 0 rfl) ?_
  refine lv_bipush (v := 8) hx hb dJ6_bitCount_0f7a4_36 (by decide) ?_
  refine lv_iushr hx hb dJ6_bitCount_0f7a4_38 rfl ?_
  refine lv_iadd hx hb dJ6_bitCount_0f7a4_39 ?_
  refine lv_topi (fun y4 e_y4 => ?_)
  refine lv_istore_n (lv' := [(0, .int y4)]) hx hb dJ6_bitCount_0f7a4_40 rfl hl (by decide) rfl (fun ls hl => ?_)
  refine lv_iload_n hx hb dJ6_bitCount_0f7a4_41 rfl (lv_at hl 0 rfl) ?_
  refine lv_iload_n hx hb dJ6_bitCount_0f7a4_42 rfl (lv_at hl 0 rfl) ?_
  refine lv_bipush (v := 16) hx hb dJ6_bitCount_0f7a4_43 (by decide) ?_
  refine lv_iushr hx hb dJ6_bitCount_0f7a4_45 rfl ?_
  refine lv_iadd hx hb dJ6_bitCount_0f7a4_46 ?_
  refine lv_topi (fun y5 e_y5 => ?_)
  refine lv_istore_n (lv' := [(0, .int y5)]) hx hb dJ6_bitCount_0f7a4_47 rfl hl (by decide) rfl (fun ls hl => ?_)
  refine lv_iload_n hx hb dJ6_bitCount_0f7a4_48 rfl (lv_at hl 0 rfl) ?_
  refine lv_bipush (v := 63) hx hb dJ6_bitCount_0f7a4_49 (by decide) ?_
  refine lv_iand hx hb dJ6_bitCount_0f7a4_51 ?_
  have hpost : (y5 &&& 63) = gBC x := by subst e_y5 e_y4 e_y3 e_y2 e_y1; rfl
  exact W.iret (v := (y5 &&& 63)) hx hb hr (fun t ht hW => ⟨⟨(y5 &&& 63), (), rfl, hpost, trivial⟩, hS.F ht⟩) hS.2.2 dJ6_bitCount_0f7a4_52
set_option maxHeartbeats 4000000 in
set_option maxRecDepth 100000 in
theorem c_X0_countComing (l : Launch) (x : Int32) : Met l yX0_countComing wsX0_countComing ({ frames := 1, cells := 0, slots := 0, locals := 20 }) (va_Pc [.int x] (fun _ => True)) (va_Qi (fun (rv : Int32) (_u : Unit) => rv = gBC (x &&& 349525)) (fun _ _ => True) (fun _ => False)) 0 0 (fun _ => False) := by
  refine Met.ofW (cc := cX0_countComing) (maxL := 1) (ret := (some .int)) (by decide) rfl ?_
  intro p e s m args below meth c s₁ B hml hv
  obtain ⟨rfl, -⟩ := hv
  have hx := B.exec
  have hb := B.bytes
  have hr := B.returns
  have hts := atoms_spec (ws := wsX0_countComing) B.pre
  have hown : s.vm.findClass RX0 = some m.cls := findClass_of_methodNamed B.named
  have hlocks := B.notSynchronized
  have hS : va_S (fun _ => False) s.heap s.heap [] := va_S.rf
  have hl := lv_entry [.int x] (n := 1) (Nat.le_of_ble_eq_true rfl)
  rw [lg_entry_eq]
  generalize (lg_sl [.int x] ++ List.replicate (1 - (lg_sl [.int x]).length) Slot.unset).toArray = ls at hl ⊢
  have hl : lv_has ls 1 [(0, .int x)] := hl
  refine lv_iload_n hx hb dX0_countComing_0 rfl (lv_at hl 0 rfl) ?_
  refine lv_ldc (v := 349525) hx hb hown (hts (.constant RX0 195 (349525)) (by decide +kernel)) dX0_countComing_1 ?_
  refine lv_iand hx hb dX0_countComing_3 ?_
  refine va_calli (va_runS (As := [.int (x &&& 349525)]) (rest := []) ⟨hx, hb, hml, hown, hts⟩ (c_J6_bitCount_0f7a4 l (x &&& 349525)) (va_cwS 1 hts gX0_countComing_J6_bitCount_0f7a4 rfl rfl rfl (by decide +kernel) ⟨Nat.le_of_ble_eq_true rfl, Nat.le_of_ble_eq_true rfl⟩) ⟨fun a U g mk q => q, fun U hU hW => ⟨rfl, trivial⟩⟩ rfl rfl hl.1 rfl (lv_room (Nat.le_of_ble_eq_true rfl)) dX0_countComing_4 ⟨Nat.zero_le _, Nat.zero_le _⟩) hS (fun q _ h => h.elim) (fun q h => h.elim) (fun r1 u t H locs ht hvm hw hB hz1 hk1 hS => ?_)
  have hw : r1 = gBC (x &&& 349525) := hw
  subst hw
  clear hw
  clear hB hz1 hk1 ht hvm
  have hpost : (gBC (x &&& 349525)) = gBC (x &&& 349525) := by first | rfl | assumption
  exact W.iret (v := gBC (x &&& 349525)) hx hb hr (fun t ht hW => ⟨⟨gBC (x &&& 349525), (), rfl, hpost, trivial⟩, hS.F ht⟩) hS.2.2 dX0_countComing_7
set_option maxHeartbeats 4000000 in
set_option maxRecDepth 100000 in
theorem c_X0_holds (l : Launch) (w : Int32) (g : Int32) : Met l yX0_holds wsX0_holds ({ frames := 1, cells := 0, slots := 0, locals := 21 }) (va_Pc [.int w, .int g] (fun _ => True)) (va_Qi (fun (rv : Int32) (_u : Unit) => rv = gB (gHolds w g)) (fun _ _ => True) (fun _ => False)) 0 0 (fun _ => False) := by
  refine Met.ofW (cc := cX0_holds) (maxL := 3) (ret := (some .boolean)) (by decide) rfl ?_
  intro p e s m args below meth c s₁ B hml hv
  obtain ⟨rfl, -⟩ := hv
  have hx := B.exec
  have hb := B.bytes
  have hr := B.returns
  have hts := atoms_spec (ws := wsX0_holds) B.pre
  have hown : s.vm.findClass RX0 = some m.cls := findClass_of_methodNamed B.named
  have hlocks := B.notSynchronized
  have hS : va_S (fun _ => False) s.heap s.heap [] := va_S.rf
  have hl := lv_entry [.int w, .int g] (n := 3) (Nat.le_of_ble_eq_true rfl)
  rw [lg_entry_eq]
  generalize (lg_sl [.int w, .int g] ++ List.replicate (3 - (lg_sl [.int w, .int g]).length) Slot.unset).toArray = ls at hl ⊢
  have hl : lv_has ls 3 [(0, .int w), (1, .int g)] := hl
  refine lv_iload_n hx hb dX0_holds_0 rfl (lv_at hl 1 rfl) ?_
  refine lv_iload_n hx hb dX0_holds_1 rfl (lv_at hl 0 rfl) ?_
  refine lv_iconst (v := 1) hx hb dX0_holds_2 (by decide) ?_
  refine lv_ishr hx hb dX0_holds_3 ?_
  refine va_calli (va_runS (As := [.int g, .int (w >>> (1 &&& 31))]) (rest := []) ⟨hx, hb, hml, hown, hts⟩ (c_X0_has l g (w >>> (1 &&& 31))) (va_cwS 2 hts gX0_holds_X0_has rfl rfl rfl (by decide +kernel) ⟨Nat.le_of_ble_eq_true rfl, Nat.le_of_ble_eq_true rfl⟩) ⟨fun a U g mk q => q, fun U hU hW => ⟨rfl, trivial⟩⟩ rfl rfl hl.1 rfl (lv_room (Nat.le_of_ble_eq_true rfl)) dX0_holds_4 ⟨Nat.zero_le _, Nat.zero_le _⟩) hS (fun q _ h => h.elim) (fun q h => h.elim) (fun r1 u t H locs ht hvm hw hB hz1 hk1 hS => ?_)
  have hw : r1 = gB (gHas g (w >>> (1 &&& 31))) := hw
  subst hw
  clear hw
  clear hB hz1 hk1 ht hvm
  refine lv_istore_n (lv' := [(2, .int (gB (gHas g (w >>> (1 &&& 31))))), (0, .int w), (1, .int g)]) hx hb dX0_holds_7 rfl hl (by decide) rfl (fun ls hl => ?_)
  refine lv_iload_n hx hb dX0_holds_8 rfl (lv_at hl 1 rfl) ?_
  refine lv_iconst (v := 1) hx hb dX0_holds_9 (by decide) ?_
  refine lv_iand hx hb dX0_holds_10 ?_
  refine lv_if_ne (tgt := 18) hx hb dX0_holds_11 (by decide) (fun c_11 => ?_) (fun c_11 => ?_)
  · skip
    refine lv_iload_n hx hb dX0_holds_18 rfl (lv_at hl 0 rfl) ?_
    refine lv_if_ne (tgt := 26) hx hb dX0_holds_19 (by decide) (fun c_19 => ?_) (fun c_19 => ?_)
    · skip
      have c_19 := gB_t c_19
      refine lv_iconst (v := 0) hx hb dX0_holds_26 (by decide) ?_
      have hpost : (0 : Int32) = gB (gHolds w g) := by simp [gB, gHolds, c_11, c_19]
      exact W.zret (ty := .boolean) (v := 0) hx hb hr (by first | rfl | decide | exact gB_nar _) (fun t ht hW => ⟨⟨0, (), rfl, hpost, trivial⟩, hS.F ht⟩) hS.2.2 dX0_holds_27
    · skip
      have c_19 := gB_f c_19
      refine lv_iconst (v := 1) hx hb dX0_holds_22 (by decide) ?_
      refine lv_goto (tgt := 27) hx hb dX0_holds_23 (by decide) ?_
      have hpost : (1 : Int32) = gB (gHolds w g) := by simp [gB, gHolds, c_11, c_19]
      exact W.zret (ty := .boolean) (v := 1) hx hb hr (by first | rfl | decide | exact gB_nar _) (fun t ht hW => ⟨⟨1, (), rfl, hpost, trivial⟩, hS.F ht⟩) hS.2.2 dX0_holds_27
  · skip
    refine lv_iload_n hx hb dX0_holds_14 rfl (lv_at hl 0 rfl) ?_
    refine lv_goto (tgt := 27) hx hb dX0_holds_15 (by decide) ?_
    have hpost : (gB (gHas g (w >>> (1 &&& 31)))) = gB (gHolds w g) := by simp [gB, gHolds, c_11]
    exact W.zret (ty := .boolean) (v := gB (gHas g (w >>> (1 &&& 31)))) hx hb hr (by first | rfl | decide | exact gB_nar _) (fun t ht hW => ⟨⟨gB (gHas g (w >>> (1 &&& 31))), (), rfl, hpost, trivial⟩, hS.F ht⟩) hS.2.2 dX0_holds_27
set_option maxHeartbeats 4000000 in
set_option maxRecDepth 100000 in
theorem c_X0_at (l : Launch) (dC : Nat → ClassId) (dI : Nat → Nat → Nat) (a : Nat) (k : ClassId) (n : Nat) (f : Nat → Int32) (i : Int32) (hn : n < 2 ^ 31) : Met l yX0_at wsX0_at ({ frames := 0, cells := 0, slots := 0, locals := 0 }) (gcPR (dC, dI) [.ref a, .int i] ([(a, .inl (k, n, .inl f))]) ([(k, .int)])) (va_Qi (fun (rv : Int32) (_u : Unit) => rv = gAt n f i) (fun _ _ => True) (fun _ => False)) 0 0 (fun _ => False) := by
  refine Met.ofW (cc := cX0_at) (maxL := 2) (ret := (some .int)) (by decide) rfl ?_
  intro p e s m args below meth c s₁ B hml hv
  obtain ⟨rfl, hP, hK⟩ := hv
  have hx := B.exec
  have hb := B.bytes
  have hr := B.returns
  have hts := atoms_spec (ws := wsX0_at) B.pre
  have hown : s.vm.findClass RX0 = some m.cls := findClass_of_methodNamed B.named
  have hlocks := B.notSynchronized
  have hS : va_S (fun _ => False) s.heap s.heap [] := va_S.rf
  have hP : va_P (dC, dI) vwCl ([(a, .inl (k, n, .inl f))]) s.heap := hP
  have hl := lv_entry [.ref a, .int i] (n := 2) (Nat.le_of_ble_eq_true rfl)
  rw [lg_entry_eq]
  generalize (lg_sl [.ref a, .int i] ++ List.replicate (2 - (lg_sl [.ref a, .int i]).length) Slot.unset).toArray = ls at hl ⊢
  have hl : lv_has ls 2 [(0, .ref a), (1, .int i)] := hl
  refine lv_iload_n hx hb dX0_at_0 rfl (lv_at hl 1 rfl) ?_
  refine lv_if_lt (tgt := 16) hx hb dX0_at_1 (by decide) (fun c_1 => ?_) (fun c_1 => ?_)
  · skip
    refine lv_iconst (v := 0) hx hb dX0_at_16 (by decide) ?_
    have hpost : (0 : Int32) = gAt n f i := by simp [gAt, c_1]
    exact W.iret (v := 0) hx hb hr (fun t ht hW => ⟨⟨0, (), rfl, hpost, trivial⟩, hS.F ht⟩) hS.2.2 dX0_at_17
  · skip
    refine lv_iload_n hx hb dX0_at_4 rfl (lv_at hl 1 rfl) ?_
    refine lv_aload_n hx hb dX0_at_5 rfl (lv_at hl 0 rfl) ?_
    refine va_alen hx hb hK hP 0 0 rfl rfl (v := nI n) rfl dX0_at_6 ?_
    refine lv_icmp_ge (tgt := 16) hx hb dX0_at_7 (by decide) (fun c_7 => ?_) (fun c_7 => ?_)
    · skip
      refine lv_iconst (v := 0) hx hb dX0_at_16 (by decide) ?_
      have hpost : (0 : Int32) = gAt n f i := by simp [gAt, c_1, c_7]
      exact W.iret (v := 0) hx hb hr (fun t ht hW => ⟨⟨0, (), rfl, hpost, trivial⟩, hS.F ht⟩) hS.2.2 dX0_at_17
    · skip
      refine lv_aload_n hx hb dX0_at_10 rfl (lv_at hl 0 rfl) ?_
      refine lv_iload_n hx hb dX0_at_11 rfl (lv_at hl 1 rfl) ?_
      refine va_iald hx hb hK hP 0 0 rfl rfl (gc_in hn c_1 c_7) dX0_at_12 ?_
      refine lv_goto (tgt := 17) hx hb dX0_at_13 (by decide) ?_
      have hpost : (f i.toNatClampNeg) = gAt n f i := by simp [gAt, c_1, c_7]
      exact W.iret (v := f i.toNatClampNeg) hx hb hr (fun t ht hW => ⟨⟨f i.toNatClampNeg, (), rfl, hpost, trivial⟩, hS.F ht⟩) hS.2.2 dX0_at_17
set_option maxHeartbeats 4000000 in
set_option maxRecDepth 100000 in
theorem c_X0_put (l : Launch) (dC : Nat → ClassId) (dI : Nat → Nat → Nat) (a : Nat) (k : ClassId) (n : Nat) (f : Nat → Int32) (i : Int32) (v : Int32) (sz : Nat) (hn : n < 2 ^ 31) : Met l yX0_put wsX0_put ({ frames := 0, cells := 0, slots := 0, locals := 0 }) (gcPM (dC, dI) [.ref a, .int i, .int v] ([(a, .inl (k, n, .inl f))]) ([(k, .int)]) sz) (va_Qv (fun (_u : Unit) => True) (fun _u t9 => va_P (dC, dI) vwCl ([(a, .inl (k, n, .inl (gPut n f i v)))]) t9.heap ∧ va_D (va_A ([(a, .inl (k, n, .inl f))]) sz) ([(a, .inl (k, n, .inl (gPut n f i v)))])) (va_A ([(a, .inl (k, n, .inl f))]) sz)) 0 0 (va_A ([(a, .inl (k, n, .inl f))]) sz) := by
  refine Met.ofW (cc := cX0_put) (maxL := 3) (ret := none) (by decide) rfl ?_
  intro p e s m args below meth c s₁ B hml hv
  obtain ⟨rfl, hsz, hP, hK, hD0⟩ := hv
  have hx := B.exec
  have hb := B.bytes
  have hr := B.returns
  have hts := atoms_spec (ws := wsX0_put) B.pre
  have hown : s.vm.findClass RX0 = some m.cls := findClass_of_methodNamed B.named
  have hlocks := B.notSynchronized
  subst hsz
  have hD := hD0.self (sz := s.heap.size)
  generalize hAe : va_A ([(a, .inl (k, n, .inl f))]) s.heap.size = A at hD ⊢
  have hA : ∀ q : Nat, s.heap.size ≤ q → A q := fun q h => by rw [← hAe]; exact Or.inr h
  have hS : va_S A s.heap s.heap [] := va_S.rf
  have hP : va_P (dC, dI) vwCl ([(a, .inl (k, n, .inl f))]) s.heap := hP
  have hl := lv_entry [.ref a, .int i, .int v] (n := 3) (Nat.le_of_ble_eq_true rfl)
  rw [lg_entry_eq]
  generalize (lg_sl [.ref a, .int i, .int v] ++ List.replicate (3 - (lg_sl [.ref a, .int i, .int v]).length) Slot.unset).toArray = ls at hl ⊢
  have hl : lv_has ls 3 [(0, .ref a), (1, .int i), (2, .int v)] := hl
  refine lv_iload_n hx hb dX0_put_0 rfl (lv_at hl 1 rfl) ?_
  refine lv_if_lt (tgt := 14) hx hb dX0_put_1 (by decide) (fun c_1 => ?_) (fun c_1 => ?_)
  · skip
    have hWe : (([(a, .inl (k, n, .inl f))]) : va_W) = ([(a, .inl (k, n, .inl (gPut n f i v)))]) := by simp [gPut, c_1]
    rw [hWe] at hP hD
    exact W.vret hx hb hr (fun t ht hW => ⟨⟨(), rfl, trivial, ⟨by rw [ht]; exact hP, hD⟩⟩, hS.F ht⟩) hS.2.2 dX0_put_14
  · skip
    refine lv_iload_n hx hb dX0_put_4 rfl (lv_at hl 1 rfl) ?_
    refine lv_aload_n hx hb dX0_put_5 rfl (lv_at hl 0 rfl) ?_
    refine va_alen hx hb hK hP 0 0 rfl rfl (v := nI n) rfl dX0_put_6 ?_
    refine lv_icmp_ge (tgt := 14) hx hb dX0_put_7 (by decide) (fun c_7 => ?_) (fun c_7 => ?_)
    · skip
      have hWe : (([(a, .inl (k, n, .inl f))]) : va_W) = ([(a, .inl (k, n, .inl (gPut n f i v)))]) := by simp [gPut, c_1, c_7]
      rw [hWe] at hP hD
      exact W.vret hx hb hr (fun t ht hW => ⟨⟨(), rfl, trivial, ⟨by rw [ht]; exact hP, hD⟩⟩, hS.F ht⟩) hS.2.2 dX0_put_14
    · skip
      refine lv_aload_n hx hb dX0_put_10 rfl (lv_at hl 0 rfl) ?_
      refine lv_iload_n hx hb dX0_put_11 rfl (lv_at hl 1 rfl) ?_
      refine lv_iload_n hx hb dX0_put_12 rfl (lv_at hl 2 rfl) ?_
      refine va_iast hx hb hK hP hD hS 0 0 rfl rfl (gc_in hn c_1 c_7) dX0_put_13 (fun H locs hP hD hS => ?_)
      have hP : va_P (dC, dI) vwCl ([(a, .inl (k, n, .inl (upd f i.toNatClampNeg v)))]) H := hP
      have hD : va_D A ([(a, .inl (k, n, .inl (upd f i.toNatClampNeg v)))]) := hD
      have hWe : (([(a, .inl (k, n, .inl (upd f i.toNatClampNeg v)))]) : va_W) = ([(a, .inl (k, n, .inl (gPut n f i v)))]) := by simp [gPut, c_1, c_7]
      rw [hWe] at hP hD
      exact W.vret hx hb hr (fun t ht hW => ⟨⟨(), rfl, trivial, ⟨by rw [ht]; exact hP, hD⟩⟩, hS.F ht⟩) hS.2.2 dX0_put_14
set_option maxHeartbeats 4000000 in
set_option maxRecDepth 100000 in
theorem c_X0_isVain (l : Launch) (dC : Nat → ClassId) (dI : Nat → Nat → Nat) (a : Nat) (k : ClassId) (n : Nat) (f : Nat → Int32) (w : Int32) (hn : n < 2 ^ 31) : Met l yX0_isVain wsX0_isVain ({ frames := 1, cells := 0, slots := 0, locals := 21 }) (gcPR (dC, dI) [.ref a, .int w] ([(a, .inl (k, n, .inl f))]) ([(k, .int)])) (va_Qi (fun (rv : Int32) (_u : Unit) => rv = gB (gVain n f w)) (fun _ _ => True) (fun _ => False)) 0 0 (fun _ => False) := by
  refine Met.ofW (cc := cX0_isVain) (maxL := 2) (ret := (some .boolean)) (by decide) rfl ?_
  intro p e s m args below meth c s₁ B hml hv
  obtain ⟨rfl, hP, hK⟩ := hv
  have hx := B.exec
  have hb := B.bytes
  have hr := B.returns
  have hts := atoms_spec (ws := wsX0_isVain) B.pre
  have hown : s.vm.findClass RX0 = some m.cls := findClass_of_methodNamed B.named
  have hlocks := B.notSynchronized
  have hS : va_S (fun _ => False) s.heap s.heap [] := va_S.rf
  have hP : va_P (dC, dI) vwCl ([(a, .inl (k, n, .inl f))]) s.heap := hP
  have hl := lv_entry [.ref a, .int w] (n := 2) (Nat.le_of_ble_eq_true rfl)
  rw [lg_entry_eq]
  generalize (lg_sl [.ref a, .int w] ++ List.replicate (2 - (lg_sl [.ref a, .int w]).length) Slot.unset).toArray = ls at hl ⊢
  have hl : lv_has ls 2 [(0, .ref a), (1, .int w)] := hl
  refine lv_aload_n hx hb dX0_isVain_0 rfl (lv_at hl 0 rfl) ?_
  refine lv_iload_n hx hb dX0_isVain_1 rfl (lv_at hl 1 rfl) ?_
  have hPc : va_P (dC, dI) vwCl ([(a, .inl (k, n, .inl f))]) _ := hP.sub [0] rfl
  have hKc : va_K (dC, dI) vwCl ([(k, .int)]) s := hK.sub [0] rfl
  refine va_calli (va_runS (As := [.ref a, .int w]) (rest := []) ⟨hx, hb, hml, hown, hts⟩ (c_X0_at l dC dI a k n f w (by first | assumption | omega)) (va_cwS 2 hts gX0_isVain_X0_at rfl rfl rfl (by decide +kernel) ⟨Nat.le_of_ble_eq_true rfl, Nat.le_of_ble_eq_true rfl⟩) ⟨gcPR_blind, fun U hU hW => ⟨rfl, by rw [hU]; exact hPc, va_K.moved hW.alike hKc⟩⟩ rfl rfl hl.1 rfl (lv_room (Nat.le_of_ble_eq_true rfl)) dX0_isVain_2 ⟨Nat.zero_le _, Nat.zero_le _⟩) hS (fun q _ h => h.elim) (fun q h => h.elim) (fun r1 u t H locs ht hvm hw hB hz1 hk1 hS => ?_)
  have hP := gc_keep hP hk1
  have hw : r1 = gAt n f w := hw
  subst hw
  clear hw
  clear hB hz1 hk1 ht hvm
  clear hPc hKc
  refine lv_iload_n hx hb dX0_isVain_5 rfl (lv_at hl 1 rfl) ?_
  refine va_calli (va_runS (As := [.int w]) (rest := [.int (gAt n f w)]) ⟨hx, hb, hml, hown, hts⟩ (c_X0_against l w) (va_cwS 1 hts gX0_isVain_X0_against rfl rfl rfl (by decide +kernel) ⟨Nat.le_of_ble_eq_true rfl, Nat.le_of_ble_eq_true rfl⟩) ⟨fun a U g mk q => q, fun U hU hW => ⟨rfl, trivial⟩⟩ rfl rfl hl.1 rfl (lv_room (Nat.le_of_ble_eq_true rfl)) dX0_isVain_6 ⟨Nat.zero_le _, Nat.zero_le _⟩) hS (fun q _ h => h.elim) (fun q h => h.elim) (fun r2 u t H locs ht hvm hw hB hz1 hk1 hS => ?_)
  have hP := gc_keep hP hk1
  have hw : r2 = (w ^^^ 1) := hw
  subst hw
  clear hw
  clear hB hz1 hk1 ht hvm
  refine va_calli (va_runS (As := [.int (gAt n f w), .int (w ^^^ 1)]) (rest := []) ⟨hx, hb, hml, hown, hts⟩ (c_X0_has l (gAt n f w) (w ^^^ 1)) (va_cwS 2 hts gX0_isVain_X0_has rfl rfl rfl (by decide +kernel) ⟨Nat.le_of_ble_eq_true rfl, Nat.le_of_ble_eq_true rfl⟩) ⟨fun a U g mk q => q, fun U hU hW => ⟨rfl, trivial⟩⟩ rfl rfl hl.1 rfl (lv_room (Nat.le_of_ble_eq_true rfl)) dX0_isVain_9 ⟨Nat.zero_le _, Nat.zero_le _⟩) hS (fun q _ h => h.elim) (fun q h => h.elim) (fun r3 u t H locs ht hvm hw hB hz1 hk1 hS => ?_)
  have hP := gc_keep hP hk1
  have hw : r3 = gB (gHas (gAt n f w) (w ^^^ 1)) := hw
  subst hw
  clear hw
  clear hB hz1 hk1 ht hvm
  have hpost : (gB (gHas (gAt n f w) (w ^^^ 1))) = gB (gVain n f w) := by first | rfl | assumption
  exact W.zret (ty := .boolean) (v := gB (gHas (gAt n f w) (w ^^^ 1))) hx hb hr (by first | rfl | decide | exact gB_nar _) (fun t ht hW => ⟨⟨gB (gHas (gAt n f w) (w ^^^ 1)), (), rfl, hpost, trivial⟩, hS.F ht⟩) hS.2.2 dX0_isVain_12
set_option maxHeartbeats 4000000 in
set_option maxRecDepth 100000 in
theorem c_X0_isTorn (l : Launch) (dC : Nat → ClassId) (dI : Nat → Nat → Nat) (a : Nat) (k : ClassId) (n : Nat) (f : Nat → Int32) (g : Int32) (hn : n < 2 ^ 31) : Met l yX0_isTorn wsX0_isTorn ({ frames := 2, cells := 0, slots := 0, locals := 42 }) (gcPR (dC, dI) [.ref a, .int g] ([(a, .inl (k, n, .inl f))]) ([(k, .int)])) (va_Qi (fun (rv : Int32) (_u : Unit) => rv = gB (gTorn n f g)) (fun _ _ => True) (fun _ => False)) 0 0 (fun _ => False) := by
  refine Met.ofW (cc := cX0_isTorn) (maxL := 2) (ret := (some .boolean)) (by decide) rfl ?_
  intro p e s m args below meth c s₁ B hml hv
  obtain ⟨rfl, hP, hK⟩ := hv
  have hx := B.exec
  have hb := B.bytes
  have hr := B.returns
  have hts := atoms_spec (ws := wsX0_isTorn) B.pre
  have hown : s.vm.findClass RX0 = some m.cls := findClass_of_methodNamed B.named
  have hlocks := B.notSynchronized
  have hS : va_S (fun _ => False) s.heap s.heap [] := va_S.rf
  have hP : va_P (dC, dI) vwCl ([(a, .inl (k, n, .inl f))]) s.heap := hP
  have hl := lv_entry [.ref a, .int g] (n := 2) (Nat.le_of_ble_eq_true rfl)
  rw [lg_entry_eq]
  generalize (lg_sl [.ref a, .int g] ++ List.replicate (2 - (lg_sl [.ref a, .int g]).length) Slot.unset).toArray = ls at hl ⊢
  have hl : lv_has ls 2 [(0, .ref a), (1, .int g)] := hl
  refine lv_aload_n hx hb dX0_isTorn_0 rfl (lv_at hl 0 rfl) ?_
  refine lv_iconst (v := 2) hx hb dX0_isTorn_1 (by decide) ?_
  refine lv_iload_n hx hb dX0_isTorn_2 rfl (lv_at hl 1 rfl) ?_
  refine lv_imul hx hb dX0_isTorn_3 ?_
  have hPc : va_P (dC, dI) vwCl ([(a, .inl (k, n, .inl f))]) _ := hP.sub [0] rfl
  have hKc : va_K (dC, dI) vwCl ([(k, .int)]) s := hK.sub [0] rfl
  refine va_calli (va_runS (As := [.ref a, .int (2 * g)]) (rest := []) ⟨hx, hb, hml, hown, hts⟩ (c_X0_isVain l dC dI a k n f (2 * g) (by first | assumption | omega)) (va_cwS 2 hts gX0_isTorn_X0_isVain rfl rfl rfl (by decide +kernel) ⟨Nat.le_of_ble_eq_true rfl, Nat.le_of_ble_eq_true rfl⟩) ⟨gcPR_blind, fun U hU hW => ⟨rfl, by rw [hU]; exact hPc, va_K.moved hW.alike hKc⟩⟩ rfl rfl hl.1 rfl (lv_room (Nat.le_of_ble_eq_true rfl)) dX0_isTorn_4 ⟨Nat.zero_le _, Nat.zero_le _⟩) hS (fun q _ h => h.elim) (fun q h => h.elim) (fun r1 u t H locs ht hvm hw hB hz1 hk1 hS => ?_)
  have hP := gc_keep hP hk1
  have hw : r1 = gB (gVain n f (2 * g)) := hw
  subst hw
  clear hw
  clear hB hz1 hk1 ht hvm
  clear hPc hKc
  refine lv_if_eq (tgt := 26) hx hb dX0_isTorn_7 (by decide) (fun c_7 => ?_) (fun c_7 => ?_)
  · skip
    have c_7 := gB_f c_7
    refine lv_iconst (v := 0) hx hb dX0_isTorn_26 (by decide) ?_
    have hpost : (0 : Int32) = gB (gTorn n f g) := by simp [gB, gTorn, c_7]
    exact W.zret (ty := .boolean) (v := 0) hx hb hr (by first | rfl | decide | exact gB_nar _) (fun t ht hW => ⟨⟨0, (), rfl, hpost, trivial⟩, hS.F ht⟩) hS.2.2 dX0_isTorn_27
  · skip
    have c_7 := gB_t c_7
    refine lv_aload_n hx hb dX0_isTorn_10 rfl (lv_at hl 0 rfl) ?_
    refine lv_iconst (v := 2) hx hb dX0_isTorn_11 (by decide) ?_
    refine lv_iload_n hx hb dX0_isTorn_12 rfl (lv_at hl 1 rfl) ?_
    refine lv_imul hx hb dX0_isTorn_13 ?_
    refine lv_iconst (v := 1) hx hb dX0_isTorn_14 (by decide) ?_
    refine lv_iadd hx hb dX0_isTorn_15 ?_
    have hPc : va_P (dC, dI) vwCl ([(a, .inl (k, n, .inl f))]) _ := hP.sub [0] rfl
    have hKc : va_K (dC, dI) vwCl ([(k, .int)]) s := hK.sub [0] rfl
    refine va_calli (va_runS (As := [.ref a, .int ((2 * g) + 1)]) (rest := []) ⟨hx, hb, hml, hown, hts⟩ (c_X0_isVain l dC dI a k n f ((2 * g) + 1) (by first | assumption | omega)) (va_cwS 2 hts gX0_isTorn_X0_isVain rfl rfl rfl (by decide +kernel) ⟨Nat.le_of_ble_eq_true rfl, Nat.le_of_ble_eq_true rfl⟩) ⟨gcPR_blind, fun U hU hW => ⟨rfl, by rw [hU]; exact hPc, va_K.moved hW.alike hKc⟩⟩ rfl rfl hl.1 rfl (lv_room (Nat.le_of_ble_eq_true rfl)) dX0_isTorn_16 ⟨Nat.zero_le _, Nat.zero_le _⟩) hS (fun q _ h => h.elim) (fun q h => h.elim) (fun r2 u t H locs ht hvm hw hB hz1 hk1 hS => ?_)
    have hP := gc_keep hP hk1
    have hw : r2 = gB (gVain n f ((2 * g) + 1)) := hw
    subst hw
    clear hw
    clear hB hz1 hk1 ht hvm
    clear hPc hKc
    refine lv_if_eq (tgt := 26) hx hb dX0_isTorn_19 (by decide) (fun c_19 => ?_) (fun c_19 => ?_)
    · skip
      have c_19 := gB_f c_19
      refine lv_iconst (v := 0) hx hb dX0_isTorn_26 (by decide) ?_
      have hpost : (0 : Int32) = gB (gTorn n f g) := by simp [gB, gTorn, c_7, c_19]
      exact W.zret (ty := .boolean) (v := 0) hx hb hr (by first | rfl | decide | exact gB_nar _) (fun t ht hW => ⟨⟨0, (), rfl, hpost, trivial⟩, hS.F ht⟩) hS.2.2 dX0_isTorn_27
    · skip
      have c_19 := gB_t c_19
      refine lv_iconst (v := 1) hx hb dX0_isTorn_22 (by decide) ?_
      refine lv_goto (tgt := 27) hx hb dX0_isTorn_23 (by decide) ?_
      have hpost : (1 : Int32) = gB (gTorn n f g) := by simp [gB, gTorn, c_7, c_19]
      exact W.zret (ty := .boolean) (v := 1) hx hb hr (by first | rfl | decide | exact gB_nar _) (fun t ht hW => ⟨⟨1, (), rfl, hpost, trivial⟩, hS.F ht⟩) hS.2.2 dX0_isTorn_27
set_option maxHeartbeats 4000000 in
set_option maxRecDepth 100000 in
theorem c_X0_link (l : Launch) (dC : Nat → ClassId) (dI : Nat → Nat → Nat) (a : Nat) (k : ClassId) (n : Nat) (f : Nat → Int32) (b : Int32) (d : Int32) (sz : Nat) (hn : n < 2 ^ 31) : Met l yX0_link wsX0_link ({ frames := 1, cells := 0, slots := 0, locals := 22 }) (gcPM (dC, dI) [.ref a, .int b, .int d] ([(a, .inl (k, n, .inl f))]) ([(k, .int)]) sz) (va_Qv (fun (_u : Unit) => True) (fun _u t9 => va_P (dC, dI) vwCl ([(a, .inl (k, n, .inl (gLink n f b d)))]) t9.heap ∧ va_D (va_A ([(a, .inl (k, n, .inl f))]) sz) ([(a, .inl (k, n, .inl (gLink n f b d)))])) (va_A ([(a, .inl (k, n, .inl f))]) sz)) 0 0 (va_A ([(a, .inl (k, n, .inl f))]) sz) := by
  refine Met.ofW (cc := cX0_link) (maxL := 3) (ret := none) (by decide) rfl ?_
  intro p e s m args below meth c s₁ B hml hv
  obtain ⟨rfl, hsz, hP, hK, hD0⟩ := hv
  have hx := B.exec
  have hb := B.bytes
  have hr := B.returns
  have hts := atoms_spec (ws := wsX0_link) B.pre
  have hown : s.vm.findClass RX0 = some m.cls := findClass_of_methodNamed B.named
  have hlocks := B.notSynchronized
  subst hsz
  have hD := hD0.self (sz := s.heap.size)
  generalize hAe : va_A ([(a, .inl (k, n, .inl f))]) s.heap.size = A at hD ⊢
  have hA : ∀ q : Nat, s.heap.size ≤ q → A q := fun q h => by rw [← hAe]; exact Or.inr h
  have hS : va_S A s.heap s.heap [] := va_S.rf
  have hP : va_P (dC, dI) vwCl ([(a, .inl (k, n, .inl f))]) s.heap := hP
  have hl := lv_entry [.ref a, .int b, .int d] (n := 3) (Nat.le_of_ble_eq_true rfl)
  rw [lg_entry_eq]
  generalize (lg_sl [.ref a, .int b, .int d] ++ List.replicate (3 - (lg_sl [.ref a, .int b, .int d]).length) Slot.unset).toArray = ls at hl ⊢
  have hl : lv_has ls 3 [(0, .ref a), (1, .int b), (2, .int d)] := hl
  refine lv_aload_n hx hb dX0_link_0 rfl (lv_at hl 0 rfl) ?_
  refine lv_iload_n hx hb dX0_link_1 rfl (lv_at hl 1 rfl) ?_
  refine lv_aload_n hx hb dX0_link_2 rfl (lv_at hl 0 rfl) ?_
  refine lv_iload_n hx hb dX0_link_3 rfl (lv_at hl 1 rfl) ?_
  have hPc : va_P (dC, dI) vwCl ([(a, .inl (k, n, .inl f))]) _ := hP.sub [0] rfl
  have hKc : va_K (dC, dI) vwCl ([(k, .int)]) s := hK.sub [0] rfl
  refine va_calli (va_runS (As := [.ref a, .int b]) (rest := [.int b, .ref a]) ⟨hx, hb, hml, hown, hts⟩ (c_X0_at l dC dI a k n f b (by first | assumption | omega)) (va_cwS 2 hts gX0_link_X0_at rfl rfl rfl (by decide +kernel) ⟨Nat.le_of_ble_eq_true rfl, Nat.le_of_ble_eq_true rfl⟩) ⟨gcPR_blind, fun U hU hW => ⟨rfl, by rw [hU]; exact hPc, va_K.moved hW.alike hKc⟩⟩ rfl rfl hl.1 rfl (lv_room (Nat.le_of_ble_eq_true rfl)) dX0_link_4 ⟨Nat.zero_le _, Nat.zero_le _⟩) hS (fun q _ h => h.elim) (fun q h => h.elim) (fun r1 u t H locs ht hvm hw hB hz1 hk1 hS => ?_)
  have hP := gc_keep hP hk1
  have hw : r1 = gAt n f b := hw
  subst hw
  clear hw
  clear hB hz1 hk1 ht hvm
  clear hPc hKc
  refine lv_iconst (v := 1) hx hb dX0_link_7 (by decide) ?_
  refine lv_iload_n hx hb dX0_link_8 rfl (lv_at hl 2 rfl) ?_
  refine lv_ishl hx hb dX0_link_9 ?_
  refine lv_ior hx hb dX0_link_10 ?_
  have hPc : va_P (dC, dI) vwCl ([(a, .inl (k, n, .inl f))]) _ := hP.sub [0] rfl
  have hKc : va_K (dC, dI) vwCl ([(k, .int)]) s := hK.sub [0] rfl
  have hDc : va_D A ([(a, .inl (k, n, .inl f))]) := hD.sub [0] (by decide) rfl
  have hFc := va_free (wc := ([(a, .inl (k, n, .inl f))])) hD hS hA [0] rfl
  refine va_callv (va_runS (As := [.ref a, .int b, .int (gAt n f b ||| ((1 : Int32) <<< (d &&& 31)))]) (rest := []) ⟨hx, hb, hml, hown, hts⟩ (c_X0_put l dC dI a k n f b (gAt n f b ||| ((1 : Int32) <<< (d &&& 31))) H.size (by first | assumption | omega)) (va_cwS 3 hts gX0_link_X0_put rfl rfl rfl (by decide +kernel) ⟨Nat.le_of_ble_eq_true rfl, Nat.le_of_ble_eq_true rfl⟩) ⟨gcPM_blind, fun U hU hW => ⟨rfl, by rw [hU], by rw [hU]; exact hPc, va_K.moved hW.alike hKc, hDc.weaken (fun _ _ _ _ => trivial)⟩⟩ rfl rfl hl.1 rfl (lv_room (Nat.le_of_ble_eq_true rfl)) dX0_link_11 ⟨Nat.zero_le _, Nat.zero_le _⟩) hS (fun q _ h => hFc q h) hFc (fun u t H locs ht hvm hw hB hz1 hk1 hS => ?_)
  obtain ⟨hP1, hD1⟩ := hB
  rw [ht] at hP1
  obtain ⟨hP, hD⟩ := va_join (wr := []) (w1 := ([(a, .inl (k, n, .inl (gPut n f b (gAt n f b ||| ((1 : Int32) <<< (d &&& 31))))))])) hP hD [0] [] rfl rfl (by decide) (by decide) hk1 hFc hP1 hD1
  have hP : va_P (dC, dI) vwCl ([(a, .inl (k, n, .inl (gPut n f b (gAt n f b ||| ((1 : Int32) <<< (d &&& 31))))))]) H := hP.sub [0] rfl
  have hD : va_D A ([(a, .inl (k, n, .inl (gPut n f b (gAt n f b ||| ((1 : Int32) <<< (d &&& 31))))))]) := hD.sub [0] (by decide) rfl
  clear hz1 hk1 ht hvm hP1 hD1 hFc hDc
  clear hPc hKc
  have hWe : (([(a, .inl (k, n, .inl (gPut n f b (gAt n f b ||| ((1 : Int32) <<< (d &&& 31))))))]) : va_W) = ([(a, .inl (k, n, .inl (gLink n f b d)))]) := rfl
  rw [hWe] at hP hD
  exact W.vret hx hb hr (fun t ht hW => ⟨⟨(), rfl, trivial, ⟨by rw [ht]; exact hP, hD⟩⟩, hS.F ht⟩) hS.2.2 dX0_link_14
set_option maxHeartbeats 4000000 in
set_option maxRecDepth 100000 in
theorem c_X0_close (l : Launch) (dC : Nat → ClassId) (dI : Nat → Nat → Nat) (a : Nat) (k : ClassId) (f : Nat → Int32) (sz : Nat) : Met l yX0_close wsX0_close ({ frames := 1, cells := 0, slots := 0, locals := 21 }) (gcPM (dC, dI) [.ref a] ([(a, .inl (k, 20, .inl f))]) ([(k, .int)]) sz) (va_Qv (fun (_u : Unit) => True) (fun _u t9 => va_P (dC, dI) vwCl ([(a, .inl (k, 20, .inl (gCl f 20)))]) t9.heap ∧ va_D (va_A ([(a, .inl (k, 20, .inl f))]) sz) ([(a, .inl (k, 20, .inl (gCl f 20)))])) (va_A ([(a, .inl (k, 20, .inl f))]) sz)) 0 0 (va_A ([(a, .inl (k, 20, .inl f))]) sz) := by
  refine Met.ofW (cc := cX0_close) (maxL := 3) (ret := none) (by decide) rfl ?_
  intro p e s m args below meth c s₁ B hml hv
  obtain ⟨rfl, hsz, hP, hK, hD0⟩ := hv
  have hx := B.exec
  have hb := B.bytes
  have hr := B.returns
  have hts := atoms_spec (ws := wsX0_close) B.pre
  have hown : s.vm.findClass RX0 = some m.cls := findClass_of_methodNamed B.named
  have hlocks := B.notSynchronized
  subst hsz
  have hD := hD0.self (sz := s.heap.size)
  generalize hAe : va_A ([(a, .inl (k, 20, .inl f))]) s.heap.size = A at hD ⊢
  have hA : ∀ q : Nat, s.heap.size ≤ q → A q := fun q h => by rw [← hAe]; exact Or.inr h
  have hS : va_S A s.heap s.heap [] := va_S.rf
  have hP : va_P (dC, dI) vwCl ([(a, .inl (k, 20, .inl f))]) s.heap := hP
  have hl := lv_entry [.ref a] (n := 3) (Nat.le_of_ble_eq_true rfl)
  rw [lg_entry_eq]
  generalize (lg_sl [.ref a] ++ List.replicate (3 - (lg_sl [.ref a]).length) Slot.unset).toArray = ls at hl ⊢
  have hl : lv_has ls 3 [(0, .ref a)] := hl
  refine lv_iconst (v := 0) hx hb dX0_close_0 (by decide) ?_
  refine lv_istore_n (lv' := [(1, .int 0), (0, .ref a)]) hx hb dX0_close_1 rfl hl (by decide) rfl (fun ls hl => ?_)
  refine gc_loop (20) (fun (i : Nat) (H : Heap) (locs : List Loc) (ls : Array Slot) => ∃ (fm : Nat → Int32), fm = gCl f i ∧ va_P (dC, dI) vwCl ([(a, .inl (k, 20, .inl fm))]) H ∧ va_D A ([(a, .inl (k, 20, .inl fm))]) ∧ va_S A s.heap H locs ∧ lv_has ls 3 [(1, .int (nI i)), (0, .ref a)]) 0 (Nat.zero_le _) ⟨f, (by first | rfl | assumption | omega), hP, hD, hS, lv_sub hl [0, 1] rfl⟩ ?_
  intro i H locs ls hi hI ihi
  obtain ⟨fm, e_fm, hP, hD, hS, hl⟩ := hI
  refine lv_iload_n hx hb dX0_close_2 rfl (lv_at hl 0 rfl) ?_
  refine lv_aload_n hx hb dX0_close_3 rfl (lv_at hl 1 rfl) ?_
  refine va_alen hx hb hK hP 0 0 rfl rfl (v := nI 20) rfl dX0_close_4 ?_
  refine lv_icmp_ge (tgt := 47) hx hb dX0_close_5 (by decide) (fun c_5 => ?_) (fun c_5 => ?_)
  · skip
    have hEi : i = 20 := gc_ge c_5 (by omega) (by omega)
    have hWe : (([(a, .inl (k, 20, .inl fm))]) : va_W) = ([(a, .inl (k, 20, .inl (gCl f 20)))]) := by rw [e_fm, hEi]
    rw [hWe] at hP hD
    exact W.vret hx hb hr (fun t ht hW => ⟨⟨(), rfl, trivial, ⟨by rw [ht]; exact hP, hD⟩⟩, hS.F ht⟩) hS.2.2 dX0_close_47
  · skip
    have hLi : i < 20 := gc_lt c_5 (by omega) (by omega)
    refine lv_iconst (v := 0) hx hb dX0_close_8 (by decide) ?_
    refine lv_istore_n (lv' := [(2, .int 0), (1, .int (nI i)), (0, .ref a)]) hx hb dX0_close_9 rfl hl (by decide) rfl (fun ls hl => ?_)
    refine gc_loop (20) (fun (w : Nat) (H : Heap) (locs : List Loc) (ls : Array Slot) => ∃ (fw : Nat → Int32), fw = gClB fm i w ∧ va_P (dC, dI) vwCl ([(a, .inl (k, 20, .inl fw))]) H ∧ va_D A ([(a, .inl (k, 20, .inl fw))]) ∧ va_S A s.heap H locs ∧ lv_has ls 3 [(2, .int (nI w)), (1, .int (nI i)), (0, .ref a)]) 0 (Nat.zero_le _) ⟨fm, (by first | rfl | assumption | omega), hP, hD, hS, lv_sub hl [0, 1, 2] rfl⟩ ?_
    intro w H locs ls hw hI ihw
    obtain ⟨fw, e_fw, hP, hD, hS, hl⟩ := hI
    refine lv_iload_n hx hb dX0_close_10 rfl (lv_at hl 0 rfl) ?_
    refine lv_aload_n hx hb dX0_close_11 rfl (lv_at hl 2 rfl) ?_
    refine va_alen hx hb hK hP 0 0 rfl rfl (v := nI 20) rfl dX0_close_12 ?_
    refine lv_icmp_ge (tgt := 41) hx hb dX0_close_13 (by decide) (fun c_13 => ?_) (fun c_13 => ?_)
    · skip
      have hEw : w = 20 := gc_ge c_13 (by omega) (by omega)
      refine lv_iinc (v := nI (i + 1)) (lv' := [(1, .int (nI (i + 1))), (2, .int (nI w)), (0, .ref a)]) hx hb dX0_close_41 hl (k := 1) rfl (nI_1 i) (by decide) rfl (fun ls hl => ?_)
      refine lv_goto (tgt := 2) hx hb dX0_close_44 (by decide) ?_
      exact ihi H _ ls (by omega) ⟨fw, (by rw [e_fw, hEw, e_fm]; rfl), hP, hD, hS, lv_sub hl [0, 2] rfl⟩
    · skip
      have hLw : w < 20 := gc_lt c_13 (by omega) (by omega)
      refine lv_aload_n hx hb dX0_close_16 rfl (lv_at hl 2 rfl) ?_
      refine lv_iload_n hx hb dX0_close_17 rfl (lv_at hl 0 rfl) ?_
      refine va_iald hx hb hK hP 0 0 rfl rfl (vp_in_nI (n := w) (by omega) (by decide)) dX0_close_18 ?_
      rw [nI_clamp (n := w) (by omega)]
      refine lv_iload_n hx hb dX0_close_19 rfl (lv_at hl 1 rfl) ?_
      refine va_calli (va_runS (As := [.int (fw w), .int (nI i)]) (rest := []) ⟨hx, hb, hml, hown, hts⟩ (c_X0_has l (fw w) (nI i)) (va_cwS 2 hts gX0_close_X0_has rfl rfl rfl (by decide +kernel) ⟨Nat.le_of_ble_eq_true rfl, Nat.le_of_ble_eq_true rfl⟩) ⟨fun a U g mk q => q, fun U hU hW => ⟨rfl, trivial⟩⟩ rfl rfl hl.1 rfl (lv_room (Nat.le_of_ble_eq_true rfl)) dX0_close_20 ⟨Nat.zero_le _, Nat.zero_le _⟩) hS (fun q _ h => h.elim) (fun q h => h.elim) (fun r1 u t H locs ht hvm hw hB hz1 hk1 hS => ?_)
      have hP := gc_keep hP hk1
      have hw : r1 = gB (gHas (fw w) (nI i)) := hw
      subst hw
      clear hw
      clear hB hz1 hk1 ht hvm
      refine lv_if_eq (tgt := 35) hx hb dX0_close_23 (by decide) (fun c_23 => ?_) (fun c_23 => ?_)
      · skip
        have c_23 := gB_f c_23
        refine lv_iinc (v := nI (w + 1)) (lv' := [(2, .int (nI (w + 1))), (1, .int (nI i)), (0, .ref a)]) hx hb dX0_close_35 hl (k := 0) rfl (nI_1 w) (by decide) rfl (fun ls hl => ?_)
        refine lv_goto (tgt := 10) hx hb dX0_close_38 (by decide) ?_
        exact ihw H _ ls (by omega) ⟨fw, (by simp only [gClB, ← e_fw]; simp [gClB, c_23]), hP, hD, hS, lv_sub hl [0, 1, 2] rfl⟩
      · skip
        have c_23 := gB_t c_23
        refine lv_aload_n hx hb dX0_close_26 rfl (lv_at hl 2 rfl) ?_
        refine lv_iload_n hx hb dX0_close_27 rfl (lv_at hl 0 rfl) ?_
        refine lv_dup2_11 hx hb dX0_close_28 rfl rfl ?_
        refine va_iald hx hb hK hP 0 0 rfl rfl (vp_in_nI (n := w) (by omega) (by decide)) dX0_close_29 ?_
        rw [nI_clamp (n := w) (by omega)]
        refine lv_aload_n hx hb dX0_close_30 rfl (lv_at hl 2 rfl) ?_
        refine lv_iload_n hx hb dX0_close_31 rfl (lv_at hl 1 rfl) ?_
        refine va_iald hx hb hK hP 0 0 rfl rfl (vp_in_nI (n := i) (by omega) (by decide)) dX0_close_32 ?_
        rw [nI_clamp (n := i) (by omega)]
        refine lv_ior hx hb dX0_close_33 ?_
        refine va_iast hx hb hK hP hD hS 0 0 rfl rfl (vp_in_nI (n := w) (by omega) (by decide)) dX0_close_34 (fun H locs hP hD hS => ?_)
        rw [nI_clamp (n := w) (by omega)] at hP hD
        have hP : va_P (dC, dI) vwCl ([(a, .inl (k, 20, .inl (upd fw w (fw w ||| fw i))))]) H := hP
        have hD : va_D A ([(a, .inl (k, 20, .inl (upd fw w (fw w ||| fw i))))]) := hD
        refine lv_iinc (v := nI (w + 1)) (lv' := [(2, .int (nI (w + 1))), (1, .int (nI i)), (0, .ref a)]) hx hb dX0_close_35 hl (k := 0) rfl (nI_1 w) (by decide) rfl (fun ls hl => ?_)
        refine lv_goto (tgt := 10) hx hb dX0_close_38 (by decide) ?_
        exact ihw H _ ls (by omega) ⟨(upd fw w (fw w ||| fw i)), (by simp only [gClB, ← e_fw]; simp [gClB, c_23]), hP, hD, hS, lv_sub hl [0, 1, 2] rfl⟩
