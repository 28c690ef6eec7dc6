/-! REFUSED CALLS of the book: each throws what the document says, and nothing is written. -/
abbrev gNm : List String := ["java/lang/RuntimeException", "java/lang/Exception"]
def gcDC : Cond → Bool
  | .declares _ => true
  | .castable _ _ => true
  | _ => false
def gcXL : List Cond := (vx_atS RX0 39 "java/lang/IllegalStateException" gNm).filter (fun w => !goodWord w) ++ ((vx_atS RX0 50 "java/lang/IllegalArgumentException" gNm).filter (fun w => !goodWord w) ++ (vx_atS RX0 171 "java/lang/IndexOutOfBoundsException" gNm).filter (fun w => !goodWord w))
theorem gcXL_dc : ∀ w ∈ gcXL, gcDC w = true := by decide +kernel
def gcTX : List (Nat × String) := [(37, "the book is full of guests"), (48, "both wishes are the same"), (54, "the book is full of rules"), (126, "not a set of guests in the book"), (169, "no such wish"), (172, "no such guest"), (174, "no such rule"), (176, "no such fact")]
def gcNC : List (String × String) := [("java/lang/IllegalArgumentException", "java/lang/IndexOutOfBoundsException"), ("java/lang/IllegalStateException", "java/lang/IndexOutOfBoundsException"), ("java/lang/IllegalStateException", "java/lang/IllegalArgumentException")]
theorem gcDC_ot {w : Cond} (h : gcDC w = true) : w.onTables = true := by cases w <;> first | rfl | cases h
theorem gcNw_warm {w : Cond} (h : gcDC w = true) {s U : State} (hW : s.WarmedH U.vm) (hZ : va_Nw w s) : va_Nw w U := by
  cases w <;> first | exact va_Nw.warmD hW hZ | exact va_Nw.warmC hW hZ | cases h
/-- what a throw wants of the machine -/
def gcX (U : State) : Prop := (∀ w ∈ gcXL, va_Nw w U) ∧ vx_Zq Bundle.tN "UNASSIGNED_STACK" Bundle.steD (fun _ => False) U U.heap ∧ vx_Zq Bundle.tN "SUPPRESSED_SENTINEL" Bundle.listD (fun _ => False) U U.heap ∧ (∀ q ∈ gcTX, ∃ sa, vk_R RX0 q.1 q.2 sa U) ∧ ∀ q ∈ gcNC, va_Nc q.1 q.2 U
theorem gcX_go {s U : State} (h : gcX s) (hW : s.WarmedH U.vm) (hH : ∀ a : Nat, a < s.heap.size → U.heap[a]? = s.heap[a]?) : gcX U :=
  ⟨fun w hw => gcNw_warm (gcXL_dc w hw) hW (h.1 w hw), (h.2.1.kept (fun a ha _ => hH a ha)).moved hW.alike, (h.2.2.1.kept (fun a ha _ => hH a ha)).moved hW.alike, fun q hq => (h.2.2.2.1 q hq).imp fun _ h => h.warm hW, fun q hq => (h.2.2.2.2 q hq).moved hW.alike⟩
abbrev gcPX (D : va_G) (As : List Value) (ws : va_W) (tys : List (ClassId × FieldType)) : Array Value → State → Prop := va_Pc As (fun U => va_P D vwCl ws U.heap ∧ va_K D vwCl tys U ∧ gcX U)
/-- premises of a method that writes and may see a throw -/
abbrev gcPN (D : va_G) (As : List Value) (ws : va_W) (tys : List (ClassId × FieldType)) (sz : Nat) : Array Value → State → Prop := va_Pc As (fun U => U.heap.size = sz ∧ va_P D vwCl ws U.heap ∧ va_K D vwCl tys U ∧ va_D (fun _ => True) ws ∧ gcX U)
theorem gcPN_blind {D : va_G} {As : List Value} {ws : va_W} {tys : List (ClassId × FieldType)} {sz : Nat} : FrameBlind (gcPN D As ws tys sz) := fun a U g mk q => by
  obtain ⟨q0, q1, qP, qK, qD, qX⟩ := q
  exact ⟨q0, q1, qP, va_K.moved (u := U) (U := U.calling g mk a) (Vm.Alike.refl U.vm) qK, qD, gcX_go qX (State.WarmedH.refl U) (fun _ _ => rfl)⟩
theorem gcPX_blind {D : va_G} {As : List Value} {ws : va_W} {tys : List (ClassId × FieldType)} : FrameBlind (gcPX D As ws tys) := fun a U g mk q => by
  obtain ⟨q0, qP, qK, qX⟩ := q
  exact ⟨q0, qP, va_K.moved (u := U) (U := U.calling g mk a) (Vm.Alike.refl U.vm) qK, gcX_go qX (State.WarmedH.refl U) (fun _ _ => rfl)⟩
theorem gcX_at {args : Array Value} {s : State} (h : gcX s) {E : String} {ic : Nat} (hm : ∀ w ∈ (vx_atS RX0 ic E gNm).filter (fun w => !goodWord w), w ∈ gcXL) (hg : ∀ w ∈ (vx_atS RX0 ic E gNm).filter goodWord, w.before args s = true) : ∀ w ∈ vx_atS RX0 ic E gNm, w.before args s = true :=
  vx_hat hg (fun _ hw => hw) (fun w hw => va_Nw.use (gcDC_ot (gcXL_dc w (hm w hw))) (h.1 w (hm w hw)))
theorem gcF {s t : State} {H : Heap} {locs : List Loc} (hS : va_S (fun _ => False) s.heap H locs) (hz : H.size ≤ t.heap.size) (hk : ∀ q : Nat, q < H.size → t.heap[q]? = H[q]?) : va_F (fun _ => False) s t :=
  ⟨Nat.le_trans hS.1 hz, fun q hq hn => (hk q (Nat.lt_of_lt_of_le hq hS.1)).trans (hS.2.1 q hq hn)⟩
theorem gc_bad {v : Int32} {n : Nat} (hn : n < 2 ^ 31) (q : ∀ j : Nat, j < n → v ≠ nI j) (h0 : ¬ v < 0) (h1 : ¬ nI n ≤ v) : False := by
  rcases pk_ix v hn with c | c | ⟨j, hj, c⟩
  · exact h0 c
  · exact h1 c
  · exact q j hj c
set_option maxHeartbeats 4000000 in
set_option maxRecDepth 100000 in
theorem x_X0_requireFact (l : Launch) (hl : l.stackTraces = false) (dC : Nat → ClassId) (dI : Nat → Nat → Nat) (v : Int32) (n : Nat) (hn : n ≤ 10) (hno : ∀ j : Nat, j < n → v ≠ nI j) : vx_Met l yX0_requireFact wsX0_requireFact ({ frames := 6, cells := 1, slots := 6, locals := 82 }) (gcPX (dC, dI) [.int v, .int (nI n)] [] []) (va_Qv (fun (_ : Unit) => False) (fun _ _ => True) (fun _ => False)) (vx_X (fun (_ : Unit) => True) (fun E _ _ => E = "java/lang/IndexOutOfBoundsException") (fun _ => False)) 1 6 (fun _ => False) := by
  refine vx_ofW (cc := cX0_requireFact) (maxL := 2) (ret := none) (by decide) rfl ?_
  intro p e s m args below meth c s₁ B hml hnoex hv
  obtain ⟨rfl, hP, hK, hgX⟩ := hv
  have hx := B.exec
  have hb := B.bytes
  have hr := B.returns
  have hts := atoms_spec (ws := wsX0_requireFact) B.pre
  have hown : s.vm.findClass RX0 = some m.cls := findClass_of_methodNamed B.named
  have hlocks := B.notSynchronized
  have hS : va_S (fun _ => False) s.heap s.heap [] := va_S.rf
  have hgl := hl
  have hl := lv_entry [.int v, .int (nI n)] (n := 2) (Nat.le_of_ble_eq_true rfl)
  rw [lg_entry_eq]
  generalize (lg_sl [.int v, .int (nI n)] ++ List.replicate (2 - (lg_sl [.int v, .int (nI n)]).length) Slot.unset).toArray = ls at hl ⊢
  have hl : lv_has ls 2 [(0, .int v), (1, .int (nI n))] := hl
  refine lv_iload_n hx hb dX0_requireFact_0 rfl (lv_at hl 0 rfl) ?_
  refine lv_if_lt (tgt := 9) hx hb dX0_requireFact_1 (by decide) (fun c_1 => ?_) (fun c_1 => ?_)
  · skip
    obtain ⟨sa, hstr⟩ := hgX.2.2.2.1 (176, "no such fact") (by decide)
    have hat := gcX_at (args := _) (E := "java/lang/IndexOutOfBoundsException") (ic := 171) hgX (by decide +kernel) (fun w hw => hts w (List.mem_cons_of_mem _ (List.mem_append_right _ hw)))
    exact vx_throwS hx hb hgl (own := RX0) (cls := "java/lang/IndexOutOfBoundsException") (text := "no such fact") (names := gNm) (ik := 167) (is := 176) (ic := 171) (sa := sa) (A := fun _ => False) hown (by decide +kernel) (by decide +kernel) (hts (.classLink RX0 167 "java/lang/IndexOutOfBoundsException") (by decide +kernel)) (hts (.initialized "java/lang/IndexOutOfBoundsException") (by decide +kernel)) hstr hat (by decide +kernel) hgX.2.1 hgX.2.2.1 hS (hl.1.trans hml.symm) dX0_requireFact_9 dX0_requireFact_12 dX0_requireFact_13 dX0_requireFact_15 dX0_requireFact_18 (fun x h => (hnoex x h).elim) (Nat.le_of_ble_eq_true rfl) (Nat.le_of_ble_eq_true rfl) (Nat.le_of_ble_eq_true rfl) (Nat.le_of_ble_eq_true rfl) hlocks (fun t hvm hz hk => ⟨(), trivial, rfl, gcF hS hz hk⟩) hS.2.2 (Nat.le_of_ble_eq_true rfl) (Nat.le_of_ble_eq_true rfl)
  · skip
    refine lv_iload_n hx hb dX0_requireFact_4 rfl (lv_at hl 0 rfl) ?_
    refine lv_iload_n hx hb dX0_requireFact_5 rfl (lv_at hl 1 rfl) ?_
    refine lv_icmp_lt (tgt := 19) hx hb dX0_requireFact_6 (by decide) (fun c_6 => ?_) (fun c_6 => ?_)
    · skip
      exact (gc_bad (by omega) hno c_1 (Int32.not_le.mpr c_6)).elim
    · skip
      obtain ⟨sa, hstr⟩ := hgX.2.2.2.1 (176, "no such fact") (by decide)
      have hat := gcX_at (args := _) (E := "java/lang/IndexOutOfBoundsException") (ic := 171) hgX (by decide +kernel) (fun w hw => hts w (List.mem_cons_of_mem _ (List.mem_append_right _ hw)))
      exact vx_throwS hx hb hgl (own := RX0) (cls := "java/lang/IndexOutOfBoundsException") (text := "no such fact") (names := gNm) (ik := 167) (is := 176) (ic := 171) (sa := sa) (A := fun _ => False) hown (by decide +kernel) (by decide +kernel) (hts (.classLink RX0 167 "java/lang/IndexOutOfBoundsException") (by decide +kernel)) (hts (.initialized "java/lang/IndexOutOfBoundsException") (by decide +kernel)) hstr hat (by decide +kernel) hgX.2.1 hgX.2.2.1 hS (hl.1.trans hml.symm) dX0_requireFact_9 dX0_requireFact_12 dX0_requireFact_13 dX0_requireFact_15 dX0_requireFact_18 (fun x h => (hnoex x h).elim) (Nat.le_of_ble_eq_true rfl) (Nat.le_of_ble_eq_true rfl) (Nat.le_of_ble_eq_true rfl) (Nat.le_of_ble_eq_true rfl) hlocks (fun t hvm hz hk => ⟨(), trivial, rfl, gcF hS hz hk⟩) hS.2.2 (Nat.le_of_ble_eq_true rfl) (Nat.le_of_ble_eq_true rfl)
set_option maxHeartbeats 4000000 in
set_option maxRecDepth 100000 in
theorem x_X0_requireWishes (l : Launch) (hl : l.stackTraces = false) (dC : Nat → ClassId) (dI : Nat → Nat → Nat) (h : Nat → Nat) (kc : Nat → ClassId) (f1 : Nat → Int32) (f2 : Nat → Int32) (dr : Nat → Int32) (cl : Nat → Int32) (tr : Nat → Int32) (se : Nat → Int32) (g : Nat) (r : Nat) (inf : Int32) (ct : Nat) (v1 : Int32) (v2 : Int32) (hg : g ≤ 10) (hno : (∀ j : Nat, j < 2 * g → v1 ≠ nI j) ∨ ∀ j : Nat, j < 2 * g → v2 ≠ nI j) : vx_Met l yX0_requireWishes wsX0_requireWishes ({ frames := 6, cells := 1, slots := 6, locals := 82 }) (gcPX (dC, dI) [.ref (h 0), .int v1, .int v2] (gcW h kc f1 f2 dr cl tr se (nI g) (nI r) inf (nI ct)) (gcT kc)) (va_Qv (fun (_ : Unit) => False) (fun _ _ => True) (fun _ => False)) (vx_X (fun (_ : Unit) => True) (fun E _ _ => E = "java/lang/IndexOutOfBoundsException") (fun _ => False)) 1 6 (fun _ => False) := by
  refine vx_ofW (cc := cX0_requireWishes) (maxL := 3) (ret := none) (by decide) rfl ?_
  intro p e s m args below meth c s₁ B hml hnoex hv
  obtain ⟨rfl, hP, hK, hgX⟩ := hv
  have hx := B.exec
  have hb := B.bytes
  have hr := B.returns
  have hts := atoms_spec (ws := wsX0_requireWishes) B.pre
  have hown : s.vm.findClass RX0 = some m.cls := findClass_of_methodNamed B.named
  have hlocks := B.notSynchronized
  have hS : va_S (fun _ => False) s.heap s.heap [] := va_S.rf
  have hgl := hl
  have hP : va_P (dC, dI) vwCl (gcW h kc f1 f2 dr cl tr se (nI g) (nI r) inf (nI ct)) s.heap := hP
  have hin0 : ∀ w ∈ wsX00, w ∈ wsX0_requireWishes := by decide +kernel
  have hl := lv_entry [.ref (h 0), .int v1, .int v2] (n := 3) (Nat.le_of_ble_eq_true rfl)
  rw [lg_entry_eq]
  generalize (lg_sl [.ref (h 0), .int v1, .int v2] ++ List.replicate (3 - (lg_sl [.ref (h 0), .int v1, .int v2]).length) Slot.unset).toArray = ls at hl ⊢
  have hl : lv_has ls 3 [(0, .ref (h 0)), (1, .int v1), (2, .int v2)] := hl
  refine lv_iload_n hx hb dX0_requireWishes_0 rfl (lv_at hl 1 rfl) ?_
  refine lv_if_lt (tgt := 24) hx hb dX0_requireWishes_1 (by decide) (fun c_1 => ?_) (fun c_1 => ?_)
  · skip
    obtain ⟨sa, hstr⟩ := hgX.2.2.2.1 (169, "no such wish") (by decide)
    have hat := gcX_at (args := _) (E := "java/lang/IndexOutOfBoundsException") (ic := 171) hgX (by decide +kernel) (fun w hw => hts w (List.mem_cons_of_mem _ (List.mem_append_right _ hw)))
    exact vx_throwS hx hb hgl (own := RX0) (cls := "java/lang/IndexOutOfBoundsException") (text := "no such wish") (names := gNm) (ik := 167) (is := 169) (ic := 171) (sa := sa) (A := fun _ => False) hown (by decide +kernel) (by decide +kernel) (hts (.classLink RX0 167 "java/lang/IndexOutOfBoundsException") (by decide +kernel)) (hts (.initialized "java/lang/IndexOutOfBoundsException") (by decide +kernel)) hstr hat (by decide +kernel) hgX.2.1 hgX.2.2.1 hS (hl.1.trans hml.symm) dX0_requireWishes_24 dX0_requireWishes_27 dX0_requireWishes_28 dX0_requireWishes_30 dX0_requireWishes_33 (fun x h => (hnoex x h).elim) (Nat.le_of_ble_eq_true rfl) (Nat.le_of_ble_eq_true rfl) (Nat.le_of_ble_eq_true rfl) (Nat.le_of_ble_eq_true rfl) hlocks (fun t hvm hz hk => ⟨(), trivial, rfl, gcF hS hz hk⟩) hS.2.2 (Nat.le_of_ble_eq_true rfl) (Nat.le_of_ble_eq_true rfl)
  · skip
    refine lv_iload_n hx hb dX0_requireWishes_4 rfl (lv_at hl 1 rfl) ?_
    refine lv_aload_n hx hb dX0_requireWishes_5 rfl (lv_at hl 0 rfl) ?_
    have hPc : va_P (dC, dI) vwCl (gcW h kc f1 f2 dr cl tr se (nI g) (nI r) inf (nI ct)) _ := hP.sub [0, 1, 2, 3, 4, 5, 6] rfl
    have hKc : va_K (dC, dI) vwCl (gcT kc) s := hK.sub [0, 1, 2, 3, 4, 5] rfl
    refine va_calli (va_runV (As := []) (rest := [.int v1]) ⟨hx, hb, hml, hown, hts⟩ (c_X0_wishCount l dC dI h kc f1 f2 dr cl tr se g r inf ct) (cwV 0 hts gX0_requireWishes_X0_wishCount rfl rfl rfl (by decide +kernel) ⟨Nat.le_of_ble_eq_true rfl, Nat.le_of_ble_eq_true rfl⟩) ⟨gcPR_blind, va_recv hK hP (ci := 0) (q0 := 0) rfl rfl, fun U hU hW => ⟨rfl, by rw [hU]; exact hPc, va_K.moved hW.alike hKc⟩⟩ rfl rfl hl.1 rfl (lv_room (Nat.le_of_ble_eq_true rfl)) dX0_requireWishes_6 ⟨Nat.zero_le _, Nat.zero_le _⟩) hS (fun q _ h => h.elim) (fun q h => h.elim) (fun r1 u t H locs ht hvm hw hB hz1 hk1 hS => ?_)
    have hP := gc_keep hP hk1
    have hw : r1 = nI (2 * g) := hw
    subst hw
    clear hw
    clear hB hz1 hk1 ht hvm
    clear hPc hKc
    refine lv_icmp_ge (tgt := 24) hx hb dX0_requireWishes_9 (by decide) (fun c_9 => ?_) (fun c_9 => ?_)
    · skip
      obtain ⟨sa, hstr⟩ := hgX.2.2.2.1 (169, "no such wish") (by decide)
      have hat := gcX_at (args := _) (E := "java/lang/IndexOutOfBoundsException") (ic := 171) hgX (by decide +kernel) (fun w hw => hts w (List.mem_cons_of_mem _ (List.mem_append_right _ hw)))
      exact vx_throwS hx hb hgl (own := RX0) (cls := "java/lang/IndexOutOfBoundsException") (text := "no such wish") (names := gNm) (ik := 167) (is := 169) (ic := 171) (sa := sa) (A := fun _ => False) hown (by decide +kernel) (by decide +kernel) (hts (.classLink RX0 167 "java/lang/IndexOutOfBoundsException") (by decide +kernel)) (hts (.initialized "java/lang/IndexOutOfBoundsException") (by decide +kernel)) hstr hat (by decide +kernel) hgX.2.1 hgX.2.2.1 hS (hl.1.trans hml.symm) dX0_requireWishes_24 dX0_requireWishes_27 dX0_requireWishes_28 dX0_requireWishes_30 dX0_requireWishes_33 (fun x h => (hnoex x h).elim) (Nat.le_of_ble_eq_true rfl) (Nat.le_of_ble_eq_true rfl) (Nat.le_of_ble_eq_true rfl) (Nat.le_of_ble_eq_true rfl) hlocks (fun t hvm hz hk => ⟨(), trivial, rfl, gcF hS hz hk⟩) hS.2.2 (Nat.le_of_ble_eq_true rfl) (Nat.le_of_ble_eq_true rfl)
    · skip
      refine lv_iload_n hx hb dX0_requireWishes_12 rfl (lv_at hl 2 rfl) ?_
      refine lv_if_lt (tgt := 24) hx hb dX0_requireWishes_13 (by decide) (fun c_13 => ?_) (fun c_13 => ?_)
      · skip
        obtain ⟨sa, hstr⟩ := hgX.2.2.2.1 (169, "no such wish") (by decide)
        have hat := gcX_at (args := _) (E := "java/lang/IndexOutOfBoundsException") (ic := 171) hgX (by decide +kernel) (fun w hw => hts w (List.mem_cons_of_mem _ (List.mem_append_right _ hw)))
        exact vx_throwS hx hb hgl (own := RX0) (cls := "java/lang/IndexOutOfBoundsException") (text := "no such wish") (names := gNm) (ik := 167) (is := 169) (ic := 171) (sa := sa) (A := fun _ => False) hown (by decide +kernel) (by decide +kernel) (hts (.classLink RX0 167 "java/lang/IndexOutOfBoundsException") (by decide +kernel)) (hts (.initialized "java/lang/IndexOutOfBoundsException") (by decide +kernel)) hstr hat (by decide +kernel) hgX.2.1 hgX.2.2.1 hS (hl.1.trans hml.symm) dX0_requireWishes_24 dX0_requireWishes_27 dX0_requireWishes_28 dX0_requireWishes_30 dX0_requireWishes_33 (fun x h => (hnoex x h).elim) (Nat.le_of_ble_eq_true rfl) (Nat.le_of_ble_eq_true rfl) (Nat.le_of_ble_eq_true rfl) (Nat.le_of_ble_eq_true rfl) hlocks (fun t hvm hz hk => ⟨(), trivial, rfl, gcF hS hz hk⟩) hS.2.2 (Nat.le_of_ble_eq_true rfl) (Nat.le_of_ble_eq_true rfl)
      · skip
        refine lv_iload_n hx hb dX0_requireWishes_16 rfl (lv_at hl 2 rfl) ?_
        refine lv_aload_n hx hb dX0_requireWishes_17 rfl (lv_at hl 0 rfl) ?_
        have hPc : va_P (dC, dI) vwCl (gcW h kc f1 f2 dr cl tr se (nI g) (nI r) inf (nI ct)) _ := hP.sub [0, 1, 2, 3, 4, 5, 6] rfl
        have hKc : va_K (dC, dI) vwCl (gcT kc) s := hK.sub [0, 1, 2, 3, 4, 5] rfl
        refine va_calli (va_runV (As := []) (rest := [.int v2]) ⟨hx, hb, hml, hown, hts⟩ (c_X0_wishCount l dC dI h kc f1 f2 dr cl tr se g r inf ct) (cwV 0 hts gX0_requireWishes_X0_wishCount rfl rfl rfl (by decide +kernel) ⟨Nat.le_of_ble_eq_true rfl, Nat.le_of_ble_eq_true rfl⟩) ⟨gcPR_blind, va_recv hK hP (ci := 0) (q0 := 0) rfl rfl, fun U hU hW => ⟨rfl, by rw [hU]; exact hPc, va_K.moved hW.alike hKc⟩⟩ rfl rfl hl.1 rfl (lv_room (Nat.le_of_ble_eq_true rfl)) dX0_requireWishes_18 ⟨Nat.zero_le _, Nat.zero_le _⟩) hS (fun q _ h => h.elim) (fun q h => h.elim) (fun r2 u t H locs ht hvm hw hB hz1 hk1 hS => ?_)
        have hP := gc_keep hP hk1
        have hw : r2 = nI (2 * g) := hw
        subst hw
        clear hw
        clear hB hz1 hk1 ht hvm
        clear hPc hKc
        refine lv_icmp_lt (tgt := 34) hx hb dX0_requireWishes_21 (by decide) (fun c_21 => ?_) (fun c_21 => ?_)
        · skip
          exact (hno.elim (fun q => gc_bad (by omega) q c_1 c_9) (fun q => gc_bad (by omega) q c_13 (Int32.not_le.mpr c_21))).elim
        · skip
          obtain ⟨sa, hstr⟩ := hgX.2.2.2.1 (169, "no such wish") (by decide)
          have hat := gcX_at (args := _) (E := "java/lang/IndexOutOfBoundsException") (ic := 171) hgX (by decide +kernel) (fun w hw => hts w (List.mem_cons_of_mem _ (List.mem_append_right _ hw)))
          exact vx_throwS hx hb hgl (own := RX0) (cls := "java/lang/IndexOutOfBoundsException") (text := "no such wish") (names := gNm) (ik := 167) (is := 169) (ic := 171) (sa := sa) (A := fun _ => False) hown (by decide +kernel) (by decide +kernel) (hts (.classLink RX0 167 "java/lang/IndexOutOfBoundsException") (by decide +kernel)) (hts (.initialized "java/lang/IndexOutOfBoundsException") (by decide +kernel)) hstr hat (by decide +kernel) hgX.2.1 hgX.2.2.1 hS (hl.1.trans hml.symm) dX0_requireWishes_24 dX0_requireWishes_27 dX0_requireWishes_28 dX0_requireWishes_30 dX0_requireWishes_33 (fun x h => (hnoex x h).elim) (Nat.le_of_ble_eq_true rfl) (Nat.le_of_ble_eq_true rfl) (Nat.le_of_ble_eq_true rfl) (Nat.le_of_ble_eq_true rfl) hlocks (fun t hvm hz hk => ⟨(), trivial, rfl, gcF hS hz hk⟩) hS.2.2 (Nat.le_of_ble_eq_true rfl) (Nat.le_of_ble_eq_true rfl)
set_option maxHeartbeats 4000000 in
set_option maxRecDepth 100000 in
theorem x_X0_requireGuest (l : Launch) (hl : l.stackTraces = false) (dC : Nat → ClassId) (dI : Nat → Nat → Nat) (h : Nat → Nat) (kc : Nat → ClassId) (f1 : Nat → Int32) (f2 : Nat → Int32) (dr : Nat → Int32) (cl : Nat → Int32) (tr : Nat → Int32) (se : Nat → Int32) (g : Nat) (r : Nat) (inf : Int32) (ct : Nat) (v : Int32) (hg : g ≤ 10) (hno : ∀ j : Nat, j < g → v ≠ nI j) : vx_Met l yX0_requireGuest wsX0_requireGuest ({ frames := 6, cells := 1, slots := 6, locals := 82 }) (gcPX (dC, dI) [.ref (h 0), .int v] (gcW h kc f1 f2 dr cl tr se (nI g) (nI r) inf (nI ct)) (gcT kc)) (va_Qv (fun (_ : Unit) => False) (fun _ _ => True) (fun _ => False)) (vx_X (fun (_ : Unit) => True) (fun E _ _ => E = "java/lang/IndexOutOfBoundsException") (fun _ => False)) 1 6 (fun _ => False) := by
  refine vx_ofW (cc := cX0_requireGuest) (maxL := 2) (ret := none) (by decide) rfl ?_
  intro p e s m args below meth c s₁ B hml hnoex hv
  obtain ⟨rfl, hP, hK, hgX⟩ := hv
  have hx := B.exec
  have hb := B.bytes
  have hr := B.returns
  have hts := atoms_spec (ws := wsX0_requireGuest) B.pre
  have hown : s.vm.findClass RX0 = some m.cls := findClass_of_methodNamed B.named
  have hlocks := B.notSynchronized
  have hS : va_S (fun _ => False) s.heap s.heap [] := va_S.rf
  have hgl := hl
  have hP : va_P (dC, dI) vwCl (gcW h kc f1 f2 dr cl tr se (nI g) (nI r) inf (nI ct)) s.heap := hP
  have hin0 : ∀ w ∈ wsX00, w ∈ wsX0_requireGuest := by decide +kernel
  have hl := lv_entry [.ref (h 0), .int v] (n := 2) (Nat.le_of_ble_eq_true rfl)
  rw [lg_entry_eq]
  generalize (lg_sl [.ref (h 0), .int v] ++ List.replicate (2 - (lg_sl [.ref (h 0), .int v]).length) Slot.unset).toArray = ls at hl ⊢
  have hl : lv_has ls 2 [(0, .ref (h 0)), (1, .int v)] := hl
  refine lv_iload_n hx hb dX0_requireGuest_0 rfl (lv_at hl 1 rfl) ?_
  refine lv_if_lt (tgt := 12) hx hb dX0_requireGuest_1 (by decide) (fun c_1 => ?_) (fun c_1 => ?_)
  · skip
    obtain ⟨sa, hstr⟩ := hgX.2.2.2.1 (172, "no such guest") (by decide)
    have hat := gcX_at (args := _) (E := "java/lang/IndexOutOfBoundsException") (ic := 171) hgX (by decide +kernel) (fun w hw => hts w (List.mem_cons_of_mem _ (List.mem_append_right _ hw)))
    exact vx_throwS hx hb hgl (own := RX0) (cls := "java/lang/IndexOutOfBoundsException") (text := "no such guest") (names := gNm) (ik := 167) (is := 172) (ic := 171) (sa := sa) (A := fun _ => False) hown (by decide +kernel) (by decide +kernel) (hts (.classLink RX0 167 "java/lang/IndexOutOfBoundsException") (by decide +kernel)) (hts (.initialized "java/lang/IndexOutOfBoundsException") (by decide +kernel)) hstr hat (by decide +kernel) hgX.2.1 hgX.2.2.1 hS (hl.1.trans hml.symm) dX0_requireGuest_12 dX0_requireGuest_15 dX0_requireGuest_16 dX0_requireGuest_18 dX0_requireGuest_21 (fun x h => (hnoex x h).elim) (Nat.le_of_ble_eq_true rfl) (Nat.le_of_ble_eq_true rfl) (Nat.le_of_ble_eq_true rfl) (Nat.le_of_ble_eq_true rfl) hlocks (fun t hvm hz hk => ⟨(), trivial, rfl, gcF hS hz hk⟩) hS.2.2 (Nat.le_of_ble_eq_true rfl) (Nat.le_of_ble_eq_true rfl)
  · skip
    refine lv_iload_n hx hb dX0_requireGuest_4 rfl (lv_at hl 1 rfl) ?_
    refine lv_aload_n hx hb dX0_requireGuest_5 rfl (lv_at hl 0 rfl) ?_
    refine va_get (D := (dC, dI)) (ci := 0) (v := .int (nI g)) (C := RX0) (T := TX0) (N := 10) hx hb hts hin0 hown hK hP 0 rfl rfl 6 (by decide) (hts (.fieldLink RX0 31 "GuestChairs" "guestCount" "I") (by decide +kernel)) (fun _ h9 => h9) rfl dX0_requireGuest_6 ?_
    refine lv_icmp_lt (tgt := 22) hx hb dX0_requireGuest_9 (by decide) (fun c_9 => ?_) (fun c_9 => ?_)
    · skip
      exact (gc_bad (by omega) hno c_1 (Int32.not_le.mpr c_9)).elim
    · skip
      obtain ⟨sa, hstr⟩ := hgX.2.2.2.1 (172, "no such guest") (by decide)
      have hat := gcX_at (args := _) (E := "java/lang/IndexOutOfBoundsException") (ic := 171) hgX (by decide +kernel) (fun w hw => hts w (List.mem_cons_of_mem _ (List.mem_append_right _ hw)))
      exact vx_throwS hx hb hgl (own := RX0) (cls := "java/lang/IndexOutOfBoundsException") (text := "no such guest") (names := gNm) (ik := 167) (is := 172) (ic := 171) (sa := sa) (A := fun _ => False) hown (by decide +kernel) (by decide +kernel) (hts (.classLink RX0 167 "java/lang/IndexOutOfBoundsException") (by decide +kernel)) (hts (.initialized "java/lang/IndexOutOfBoundsException") (by decide +kernel)) hstr hat (by decide +kernel) hgX.2.1 hgX.2.2.1 hS (hl.1.trans hml.symm) dX0_requireGuest_12 dX0_requireGuest_15 dX0_requireGuest_16 dX0_requireGuest_18 dX0_requireGuest_21 (fun x h => (hnoex x h).elim) (Nat.le_of_ble_eq_true rfl) (Nat.le_of_ble_eq_true rfl) (Nat.le_of_ble_eq_true rfl) (Nat.le_of_ble_eq_true rfl) hlocks (fun t hvm hz hk => ⟨(), trivial, rfl, gcF hS hz hk⟩) hS.2.2 (Nat.le_of_ble_eq_true rfl) (Nat.le_of_ble_eq_true rfl)
set_option maxHeartbeats 4000000 in
set_option maxRecDepth 100000 in
theorem x_X0_requireRule (l : Launch) (hl : l.stackTraces = false) (dC : Nat → ClassId) (dI : Nat → Nat → Nat) (h : Nat → Nat) (kc : Nat → ClassId) (f1 : Nat → Int32) (f2 : Nat → Int32) (dr : Nat → Int32) (cl : Nat → Int32) (tr : Nat → Int32) (se : Nat → Int32) (g : Nat) (r : Nat) (inf : Int32) (ct : Nat) (v : Int32) (hr30 : r ≤ 30) (hno : ∀ j : Nat, j < r → v ≠ nI j) : vx_Met l yX0_requireRule wsX0_requireRule ({ frames := 6, cells := 1, slots := 6, locals := 82 }) (gcPX (dC, dI) [.ref (h 0), .int v] (gcW h kc f1 f2 dr cl tr se (nI g) (nI r) inf (nI ct)) (gcT kc)) (va_Qv (fun (_ : Unit) => False) (fun _ _ => True) (fun _ => False)) (vx_X (fun (_ : Unit) => True) (fun E _ _ => E = "java/lang/IndexOutOfBoundsException") (fun _ => False)) 1 6 (fun _ => False) := by
  refine vx_ofW (cc := cX0_requireRule) (maxL := 2) (ret := none) (by decide) rfl ?_
  intro p e s m args below meth c s₁ B hml hnoex hv
  obtain ⟨rfl, hP, hK, hgX⟩ := hv
  have hx := B.exec
  have hb := B.bytes
  have hr := B.returns
  have hts := atoms_spec (ws := wsX0_requireRule) B.pre
  have hown : s.vm.findClass RX0 = some m.cls := findClass_of_methodNamed B.named
  have hlocks := B.notSynchronized
  have hS : va_S (fun _ => False) s.heap s.heap [] := va_S.rf
  have hgl := hl
  have hP : va_P (dC, dI) vwCl (gcW h kc f1 f2 dr cl tr se (nI g) (nI r) inf (nI ct)) s.heap := hP
  have hin0 : ∀ w ∈ wsX00, w ∈ wsX0_requireRule := by decide +kernel
  have hl := lv_entry [.ref (h 0), .int v] (n := 2) (Nat.le_of_ble_eq_true rfl)
  rw [lg_entry_eq]
  generalize (lg_sl [.ref (h 0), .int v] ++ List.replicate (2 - (lg_sl [.ref (h 0), .int v]).length) Slot.unset).toArray = ls at hl ⊢
  have hl : lv_has ls 2 [(0, .ref (h 0)), (1, .int v)] := hl
  refine lv_iload_n hx hb dX0_requireRule_0 rfl (lv_at hl 1 rfl) ?_
  refine lv_if_lt (tgt := 12) hx hb dX0_requireRule_1 (by decide) (fun c_1 => ?_) (fun c_1 => ?_)
  · skip
    obtain ⟨sa, hstr⟩ := hgX.2.2.2.1 (174, "no such rule") (by decide)
    have hat := gcX_at (args := _) (E := "java/lang/IndexOutOfBoundsException") (ic := 171) hgX (by decide +kernel) (fun w hw => hts w (List.mem_cons_of_mem _ (List.mem_append_right _ hw)))
    exact vx_throwS hx hb hgl (own := RX0) (cls := "java/lang/IndexOutOfBoundsException") (text := "no such rule") (names := gNm) (ik := 167) (is := 174) (ic := 171) (sa := sa) (A := fun _ => False) hown (by decide +kernel) (by decide +kernel) (hts (.classLink RX0 167 "java/lang/IndexOutOfBoundsException") (by decide +kernel)) (hts (.initialized "java/lang/IndexOutOfBoundsException") (by decide +kernel)) hstr hat (by decide +kernel) hgX.2.1 hgX.2.2.1 hS (hl.1.trans hml.symm) dX0_requireRule_12 dX0_requireRule_15 dX0_requireRule_16 dX0_requireRule_18 dX0_requireRule_21 (fun x h => (hnoex x h).elim) (Nat.le_of_ble_eq_true rfl) (Nat.le_of_ble_eq_true rfl) (Nat.le_of_ble_eq_true rfl) (Nat.le_of_ble_eq_true rfl) hlocks (fun t hvm hz hk => ⟨(), trivial, rfl, gcF hS hz hk⟩) hS.2.2 (Nat.le_of_ble_eq_true rfl) (Nat.le_of_ble_eq_true rfl)
  · skip
    refine lv_iload_n hx hb dX0_requireRule_4 rfl (lv_at hl 1 rfl) ?_
    refine lv_aload_n hx hb dX0_requireRule_5 rfl (lv_at hl 0 rfl) ?_
    refine va_get (D := (dC, dI)) (ci := 0) (v := .int (nI r)) (C := RX0) (T := TX0) (N := 10) hx hb hts hin0 hown hK hP 0 rfl rfl 7 (by decide) (hts (.fieldLink RX0 51 "GuestChairs" "ruleCount" "I") (by decide +kernel)) (fun _ h9 => h9) rfl dX0_requireRule_6 ?_
    refine lv_icmp_lt (tgt := 22) hx hb dX0_requireRule_9 (by decide) (fun c_9 => ?_) (fun c_9 => ?_)
    · skip
      exact (gc_bad (by omega) hno c_1 (Int32.not_le.mpr c_9)).elim
    · skip
      obtain ⟨sa, hstr⟩ := hgX.2.2.2.1 (174, "no such rule") (by decide)
      have hat := gcX_at (args := _) (E := "java/lang/IndexOutOfBoundsException") (ic := 171) hgX (by decide +kernel) (fun w hw => hts w (List.mem_cons_of_mem _ (List.mem_append_right _ hw)))
      exact vx_throwS hx hb hgl (own := RX0) (cls := "java/lang/IndexOutOfBoundsException") (text := "no such rule") (names := gNm) (ik := 167) (is := 174) (ic := 171) (sa := sa) (A := fun _ => False) hown (by decide +kernel) (by decide +kernel) (hts (.classLink RX0 167 "java/lang/IndexOutOfBoundsException") (by decide +kernel)) (hts (.initialized "java/lang/IndexOutOfBoundsException") (by decide +kernel)) hstr hat (by decide +kernel) hgX.2.1 hgX.2.2.1 hS (hl.1.trans hml.symm) dX0_requireRule_12 dX0_requireRule_15 dX0_requireRule_16 dX0_requireRule_18 dX0_requireRule_21 (fun x h => (hnoex x h).elim) (Nat.le_of_ble_eq_true rfl) (Nat.le_of_ble_eq_true rfl) (Nat.le_of_ble_eq_true rfl) (Nat.le_of_ble_eq_true rfl) hlocks (fun t hvm hz hk => ⟨(), trivial, rfl, gcF hS hz hk⟩) hS.2.2 (Nat.le_of_ble_eq_true rfl) (Nat.le_of_ble_eq_true rfl)
set_option maxHeartbeats 4000000 in
set_option maxRecDepth 100000 in
theorem x_X0_follows (l : Launch) (hl : l.stackTraces = false) (dC : Nat → ClassId) (dI : Nat → Nat → Nat) (h : Nat → Nat) (kc : Nat → ClassId) (f1 : Nat → Int32) (f2 : Nat → Int32) (dr : Nat → Int32) (cl : Nat → Int32) (tr : Nat → Int32) (se : Nat → Int32) (g : Nat) (r : Nat) (inf : Int32) (ct : Nat) (v1 : Int32) (v2 : Int32) (hg : g ≤ 10) (hno : (∀ j : Nat, j < 2 * g → v1 ≠ nI j) ∨ ∀ j : Nat, j < 2 * g → v2 ≠ nI j) : vx_Met l yX0_follows wsX0_follows ({ frames := 7, cells := 1, slots := 6, locals := 104 }) (gcPX (dC, dI) [.ref (h 0), .int v1, .int v2] (gcW h kc f1 f2 dr cl tr se (nI g) (nI r) inf (nI ct)) (gcT kc)) (va_Qi (fun (_ : Int32) (_ : Unit) => False) (fun _ _ => True) (fun _ => False)) (vx_X (fun (_ : Unit) => True) (fun E _ _ => E = "java/lang/IndexOutOfBoundsException") (fun _ => False)) 1 6 (fun _ => False) := by
  refine vx_ofW (cc := cX0_follows) (maxL := 3) (ret := (some .boolean)) (by decide) rfl ?_
  intro p e s m args below meth c s₁ B hml hnoex hv
  obtain ⟨rfl, hP, hK, hgX⟩ := hv
  have hx := B.exec
  have hb := B.bytes
  have hr := B.returns
  have hts := atoms_spec (ws := wsX0_follows) B.pre
  have hown : s.vm.findClass RX0 = some m.cls := findClass_of_methodNamed B.named
  have hlocks := B.notSynchronized
  have hS : va_S (fun _ => False) s.heap s.heap [] := va_S.rf
  have hgl := hl
  have hP : va_P (dC, dI) vwCl (gcW h kc f1 f2 dr cl tr se (nI g) (nI r) inf (nI ct)) s.heap := hP
  have hin0 : ∀ w ∈ wsX00, w ∈ wsX0_follows := by decide +kernel
  have hl := lv_entry [.ref (h 0), .int v1, .int v2] (n := 3) (Nat.le_of_ble_eq_true rfl)
  rw [lg_entry_eq]
  generalize (lg_sl [.ref (h 0), .int v1, .int v2] ++ List.replicate (3 - (lg_sl [.ref (h 0), .int v1, .int v2]).length) Slot.unset).toArray = ls at hl ⊢
  have hl : lv_has ls 3 [(0, .ref (h 0)), (1, .int v1), (2, .int v2)] := hl
  refine lv_aload_n hx hb dX0_follows_0 rfl (lv_at hl 0 rfl) ?_
  refine lv_iload_n hx hb dX0_follows_1 rfl (lv_at hl 1 rfl) ?_
  refine lv_iload_n hx hb dX0_follows_2 rfl (lv_at hl 2 rfl) ?_
  have hPc : va_P (dC, dI) vwCl (gcW h kc f1 f2 dr cl tr se (nI g) (nI r) inf (nI ct)) _ := hP.sub [0, 1, 2, 3, 4, 5, 6] rfl
  have hKc : va_K (dC, dI) vwCl (gcT kc) s := hK.sub [0, 1, 2, 3, 4, 5] rfl
  refine vx_callv (vx_runV (As := [.int v1, .int v2]) (rest := []) ⟨hx, hb, hml, hown, hts⟩ (x_X0_requireWishes l hgl dC dI h kc f1 f2 dr cl tr se g r inf ct v1 v2 (by first | assumption | omega) (by first | assumption | omega)) (cwV 2 hts gX0_follows_X0_requireWishes rfl rfl rfl (by decide +kernel) ⟨Nat.le_of_ble_eq_true rfl, Nat.le_of_ble_eq_true rfl⟩) ⟨gcPX_blind, va_recv hK hP (ci := 0) (q0 := 0) rfl rfl, fun U hU hW => ⟨rfl, by rw [hU]; exact hPc, va_K.moved hW.alike hKc, gcX_go hgX hW (fun a ha => by rw [hU] <;> first | rfl | exact hS.2.1 a ha id)⟩⟩ rfl rfl hl.1 rfl (lv_room (Nat.le_of_ble_eq_true rfl)) dX0_follows_3 ⟨Nat.le_of_ble_eq_true rfl, Nat.le_of_ble_eq_true rfl⟩) hS (fun q _ h => h.elim) (fun q h => h.elim) (fun q _ h => h.elim) (fun E ce q9 u t H locs ht hvm hpx hBX hz1 hk1 hS hce hcv hcl => ?_) (fun u t H locs ht hvm hw hB hz1 hk1 hS => hw.elim)
  exact vx_out (fun x h => (hnoex x h).elim) hlocks hce hcv hcl (fun t ht hvm => ⟨(), trivial, hBX, hS.F ht⟩) hS.2.2 (Nat.le_of_ble_eq_true rfl) (Nat.le_of_ble_eq_true rfl)
set_option maxHeartbeats 4000000 in
set_option maxRecDepth 100000 in
theorem x_X0_steps (l : Launch) (hl : l.stackTraces = false) (dC : Nat → ClassId) (dI : Nat → Nat → Nat) (h : Nat → Nat) (kc : Nat → ClassId) (f1 : Nat → Int32) (f2 : Nat → Int32) (dr : Nat → Int32) (cl : Nat → Int32) (tr : Nat → Int32) (se : Nat → Int32) (g : Nat) (r : Nat) (inf : Int32) (ct : Nat) (v1 : Int32) (v2 : Int32) (hg : g ≤ 10) (hno : (∀ j : Nat, j < 2 * g → v1 ≠ nI j) ∨ ∀ j : Nat, j < 2 * g → v2 ≠ nI j) : vx_Met l yX0_steps wsX0_steps ({ frames := 7, cells := 1, slots := 6, locals := 104 }) (gcPX (dC, dI) [.ref (h 0), .int v1, .int v2] (gcW h kc f1 f2 dr cl tr se (nI g) (nI r) inf (nI ct)) (gcT kc)) (va_Qi (fun (_ : Int32) (_ : Unit) => False) (fun _ _ => True) (fun _ => False)) (vx_X (fun (_ : Unit) => True) (fun E _ _ => E = "java/lang/IndexOutOfBoundsException") (fun _ => False)) 1 6 (fun _ => False) := by
  refine vx_ofW (cc := cX0_steps) (maxL := 5) (ret := (some .int)) (by decide) rfl ?_
  intro p e s m args below meth c s₁ B hml hnoex hv
  obtain ⟨rfl, hP, hK, hgX⟩ := hv
  have hx := B.exec
  have hb := B.bytes
  have hr := B.returns
  have hts := atoms_spec (ws := wsX0_steps) B.pre
  have hown : s.vm.findClass RX0 = some m.cls := findClass_of_methodNamed B.named
  have hlocks := B.notSynchronized
  have hS : va_S (fun _ => False) s.heap s.heap [] := va_S.rf
  have hgl := hl
  have hP : va_P (dC, dI) vwCl (gcW h kc f1 f2 dr cl tr se (nI g) (nI r) inf (nI ct)) s.heap := hP
  have hin0 : ∀ w ∈ wsX00, w ∈ wsX0_steps := by decide +kernel
  have hl := lv_entry [.ref (h 0), .int v1, .int v2] (n := 5) (Nat.le_of_ble_eq_true rfl)
  rw [lg_entry_eq]
  generalize (lg_sl [.ref (h 0), .int v1, .int v2] ++ List.replicate (5 - (lg_sl [.ref (h 0), .int v1, .int v2]).length) Slot.unset).toArray = ls at hl ⊢
  have hl : lv_has ls 5 [(0, .ref (h 0)), (1, .int v1), (2, .int v2)] := hl
  refine lv_aload_n hx hb dX0_steps_0 rfl (lv_at hl 0 rfl) ?_
  refine lv_iload_n hx hb dX0_steps_1 rfl (lv_at hl 1 rfl) ?_
  refine lv_iload_n hx hb dX0_steps_2 rfl (lv_at hl 2 rfl) ?_
  have hPc : va_P (dC, dI) vwCl (gcW h kc f1 f2 dr cl tr se (nI g) (nI r) inf (nI ct)) _ := hP.sub [0, 1, 2, 3, 4, 5, 6] rfl
  have hKc : va_K (dC, dI) vwCl (gcT kc) s := hK.sub [0, 1, 2, 3, 4, 5] rfl
  refine vx_callv (vx_runV (As := [.int v1, .int v2]) (rest := []) ⟨hx, hb, hml, hown, hts⟩ (x_X0_requireWishes l hgl dC dI h kc f1 f2 dr cl tr se g r inf ct v1 v2 (by first | assumption | omega) (by first | assumption | omega)) (cwV 2 hts gX0_steps_X0_requireWishes rfl rfl rfl (by decide +kernel) ⟨Nat.le_of_ble_eq_true rfl, Nat.le_of_ble_eq_true rfl⟩) ⟨gcPX_blind, va_recv hK hP (ci := 0) (q0 := 0) rfl rfl, fun U hU hW => ⟨rfl, by rw [hU]; exact hPc, va_K.moved hW.alike hKc, gcX_go hgX hW (fun a ha => by rw [hU] <;> first | rfl | exact hS.2.1 a ha id)⟩⟩ rfl rfl hl.1 rfl (lv_room (Nat.le_of_ble_eq_true rfl)) dX0_steps_3 ⟨Nat.le_of_ble_eq_true rfl, Nat.le_of_ble_eq_true rfl⟩) hS (fun q _ h => h.elim) (fun q h => h.elim) (fun q _ h => h.elim) (fun E ce q9 u t H locs ht hvm hpx hBX hz1 hk1 hS hce hcv hcl => ?_) (fun u t H locs ht hvm hw hB hz1 hk1 hS => hw.elim)
  exact vx_out (fun x h => (hnoex x h).elim) hlocks hce hcv hcl (fun t ht hvm => ⟨(), trivial, hBX, hS.F ht⟩) hS.2.2 (Nat.le_of_ble_eq_true rfl) (Nat.le_of_ble_eq_true rfl)
set_option maxHeartbeats 4000000 in
set_option maxRecDepth 100000 in
theorem x_X0_tightens (l : Launch) (hl : l.stackTraces = false) (dC : Nat → ClassId) (dI : Nat → Nat → Nat) (h : Nat → Nat) (kc : Nat → ClassId) (f1 : Nat → Int32) (f2 : Nat → Int32) (dr : Nat → Int32) (cl : Nat → Int32) (tr : Nat → Int32) (se : Nat → Int32) (g : Nat) (r : Nat) (inf : Int32) (ct : Nat) (v1 : Int32) (v2 : Int32) (hg : g ≤ 10) (hno : (∀ j : Nat, j < 2 * g → v1 ≠ nI j) ∨ ∀ j : Nat, j < 2 * g → v2 ≠ nI j) : vx_Met l yX0_tightens wsX0_tightens ({ frames := 7, cells := 1, slots := 6, locals := 104 }) (gcPX (dC, dI) [.ref (h 0), .int v1, .int v2] (gcW h kc f1 f2 dr cl tr se (nI g) (nI r) inf (nI ct)) (gcT kc)) (va_Qi (fun (_ : Int32) (_ : Unit) => False) (fun _ _ => True) (fun _ => False)) (vx_X (fun (_ : Unit) => True) (fun E _ _ => E = "java/lang/IndexOutOfBoundsException") (fun _ => False)) 1 6 (fun _ => False) := by
  refine vx_ofW (cc := cX0_tightens) (maxL := 6) (ret := (some .int)) (by decide) rfl ?_
  intro p e s m args below meth c s₁ B hml hnoex hv
  obtain ⟨rfl, hP, hK, hgX⟩ := hv
  have hx := B.exec
  have hb := B.bytes
  have hr := B.returns
  have hts := atoms_spec (ws := wsX0_tightens) B.pre
  have hown : s.vm.findClass RX0 = some m.cls := findClass_of_methodNamed B.named
  have hlocks := B.notSynchronized
  have hS : va_S (fun _ => False) s.heap s.heap [] := va_S.rf
  have hgl := hl
  have hP : va_P (dC, dI) vwCl (gcW h kc f1 f2 dr cl tr se (nI g) (nI r) inf (nI ct)) s.heap := hP
  have hin0 : ∀ w ∈ wsX00, w ∈ wsX0_tightens := by decide +kernel
  have hl := lv_entry [.ref (h 0), .int v1, .int v2] (n := 6) (Nat.le_of_ble_eq_true rfl)
  rw [lg_entry_eq]
  generalize (lg_sl [.ref (h 0), .int v1, .int v2] ++ List.replicate (6 - (lg_sl [.ref (h 0), .int v1, .int v2]).length) Slot.unset).toArray = ls at hl ⊢
  have hl : lv_has ls 6 [(0, .ref (h 0)), (1, .int v1), (2, .int v2)] := hl
  refine lv_aload_n hx hb dX0_tightens_0 rfl (lv_at hl 0 rfl) ?_
  refine lv_iload_n hx hb dX0_tightens_1 rfl (lv_at hl 1 rfl) ?_
  refine lv_iload_n hx hb dX0_tightens_2 rfl (lv_at hl 2 rfl) ?_
  have hPc : va_P (dC, dI) vwCl (gcW h kc f1 f2 dr cl tr se (nI g) (nI r) inf (nI ct)) _ := hP.sub [0, 1, 2, 3, 4, 5, 6] rfl
  have hKc : va_K (dC, dI) vwCl (gcT kc) s := hK.sub [0, 1, 2, 3, 4, 5] rfl
  refine vx_callv (vx_runV (As := [.int v1, .int v2]) (rest := []) ⟨hx, hb, hml, hown, hts⟩ (x_X0_requireWishes l hgl dC dI h kc f1 f2 dr cl tr se g r inf ct v1 v2 (by first | assumption | omega) (by first | assumption | omega)) (cwV 2 hts gX0_tightens_X0_requireWishes rfl rfl rfl (by decide +kernel) ⟨Nat.le_of_ble_eq_true rfl, Nat.le_of_ble_eq_true rfl⟩) ⟨gcPX_blind, va_recv hK hP (ci := 0) (q0 := 0) rfl rfl, fun U hU hW => ⟨rfl, by rw [hU]; exact hPc, va_K.moved hW.alike hKc, gcX_go hgX hW (fun a ha => by rw [hU] <;> first | rfl | exact hS.2.1 a ha id)⟩⟩ rfl rfl hl.1 rfl (lv_room (Nat.le_of_ble_eq_true rfl)) dX0_tightens_3 ⟨Nat.le_of_ble_eq_true rfl, Nat.le_of_ble_eq_true rfl⟩) hS (fun q _ h => h.elim) (fun q h => h.elim) (fun q _ h => h.elim) (fun E ce q9 u t H locs ht hvm hpx hBX hz1 hk1 hS hce hcv hcl => ?_) (fun u t H locs ht hvm hw hB hz1 hk1 hS => hw.elim)
  exact vx_out (fun x h => (hnoex x h).elim) hlocks hce hcv hcl (fun t ht hvm => ⟨(), trivial, hBX, hS.F ht⟩) hS.2.2 (Nat.le_of_ble_eq_true rfl) (Nat.le_of_ble_eq_true rfl)
set_option maxHeartbeats 4000000 in
set_option maxRecDepth 100000 in
theorem x_X0_rule (l : Launch) (hl : l.stackTraces = false) (dC : Nat → ClassId) (dI : Nat → Nat → Nat) (h : Nat → Nat) (kc : Nat → ClassId) (f1 : Nat → Int32) (f2 : Nat → Int32) (dr : Nat → Int32) (cl : Nat → Int32) (tr : Nat → Int32) (se : Nat → Int32) (g : Nat) (r : Nat) (inf : Int32) (ct : Nat) (v1 : Int32) (v2 : Int32) (hg : g ≤ 10) (hno : (∀ j : Nat, j < 2 * g → v1 ≠ nI j) ∨ ∀ j : Nat, j < 2 * g → v2 ≠ nI j) : vx_Met l yX0_rule wsX0_rule ({ frames := 7, cells := 1, slots := 6, locals := 104 }) (gcPX (dC, dI) [.ref (h 0), .int v1, .int v2] (gcW h kc f1 f2 dr cl tr se (nI g) (nI r) inf (nI ct)) (gcT kc)) (va_Qi (fun (_ : Int32) (_ : Unit) => False) (fun _ _ => True) (fun _ => False)) (vx_X (fun (_ : Unit) => True) (fun E _ _ => E = "java/lang/IndexOutOfBoundsException") (fun _ => False)) 1 6 (fun _ => False) := by
  refine vx_ofW (cc := cX0_rule) (maxL := 4) (ret := (some .int)) (by decide) rfl ?_
  intro p e s m args below meth c s₁ B hml hnoex hv
  obtain ⟨rfl, hP, hK, hgX⟩ := hv
  have hx := B.exec
  have hb := B.bytes
  have hr := B.returns
  have hts := atoms_spec (ws := wsX0_rule) B.pre
  have hown : s.vm.findClass RX0 = some m.cls := findClass_of_methodNamed B.named
  have hlocks := B.notSynchronized
  have hS : va_S (fun _ => False) s.heap s.heap [] := va_S.rf
  have hgl := hl
  have hP : va_P (dC, dI) vwCl (gcW h kc f1 f2 dr cl tr se (nI g) (nI r) inf (nI ct)) s.heap := hP
  have hin0 : ∀ w ∈ wsX00, w ∈ wsX0_rule := by decide +kernel
  have hl := lv_entry [.ref (h 0), .int v1, .int v2] (n := 4) (Nat.le_of_ble_eq_true rfl)
  rw [lg_entry_eq]
  generalize (lg_sl [.ref (h 0), .int v1, .int v2] ++ List.replicate (4 - (lg_sl [.ref (h 0), .int v1, .int v2]).length) Slot.unset).toArray = ls at hl ⊢
  have hl : lv_has ls 4 [(0, .ref (h 0)), (1, .int v1), (2, .int v2)] := hl
  refine lv_aload_n hx hb dX0_rule_0 rfl (lv_at hl 0 rfl) ?_
  refine lv_iload_n hx hb dX0_rule_1 rfl (lv_at hl 1 rfl) ?_
  refine lv_iload_n hx hb dX0_rule_2 rfl (lv_at hl 2 rfl) ?_
  have hPc : va_P (dC, dI) vwCl (gcW h kc f1 f2 dr cl tr se (nI g) (nI r) inf (nI ct)) _ := hP.sub [0, 1, 2, 3, 4, 5, 6] rfl
  have hKc : va_K (dC, dI) vwCl (gcT kc) s := hK.sub [0, 1, 2, 3, 4, 5] rfl
  refine vx_callv (vx_runV (As := [.int v1, .int v2]) (rest := []) ⟨hx, hb, hml, hown, hts⟩ (x_X0_requireWishes l hgl dC dI h kc f1 f2 dr cl tr se g r inf ct v1 v2 (by first | assumption | omega) (by first | assumption | omega)) (cwV 2 hts gX0_rule_X0_requireWishes rfl rfl rfl (by decide +kernel) ⟨Nat.le_of_ble_eq_true rfl, Nat.le_of_ble_eq_true rfl⟩) ⟨gcPX_blind, va_recv hK hP (ci := 0) (q0 := 0) rfl rfl, fun U hU hW => ⟨rfl, by rw [hU]; exact hPc, va_K.moved hW.alike hKc, gcX_go hgX hW (fun a ha => by rw [hU] <;> first | rfl | exact hS.2.1 a ha id)⟩⟩ rfl rfl hl.1 rfl (lv_room (Nat.le_of_ble_eq_true rfl)) dX0_rule_3 ⟨Nat.le_of_ble_eq_true rfl, Nat.le_of_ble_eq_true rfl⟩) hS (fun q _ h => h.elim) (fun q h => h.elim) (fun q _ h => h.elim) (fun E ce q9 u t H locs ht hvm hpx hBX hz1 hk1 hS hce hcv hcl => ?_) (fun u t H locs ht hvm hw hB hz1 hk1 hS => hw.elim)
  exact vx_out (fun x h => (hnoex x h).elim) hlocks hce hcv hcl (fun t ht hvm => ⟨(), trivial, hBX, hS.F ht⟩) hS.2.2 (Nat.le_of_ble_eq_true rfl) (Nat.le_of_ble_eq_true rfl)
set_option maxHeartbeats 4000000 in
set_option maxRecDepth 100000 in
theorem x_X0_reach (l : Launch) (hl : l.stackTraces = false) (dC : Nat → ClassId) (dI : Nat → Nat → Nat) (h : Nat → Nat) (kc : Nat → ClassId) (f1 : Nat → Int32) (f2 : Nat → Int32) (dr : Nat → Int32) (cl : Nat → Int32) (tr : Nat → Int32) (se : Nat → Int32) (g : Nat) (r : Nat) (inf : Int32) (ct : Nat) (v : Int32) (hg : g ≤ 10) (hno : ∀ j : Nat, j < 2 * g → v ≠ nI j) : vx_Met l yX0_reach wsX0_reach ({ frames := 7, cells := 1, slots := 6, locals := 104 }) (gcPX (dC, dI) [.ref (h 0), .int v] (gcW h kc f1 f2 dr cl tr se (nI g) (nI r) inf (nI ct)) (gcT kc)) (va_Qi (fun (_ : Int32) (_ : Unit) => False) (fun _ _ => True) (fun _ => False)) (vx_X (fun (_ : Unit) => True) (fun E _ _ => E = "java/lang/IndexOutOfBoundsException") (fun _ => False)) 1 6 (fun _ => False) := by
  refine vx_ofW (cc := cX0_reach) (maxL := 2) (ret := (some .int)) (by decide) rfl ?_
  intro p e s m args below meth c s₁ B hml hnoex hv
  obtain ⟨rfl, hP, hK, hgX⟩ := hv
  have hx := B.exec
  have hb := B.bytes
  have hr := B.returns
  have hts := atoms_spec (ws := wsX0_reach) B.pre
  have hown : s.vm.findClass RX0 = some m.cls := findClass_of_methodNamed B.named
  have hlocks := B.notSynchronized
  have hS : va_S (fun _ => False) s.heap s.heap [] := va_S.rf
  have hgl := hl
  have hP : va_P (dC, dI) vwCl (gcW h kc f1 f2 dr cl tr se (nI g) (nI r) inf (nI ct)) s.heap := hP
  have hin0 : ∀ w ∈ wsX00, w ∈ wsX0_reach := by decide +kernel
  have hl := lv_entry [.ref (h 0), .int v] (n := 2) (Nat.le_of_ble_eq_true rfl)
  rw [lg_entry_eq]
  generalize (lg_sl [.ref (h 0), .int v] ++ List.replicate (2 - (lg_sl [.ref (h 0), .int v]).length) Slot.unset).toArray = ls at hl ⊢
  have hl : lv_has ls 2 [(0, .ref (h 0)), (1, .int v)] := hl
  refine lv_aload_n hx hb dX0_reach_0 rfl (lv_at hl 0 rfl) ?_
  refine lv_iload_n hx hb dX0_reach_1 rfl (lv_at hl 1 rfl) ?_
  refine lv_iload_n hx hb dX0_reach_2 rfl (lv_at hl 1 rfl) ?_
  have hPc : va_P (dC, dI) vwCl (gcW h kc f1 f2 dr cl tr se (nI g) (nI r) inf (nI ct)) _ := hP.sub [0, 1, 2, 3, 4, 5, 6] rfl
  have hKc : va_K (dC, dI) vwCl (gcT kc) s := hK.sub [0, 1, 2, 3, 4, 5] rfl
  refine vx_callv (vx_runV (As := [.int v, .int v]) (rest := []) ⟨hx, hb, hml, hown, hts⟩ (x_X0_requireWishes l hgl dC dI h kc f1 f2 dr cl tr se g r inf ct v v (by first | assumption | omega) (Or.inl hno)) (cwV 2 hts gX0_reach_X0_requireWishes rfl rfl rfl (by decide +kernel) ⟨Nat.le_of_ble_eq_true rfl, Nat.le_of_ble_eq_true rfl⟩) ⟨gcPX_blind, va_recv hK hP (ci := 0) (q0 := 0) rfl rfl, fun U hU hW => ⟨rfl, by rw [hU]; exact hPc, va_K.moved hW.alike hKc, gcX_go hgX hW (fun a ha => by rw [hU] <;> first | rfl | exact hS.2.1 a ha id)⟩⟩ rfl rfl hl.1 rfl (lv_room (Nat.le_of_ble_eq_true rfl)) dX0_reach_3 ⟨Nat.le_of_ble_eq_true rfl, Nat.le_of_ble_eq_true rfl⟩) hS (fun q _ h => h.elim) (fun q h => h.elim) (fun q _ h => h.elim) (fun E ce q9 u t H locs ht hvm hpx hBX hz1 hk1 hS hce hcv hcl => ?_) (fun u t H locs ht hvm hw hB hz1 hk1 hS => hw.elim)
  exact vx_out (fun x h => (hnoex x h).elim) hlocks hce hcv hcl (fun t ht hvm => ⟨(), trivial, hBX, hS.F ht⟩) hS.2.2 (Nat.le_of_ble_eq_true rfl) (Nat.le_of_ble_eq_true rfl)
set_option maxHeartbeats 4000000 in
set_option maxRecDepth 100000 in
theorem x_X0_turn (l : Launch) (hl : l.stackTraces = false) (dC : Nat → ClassId) (dI : Nat → Nat → Nat) (h : Nat → Nat) (kc : Nat → ClassId) (f1 : Nat → Int32) (f2 : Nat → Int32) (dr : Nat → Int32) (cl : Nat → Int32) (tr : Nat → Int32) (se : Nat → Int32) (g : Nat) (r : Nat) (inf : Int32) (ct : Nat) (v : Int32) (hr30 : r ≤ 30) (hno : ∀ j : Nat, j < r → v ≠ nI j) : vx_Met l yX0_turn wsX0_turn ({ frames := 7, cells := 1, slots := 6, locals := 103 }) (gcPX (dC, dI) [.ref (h 0), .int v] (gcW h kc f1 f2 dr cl tr se (nI g) (nI r) inf (nI ct)) (gcT kc)) (va_Qi (fun (_ : Int32) (_ : Unit) => False) (fun _ _ => True) (fun _ => False)) (vx_X (fun (_ : Unit) => True) (fun E _ _ => E = "java/lang/IndexOutOfBoundsException") (fun _ => False)) 1 6 (fun _ => False) := by
  refine vx_ofW (cc := cX0_turn) (maxL := 2) (ret := (some .boolean)) (by decide) rfl ?_
  intro p e s m args below meth c s₁ B hml hnoex hv
  obtain ⟨rfl, hP, hK, hgX⟩ := hv
  have hx := B.exec
  have hb := B.bytes
  have hr := B.returns
  have hts := atoms_spec (ws := wsX0_turn) B.pre
  have hown : s.vm.findClass RX0 = some m.cls := findClass_of_methodNamed B.named
  have hlocks := B.notSynchronized
  have hS : va_S (fun _ => False) s.heap s.heap [] := va_S.rf
  have hgl := hl
  have hP : va_P (dC, dI) vwCl (gcW h kc f1 f2 dr cl tr se (nI g) (nI r) inf (nI ct)) s.heap := hP
  have hin0 : ∀ w ∈ wsX00, w ∈ wsX0_turn := by decide +kernel
  have hl := lv_entry [.ref (h 0), .int v] (n := 2) (Nat.le_of_ble_eq_true rfl)
  rw [lg_entry_eq]
  generalize (lg_sl [.ref (h 0), .int v] ++ List.replicate (2 - (lg_sl [.ref (h 0), .int v]).length) Slot.unset).toArray = ls at hl ⊢
  have hl : lv_has ls 2 [(0, .ref (h 0)), (1, .int v)] := hl
  refine lv_aload_n hx hb dX0_turn_0 rfl (lv_at hl 0 rfl) ?_
  refine lv_iload_n hx hb dX0_turn_1 rfl (lv_at hl 1 rfl) ?_
  have hPc : va_P (dC, dI) vwCl (gcW h kc f1 f2 dr cl tr se (nI g) (nI r) inf (nI ct)) _ := hP.sub [0, 1, 2, 3, 4, 5, 6] rfl
  have hKc : va_K (dC, dI) vwCl (gcT kc) s := hK.sub [0, 1, 2, 3, 4, 5] rfl
  refine vx_callv (vx_runV (As := [.int v]) (rest := []) ⟨hx, hb, hml, hown, hts⟩ (x_X0_requireRule l hgl dC dI h kc f1 f2 dr cl tr se g r inf ct v (by first | assumption | omega) (by first | assumption | omega)) (cwV 1 hts gX0_turn_X0_requireRule rfl rfl rfl (by decide +kernel) ⟨Nat.le_of_ble_eq_true rfl, Nat.le_of_ble_eq_true rfl⟩) ⟨gcPX_blind, va_recv hK hP (ci := 0) (q0 := 0) rfl rfl, fun U hU hW => ⟨rfl, by rw [hU]; exact hPc, va_K.moved hW.alike hKc, gcX_go hgX hW (fun a ha => by rw [hU] <;> first | rfl | exact hS.2.1 a ha id)⟩⟩ rfl rfl hl.1 rfl (lv_room (Nat.le_of_ble_eq_true rfl)) dX0_turn_2 ⟨Nat.le_of_ble_eq_true rfl, Nat.le_of_ble_eq_true rfl⟩) hS (fun q _ h => h.elim) (fun q h => h.elim) (fun q _ h => h.elim) (fun E ce q9 u t H locs ht hvm hpx hBX hz1 hk1 hS hce hcv hcl => ?_) (fun u t H locs ht hvm hw hB hz1 hk1 hS => hw.elim)
  exact vx_out (fun x h => (hnoex x h).elim) hlocks hce hcv hcl (fun t ht hvm => ⟨(), trivial, hBX, hS.F ht⟩) hS.2.2 (Nat.le_of_ble_eq_true rfl) (Nat.le_of_ble_eq_true rfl)
set_option maxHeartbeats 4000000 in
set_option maxRecDepth 100000 in
theorem x_X0_told_1 (l : Launch) (hl : l.stackTraces = false) (dC : Nat → ClassId) (dI : Nat → Nat → Nat) (h : Nat → Nat) (kc : Nat → ClassId) (f1 : Nat → Int32) (f2 : Nat → Int32) (dr : Nat → Int32) (cl : Nat → Int32) (tr : Nat → Int32) (se : Nat → Int32) (g : Nat) (r : Nat) (inf : Int32) (ct : Nat) (v1 : Int32) (v2 : Int32) (hr30 : r ≤ 30) (hno : ∀ j : Nat, j < r → v1 ≠ nI j) : vx_Met l yX0_told wsX0_told ({ frames := 7, cells := 1, slots := 6, locals := 103 }) (gcPX (dC, dI) [.ref (h 0), .int v1, .int v2] (gcW h kc f1 f2 dr cl tr se (nI g) (nI r) inf (nI ct)) (gcT kc)) (va_Qi (fun (_ : Int32) (_ : Unit) => False) (fun _ _ => True) (fun _ => False)) (vx_X (fun (_ : Unit) => True) (fun E _ _ => E = "java/lang/IndexOutOfBoundsException") (fun _ => False)) 1 6 (fun _ => False) := by
  refine vx_ofW (cc := cX0_told) (maxL := 3) (ret := (some .int)) (by decide) rfl ?_
  intro p e s m args below meth c s₁ B hml hnoex hv
  obtain ⟨rfl, hP, hK, hgX⟩ := hv
  have hx := B.exec
  have hb := B.bytes
  have hr := B.returns
  have hts := atoms_spec (ws := wsX0_told) B.pre
  have hown : s.vm.findClass RX0 = some m.cls := findClass_of_methodNamed B.named
  have hlocks := B.notSynchronized
  have hS : va_S (fun _ => False) s.heap s.heap [] := va_S.rf
  have hgl := hl
  have hP : va_P (dC, dI) vwCl (gcW h kc f1 f2 dr cl tr se (nI g) (nI r) inf (nI ct)) s.heap := hP
  have hin0 : ∀ w ∈ wsX00, w ∈ wsX0_told := by decide +kernel
  have hl := lv_entry [.ref (h 0), .int v1, .int v2] (n := 3) (Nat.le_of_ble_eq_true rfl)
  rw [lg_entry_eq]
  generalize (lg_sl [.ref (h 0), .int v1, .int v2] ++ List.replicate (3 - (lg_sl [.ref (h 0), .int v1, .int v2]).length) Slot.unset).toArray = ls at hl ⊢
  have hl : lv_has ls 3 [(0, .ref (h 0)), (1, .int v1), (2, .int v2)] := hl
  refine lv_aload_n hx hb dX0_told_0 rfl (lv_at hl 0 rfl) ?_
  refine lv_iload_n hx hb dX0_told_1 rfl (lv_at hl 1 rfl) ?_
  have hPc : va_P (dC, dI) vwCl (gcW h kc f1 f2 dr cl tr se (nI g) (nI r) inf (nI ct)) _ := hP.sub [0, 1, 2, 3, 4, 5, 6] rfl
  have hKc : va_K (dC, dI) vwCl (gcT kc) s := hK.sub [0, 1, 2, 3, 4, 5] rfl
  refine vx_callv (vx_runV (As := [.int v1]) (rest := []) ⟨hx, hb, hml, hown, hts⟩ (x_X0_requireRule l hgl dC dI h kc f1 f2 dr cl tr se g r inf ct v1 (by first | assumption | omega) (by first | assumption | omega)) (cwV 1 hts gX0_told_X0_requireRule rfl rfl rfl (by decide +kernel) ⟨Nat.le_of_ble_eq_true rfl, Nat.le_of_ble_eq_true rfl⟩) ⟨gcPX_blind, va_recv hK hP (ci := 0) (q0 := 0) rfl rfl, fun U hU hW => ⟨rfl, by rw [hU]; exact hPc, va_K.moved hW.alike hKc, gcX_go hgX hW (fun a ha => by rw [hU] <;> first | rfl | exact hS.2.1 a ha id)⟩⟩ rfl rfl hl.1 rfl (lv_room (Nat.le_of_ble_eq_true rfl)) dX0_told_2 ⟨Nat.le_of_ble_eq_true rfl, Nat.le_of_ble_eq_true rfl⟩) hS (fun q _ h => h.elim) (fun q h => h.elim) (fun q _ h => h.elim) (fun E ce q9 u t H locs ht hvm hpx hBX hz1 hk1 hS hce hcv hcl => ?_) (fun u t H locs ht hvm hw hB hz1 hk1 hS => hw.elim)
  exact vx_out (fun x h => (hnoex x h).elim) hlocks hce hcv hcl (fun t ht hvm => ⟨(), trivial, hBX, hS.F ht⟩) hS.2.2 (Nat.le_of_ble_eq_true rfl) (Nat.le_of_ble_eq_true rfl)
set_option maxHeartbeats 4000000 in
set_option maxRecDepth 100000 in
theorem x_X0_told_2 (l : Launch) (hl : l.stackTraces = false) (dC : Nat → ClassId) (dI : Nat → Nat → Nat) (h : Nat → Nat) (kc : Nat → ClassId) (f1 : Nat → Int32) (f2 : Nat → Int32) (dr : Nat → Int32) (cl : Nat → Int32) (tr : Nat → Int32) (se : Nat → Int32) (g : Nat) (r : Nat) (inf : Int32) (ct : Nat) (x : Nat) (v2 : Int32) (hr30 : r ≤ 30) (hx2 : x < r) (hno : ∀ j : Nat, j < 3 → v2 ≠ nI j) : vx_Met l yX0_told wsX0_told ({ frames := 7, cells := 1, slots := 6, locals := 103 }) (gcPX (dC, dI) [.ref (h 0), .int (nI x), .int v2] (gcW h kc f1 f2 dr cl tr se (nI g) (nI r) inf (nI ct)) (gcT kc)) (va_Qi (fun (_ : Int32) (_ : Unit) => False) (fun _ _ => True) (fun _ => False)) (vx_X (fun (_ : Unit) => True) (fun E _ _ => E = "java/lang/IndexOutOfBoundsException") (fun _ => False)) 1 6 (fun _ => False) := by
  refine vx_ofW (cc := cX0_told) (maxL := 3) (ret := (some .int)) (by decide) rfl ?_
  intro p e s m args below meth c s₁ B hml hnoex hv
  obtain ⟨rfl, hP, hK, hgX⟩ := hv
  have hx := B.exec
  have hb := B.bytes
  have hr := B.returns
  have hts := atoms_spec (ws := wsX0_told) B.pre
  have hown : s.vm.findClass RX0 = some m.cls := findClass_of_methodNamed B.named
  have hlocks := B.notSynchronized
  have hS : va_S (fun _ => False) s.heap s.heap [] := va_S.rf
  have hgl := hl
  have hP : va_P (dC, dI) vwCl (gcW h kc f1 f2 dr cl tr se (nI g) (nI r) inf (nI ct)) s.heap := hP
  have hin0 : ∀ w ∈ wsX00, w ∈ wsX0_told := by decide +kernel
  have hl := lv_entry [.ref (h 0), .int (nI x), .int v2] (n := 3) (Nat.le_of_ble_eq_true rfl)
  rw [lg_entry_eq]
  generalize (lg_sl [.ref (h 0), .int (nI x), .int v2] ++ List.replicate (3 - (lg_sl [.ref (h 0), .int (nI x), .int v2]).length) Slot.unset).toArray = ls at hl ⊢
  have hl : lv_has ls 3 [(0, .ref (h 0)), (1, .int (nI x)), (2, .int v2)] := hl
  refine lv_aload_n hx hb dX0_told_0 rfl (lv_at hl 0 rfl) ?_
  refine lv_iload_n hx hb dX0_told_1 rfl (lv_at hl 1 rfl) ?_
  have hPc : va_P (dC, dI) vwCl (gcW h kc f1 f2 dr cl tr se (nI g) (nI r) inf (nI ct)) _ := hP.sub [0, 1, 2, 3, 4, 5, 6] rfl
  have hKc : va_K (dC, dI) vwCl (gcT kc) s := hK.sub [0, 1, 2, 3, 4, 5] rfl
  refine va_callv (va_runV (As := [.int (nI x)]) (rest := []) ⟨hx, hb, hml, hown, hts⟩ (c_X0_requireRule l dC dI h kc f1 f2 dr cl tr se g r inf ct x (by first | assumption | omega) (by first | assumption | omega)) (cwV 1 hts gX0_told_X0_requireRule rfl rfl rfl (by decide +kernel) ⟨Nat.le_of_ble_eq_true rfl, Nat.le_of_ble_eq_true rfl⟩) ⟨gcPR_blind, va_recv hK hP (ci := 0) (q0 := 0) rfl rfl, fun U hU hW => ⟨rfl, by rw [hU]; exact hPc, va_K.moved hW.alike hKc⟩⟩ rfl rfl hl.1 rfl (lv_room (Nat.le_of_ble_eq_true rfl)) dX0_told_2 ⟨Nat.zero_le _, Nat.zero_le _⟩) hS (fun q _ h => h.elim) (fun q h => h.elim) (fun u t H locs ht hvm hw hB hz1 hk1 hS => ?_)
  have hP := gc_keep hP hk1
  clear hB hz1 hk1 ht hvm
  clear hPc hKc
  refine lv_iload_n hx hb dX0_told_5 rfl (lv_at hl 2 rfl) ?_
  refine lv_iconst (v := 3) hx hb dX0_told_6 (by decide) ?_
  have hPc : va_P (dC, dI) vwCl [] _ := hP.sub [] rfl
  have hKc : va_K (dC, dI) vwCl [] s := hK.sub [] rfl
  refine vx_callv (vx_runS (As := [.int v2, .int 3]) (rest := []) ⟨hx, hb, hml, hown, hts⟩ (x_X0_requireFact l hgl dC dI v2 3 (by decide) (by first | assumption | omega)) (va_cwS 2 hts gX0_told_X0_requireFact rfl rfl rfl (by decide +kernel) ⟨Nat.le_of_ble_eq_true rfl, Nat.le_of_ble_eq_true rfl⟩) ⟨gcPX_blind, fun U hU hW => ⟨rfl, by rw [hU]; exact hPc, va_K.moved hW.alike hKc, gcX_go hgX hW (fun a ha => by rw [hU] <;> first | rfl | exact hS.2.1 a ha id)⟩⟩ rfl rfl hl.1 rfl (lv_room (Nat.le_of_ble_eq_true rfl)) dX0_told_7 ⟨Nat.le_of_ble_eq_true rfl, Nat.le_of_ble_eq_true rfl⟩) hS (fun q _ h => h.elim) (fun q h => h.elim) (fun q _ h => h.elim) (fun E ce q9 u t H locs ht hvm hpx hBX hz1 hk1 hS hce hcv hcl => ?_) (fun u t H locs ht hvm hw hB hz1 hk1 hS => hw.elim)
  exact vx_out (fun x h => (hnoex x h).elim) hlocks hce hcv hcl (fun t ht hvm => ⟨(), trivial, hBX, hS.F ht⟩) hS.2.2 (Nat.le_of_ble_eq_true rfl) (Nat.le_of_ble_eq_true rfl)
set_option maxHeartbeats 4000000 in
set_option maxRecDepth 100000 in
theorem x_X0_guest_1 (l : Launch) (hl : l.stackTraces = false) (dC : Nat → ClassId) (dI : Nat → Nat → Nat) (h : Nat → Nat) (kc : Nat → ClassId) (f1 : Nat → Int32) (f2 : Nat → Int32) (dr : Nat → Int32) (cl : Nat → Int32) (tr : Nat → Int32) (se : Nat → Int32) (g : Nat) (r : Nat) (inf : Int32) (ct : Nat) (v1 : Int32) (v2 : Int32) (hg : g ≤ 10) (hno : ∀ j : Nat, j < g → v1 ≠ nI j) : vx_Met l yX0_guest wsX0_guest ({ frames := 7, cells := 1, slots := 6, locals := 103 }) (gcPX (dC, dI) [.ref (h 0), .int v1, .int v2] (gcW h kc f1 f2 dr cl tr se (nI g) (nI r) inf (nI ct)) (gcT kc)) (va_Qi (fun (_ : Int32) (_ : Unit) => False) (fun _ _ => True) (fun _ => False)) (vx_X (fun (_ : Unit) => True) (fun E _ _ => E = "java/lang/IndexOutOfBoundsException") (fun _ => False)) 1 6 (fun _ => False) := by
  refine vx_ofW (cc := cX0_guest) (maxL := 4) (ret := (some .int)) (by decide) rfl ?_
  intro p e s m args below meth c s₁ B hml hnoex hv
  obtain ⟨rfl, hP, hK, hgX⟩ := hv
  have hx := B.exec
  have hb := B.bytes
  have hr := B.returns
  have hts := atoms_spec (ws := wsX0_guest) B.pre
  have hown : s.vm.findClass RX0 = some m.cls := findClass_of_methodNamed B.named
  have hlocks := B.notSynchronized
  have hS : va_S (fun _ => False) s.heap s.heap [] := va_S.rf
  have hgl := hl
  have hP : va_P (dC, dI) vwCl (gcW h kc f1 f2 dr cl tr se (nI g) (nI r) inf (nI ct)) s.heap := hP
  have hin0 : ∀ w ∈ wsX00, w ∈ wsX0_guest := by decide +kernel
  have hl := lv_entry [.ref (h 0), .int v1, .int v2] (n := 4) (Nat.le_of_ble_eq_true rfl)
  rw [lg_entry_eq]
  generalize (lg_sl [.ref (h 0), .int v1, .int v2] ++ List.replicate (4 - (lg_sl [.ref (h 0), .int v1, .int v2]).length) Slot.unset).toArray = ls at hl ⊢
  have hl : lv_has ls 4 [(0, .ref (h 0)), (1, .int v1), (2, .int v2)] := hl
  refine lv_aload_n hx hb dX0_guest_0 rfl (lv_at hl 0 rfl) ?_
  refine lv_iload_n hx hb dX0_guest_1 rfl (lv_at hl 1 rfl) ?_
  have hPc : va_P (dC, dI) vwCl (gcW h kc f1 f2 dr cl tr se (nI g) (nI r) inf (nI ct)) _ := hP.sub [0, 1, 2, 3, 4, 5, 6] rfl
  have hKc : va_K (dC, dI) vwCl (gcT kc) s := hK.sub [0, 1, 2, 3, 4, 5] rfl
  refine vx_callv (vx_runV (As := [.int v1]) (rest := []) ⟨hx, hb, hml, hown, hts⟩ (x_X0_requireGuest l hgl dC dI h kc f1 f2 dr cl tr se g r inf ct v1 (by first | assumption | omega) (by first | assumption | omega)) (cwV 1 hts gX0_guest_X0_requireGuest rfl rfl rfl (by decide +kernel) ⟨Nat.le_of_ble_eq_true rfl, Nat.le_of_ble_eq_true rfl⟩) ⟨gcPX_blind, va_recv hK hP (ci := 0) (q0 := 0) rfl rfl, fun U hU hW => ⟨rfl, by rw [hU]; exact hPc, va_K.moved hW.alike hKc, gcX_go hgX hW (fun a ha => by rw [hU] <;> first | rfl | exact hS.2.1 a ha id)⟩⟩ rfl rfl hl.1 rfl (lv_room (Nat.le_of_ble_eq_true rfl)) dX0_guest_2 ⟨Nat.le_of_ble_eq_true rfl, Nat.le_of_ble_eq_true rfl⟩) hS (fun q _ h => h.elim) (fun q h => h.elim) (fun q _ h => h.elim) (fun E ce q9 u t H locs ht hvm hpx hBX hz1 hk1 hS hce hcv hcl => ?_) (fun u t H locs ht hvm hw hB hz1 hk1 hS => hw.elim)
  exact vx_out (fun x h => (hnoex x h).elim) hlocks hce hcv hcl (fun t ht hvm => ⟨(), trivial, hBX, hS.F ht⟩) hS.2.2 (Nat.le_of_ble_eq_true rfl) (Nat.le_of_ble_eq_true rfl)
set_option maxHeartbeats 4000000 in
set_option maxRecDepth 100000 in
theorem x_X0_guest_2 (l : Launch) (hl : l.stackTraces = false) (dC : Nat → ClassId) (dI : Nat → Nat → Nat) (h : Nat → Nat) (kc : Nat → ClassId) (f1 : Nat → Int32) (f2 : Nat → Int32) (dr : Nat → Int32) (cl : Nat → Int32) (tr : Nat → Int32) (se : Nat → Int32) (g : Nat) (r : Nat) (inf : Int32) (ct : Nat) (x : Nat) (v2 : Int32) (hg : g ≤ 10) (hx2 : x < g) (hno : ∀ j : Nat, j < 4 → v2 ≠ nI j) : vx_Met l yX0_guest wsX0_guest ({ frames := 7, cells := 1, slots := 6, locals := 103 }) (gcPX (dC, dI) [.ref (h 0), .int (nI x), .int v2] (gcW h kc f1 f2 dr cl tr se (nI g) (nI r) inf (nI ct)) (gcT kc)) (va_Qi (fun (_ : Int32) (_ : Unit) => False) (fun _ _ => True) (fun _ => False)) (vx_X (fun (_ : Unit) => True) (fun E _ _ => E = "java/lang/IndexOutOfBoundsException") (fun _ => False)) 1 6 (fun _ => False) := by
  refine vx_ofW (cc := cX0_guest) (maxL := 4) (ret := (some .int)) (by decide) rfl ?_
  intro p e s m args below meth c s₁ B hml hnoex hv
  obtain ⟨rfl, hP, hK, hgX⟩ := hv
  have hx := B.exec
  have hb := B.bytes
  have hr := B.returns
  have hts := atoms_spec (ws := wsX0_guest) B.pre
  have hown : s.vm.findClass RX0 = some m.cls := findClass_of_methodNamed B.named
  have hlocks := B.notSynchronized
  have hS : va_S (fun _ => False) s.heap s.heap [] := va_S.rf
  have hgl := hl
  have hP : va_P (dC, dI) vwCl (gcW h kc f1 f2 dr cl tr se (nI g) (nI r) inf (nI ct)) s.heap := hP
  have hin0 : ∀ w ∈ wsX00, w ∈ wsX0_guest := by decide +kernel
  have hl := lv_entry [.ref (h 0), .int (nI x), .int v2] (n := 4) (Nat.le_of_ble_eq_true rfl)
  rw [lg_entry_eq]
  generalize (lg_sl [.ref (h 0), .int (nI x), .int v2] ++ List.replicate (4 - (lg_sl [.ref (h 0), .int (nI x), .int v2]).length) Slot.unset).toArray = ls at hl ⊢
  have hl : lv_has ls 4 [(0, .ref (h 0)), (1, .int (nI x)), (2, .int v2)] := hl
  refine lv_aload_n hx hb dX0_guest_0 rfl (lv_at hl 0 rfl) ?_
  refine lv_iload_n hx hb dX0_guest_1 rfl (lv_at hl 1 rfl) ?_
  have hPc : va_P (dC, dI) vwCl (gcW h kc f1 f2 dr cl tr se (nI g) (nI r) inf (nI ct)) _ := hP.sub [0, 1, 2, 3, 4, 5, 6] rfl
  have hKc : va_K (dC, dI) vwCl (gcT kc) s := hK.sub [0, 1, 2, 3, 4, 5] rfl
  refine va_callv (va_runV (As := [.int (nI x)]) (rest := []) ⟨hx, hb, hml, hown, hts⟩ (c_X0_requireGuest l dC dI h kc f1 f2 dr cl tr se g r inf ct x (by first | assumption | omega) (by first | assumption | omega)) (cwV 1 hts gX0_guest_X0_requireGuest rfl rfl rfl (by decide +kernel) ⟨Nat.le_of_ble_eq_true rfl, Nat.le_of_ble_eq_true rfl⟩) ⟨gcPR_blind, va_recv hK hP (ci := 0) (q0 := 0) rfl rfl, fun U hU hW => ⟨rfl, by rw [hU]; exact hPc, va_K.moved hW.alike hKc⟩⟩ rfl rfl hl.1 rfl (lv_room (Nat.le_of_ble_eq_true rfl)) dX0_guest_2 ⟨Nat.zero_le _, Nat.zero_le _⟩) hS (fun q _ h => h.elim) (fun q h => h.elim) (fun u t H locs ht hvm hw hB hz1 hk1 hS => ?_)
  have hP := gc_keep hP hk1
  clear hB hz1 hk1 ht hvm
  clear hPc hKc
  refine lv_iload_n hx hb dX0_guest_5 rfl (lv_at hl 2 rfl) ?_
  refine lv_iconst (v := 4) hx hb dX0_guest_6 (by decide) ?_
  have hPc : va_P (dC, dI) vwCl [] _ := hP.sub [] rfl
  have hKc : va_K (dC, dI) vwCl [] s := hK.sub [] rfl
  refine vx_callv (vx_runS (As := [.int v2, .int 4]) (rest := []) ⟨hx, hb, hml, hown, hts⟩ (x_X0_requireFact l hgl dC dI v2 4 (by decide) (by first | assumption | omega)) (va_cwS 2 hts gX0_guest_X0_requireFact rfl rfl rfl (by decide +kernel) ⟨Nat.le_of_ble_eq_true rfl, Nat.le_of_ble_eq_true rfl⟩) ⟨gcPX_blind, fun U hU hW => ⟨rfl, by rw [hU]; exact hPc, va_K.moved hW.alike hKc, gcX_go hgX hW (fun a ha => by rw [hU] <;> first | rfl | exact hS.2.1 a ha id)⟩⟩ rfl rfl hl.1 rfl (lv_room (Nat.le_of_ble_eq_true rfl)) dX0_guest_7 ⟨Nat.le_of_ble_eq_true rfl, Nat.le_of_ble_eq_true rfl⟩) hS (fun q _ h => h.elim) (fun q h => h.elim) (fun q _ h => h.elim) (fun E ce q9 u t H locs ht hvm hpx hBX hz1 hk1 hS hce hcv hcl => ?_) (fun u t H locs ht hvm hw hB hz1 hk1 hS => hw.elim)
  exact vx_out (fun x h => (hnoex x h).elim) hlocks hce hcv hcl (fun t ht hvm => ⟨(), trivial, hBX, hS.F ht⟩) hS.2.2 (Nat.le_of_ble_eq_true rfl) (Nat.le_of_ble_eq_true rfl)
set_option maxHeartbeats 4000000 in
set_option maxRecDepth 100000 in
theorem x_X0_count (l : Launch) (hl : l.stackTraces = false) (dC : Nat → ClassId) (dI : Nat → Nat → Nat) (h : Nat → Nat) (kc : Nat → ClassId) (f1 : Nat → Int32) (f2 : Nat → Int32) (dr : Nat → Int32) (cl : Nat → Int32) (tr : Nat → Int32) (se : Nat → Int32) (g : Nat) (r : Nat) (inf : Int32) (ct : Nat) (v : Int32) (hno : ∀ j : Nat, j < 6 → v ≠ nI j) : vx_Met l yX0_count wsX0_count ({ frames := 7, cells := 1, slots := 6, locals := 103 }) (gcPX (dC, dI) [.ref (h 0), .int v] (gcW h kc f1 f2 dr cl tr se (nI g) (nI r) inf (nI ct)) (gcT kc)) (va_Qi (fun (_ : Int32) (_ : Unit) => False) (fun _ _ => True) (fun _ => False)) (vx_X (fun (_ : Unit) => True) (fun E _ _ => E = "java/lang/IndexOutOfBoundsException") (fun _ => False)) 1 6 (fun _ => False) := by
  refine vx_ofW (cc := cX0_count) (maxL := 2) (ret := (some .int)) (by decide) rfl ?_
  intro p e s m args below meth c s₁ B hml hnoex hv
  obtain ⟨rfl, hP, hK, hgX⟩ := hv
  have hx := B.exec
  have hb := B.bytes
  have hr := B.returns
  have hts := atoms_spec (ws := wsX0_count) B.pre
  have hown : s.vm.findClass RX0 = some m.cls := findClass_of_methodNamed B.named
  have hlocks := B.notSynchronized
  have hS : va_S (fun _ => False) s.heap s.heap [] := va_S.rf
  have hgl := hl
  have hP : va_P (dC, dI) vwCl (gcW h kc f1 f2 dr cl tr se (nI g) (nI r) inf (nI ct)) s.heap := hP
  have hin0 : ∀ w ∈ wsX00, w ∈ wsX0_count := by decide +kernel
  have hl := lv_entry [.ref (h 0), .int v] (n := 2) (Nat.le_of_ble_eq_true rfl)
  rw [lg_entry_eq]
  generalize (lg_sl [.ref (h 0), .int v] ++ List.replicate (2 - (lg_sl [.ref (h 0), .int v]).length) Slot.unset).toArray = ls at hl ⊢
  have hl : lv_has ls 2 [(0, .ref (h 0)), (1, .int v)] := hl
  refine lv_iload_n hx hb dX0_count_0 rfl (lv_at hl 1 rfl) ?_
  refine lv_bipush (v := 6) hx hb dX0_count_1 (by decide) ?_
  have hPc : va_P (dC, dI) vwCl [] _ := hP.sub [] rfl
  have hKc : va_K (dC, dI) vwCl [] s := hK.sub [] rfl
  refine vx_callv (vx_runS (As := [.int v, .int 6]) (rest := []) ⟨hx, hb, hml, hown, hts⟩ (x_X0_requireFact l hgl dC dI v 6 (by decide) (by first | assumption | omega)) (va_cwS 2 hts gX0_count_X0_requireFact rfl rfl rfl (by decide +kernel) ⟨Nat.le_of_ble_eq_true rfl, Nat.le_of_ble_eq_true rfl⟩) ⟨gcPX_blind, fun U hU hW => ⟨rfl, by rw [hU]; exact hPc, va_K.moved hW.alike hKc, gcX_go hgX hW (fun a ha => by rw [hU] <;> first | rfl | exact hS.2.1 a ha id)⟩⟩ rfl rfl hl.1 rfl (lv_room (Nat.le_of_ble_eq_true rfl)) dX0_count_3 ⟨Nat.le_of_ble_eq_true rfl, Nat.le_of_ble_eq_true rfl⟩) hS (fun q _ h => h.elim) (fun q h => h.elim) (fun q _ h => h.elim) (fun E ce q9 u t H locs ht hvm hpx hBX hz1 hk1 hS hce hcv hcl => ?_) (fun u t H locs ht hvm hw hB hz1 hk1 hS => hw.elim)
  exact vx_out (fun x h => (hnoex x h).elim) hlocks hce hcv hcl (fun t ht hvm => ⟨(), trivial, hBX, hS.F ht⟩) hS.2.2 (Nat.le_of_ble_eq_true rfl) (Nat.le_of_ble_eq_true rfl)
set_option maxHeartbeats 4000000 in
set_option maxRecDepth 100000 in
theorem x_X0_broken (l : Launch) (hl : l.stackTraces = false) (dC : Nat → ClassId) (dI : Nat → Nat → Nat) (h : Nat → Nat) (kc : Nat → ClassId) (f1 : Nat → Int32) (f2 : Nat → Int32) (dr : Nat → Int32) (cl : Nat → Int32) (tr : Nat → Int32) (se : Nat → Int32) (g : Nat) (r : Nat) (inf : Int32) (ct : Nat) (v : Int32) (hg : g ≤ 10) (hno : ∀ j : Nat, j < 2 ^ g → v ≠ nI j) : vx_Met l yX0_broken wsX0_broken ({ frames := 6, cells := 1, slots := 6, locals := 82 }) (gcPX (dC, dI) [.ref (h 0), .int v] (gcW h kc f1 f2 dr cl tr se (nI g) (nI r) inf (nI ct)) (gcT kc)) (va_Qi (fun (_ : Int32) (_ : Unit) => False) (fun _ _ => True) (fun _ => False)) (vx_X (fun (_ : Unit) => True) (fun E _ _ => E = "java/lang/IllegalArgumentException") (fun _ => False)) 1 6 (fun _ => False) := by
  refine vx_ofW (cc := cX0_broken) (maxL := 3) (ret := (some .int)) (by decide) rfl ?_
  intro p e s m args below meth c s₁ B hml hnoex hv
  obtain ⟨rfl, hP, hK, hgX⟩ := hv
  have hx := B.exec
  have hb := B.bytes
  have hr := B.returns
  have hts := atoms_spec (ws := wsX0_broken) B.pre
  have hown : s.vm.findClass RX0 = some m.cls := findClass_of_methodNamed B.named
  have hlocks := B.notSynchronized
  have hS : va_S (fun _ => False) s.heap s.heap [] := va_S.rf
  have hgl := hl
  have hP : va_P (dC, dI) vwCl (gcW h kc f1 f2 dr cl tr se (nI g) (nI r) inf (nI ct)) s.heap := hP
  have hin0 : ∀ w ∈ wsX00, w ∈ wsX0_broken := by decide +kernel
  have hl := lv_entry [.ref (h 0), .int v] (n := 3) (Nat.le_of_ble_eq_true rfl)
  rw [lg_entry_eq]
  generalize (lg_sl [.ref (h 0), .int v] ++ List.replicate (3 - (lg_sl [.ref (h 0), .int v]).length) Slot.unset).toArray = ls at hl ⊢
  have hl : lv_has ls 3 [(0, .ref (h 0)), (1, .int v)] := hl
  have hg2 : 2 ^ g ≤ 1024 := Nat.pow_le_pow_right (n := 2) (by decide) hg
  refine lv_iload_n hx hb dX0_broken_0 rfl (lv_at hl 1 rfl) ?_
  refine lv_if_lt (tgt := 14) hx hb dX0_broken_1 (by decide) (fun c_1 => ?_) (fun c_1 => ?_)
  · skip
    obtain ⟨sa, hstr⟩ := hgX.2.2.2.1 (126, "not a set of guests in the book") (by decide)
    have hat := gcX_at (args := _) (E := "java/lang/IllegalArgumentException") (ic := 50) hgX (by decide +kernel) (fun w hw => hts w (List.mem_cons_of_mem _ (List.mem_append_right _ hw)))
    exact vx_throwS hx hb hgl (own := RX0) (cls := "java/lang/IllegalArgumentException") (text := "not a set of guests in the book") (names := gNm) (ik := 46) (is := 126) (ic := 50) (sa := sa) (A := fun _ => False) hown (by decide +kernel) (by decide +kernel) (hts (.classLink RX0 46 "java/lang/IllegalArgumentException") (by decide +kernel)) (hts (.initialized "java/lang/IllegalArgumentException") (by decide +kernel)) hstr hat (by decide +kernel) hgX.2.1 hgX.2.2.1 hS (hl.1.trans hml.symm) dX0_broken_14 dX0_broken_17 dX0_broken_18 dX0_broken_20 dX0_broken_23 (fun x h => (hnoex x h).elim) (Nat.le_of_ble_eq_true rfl) (Nat.le_of_ble_eq_true rfl) (Nat.le_of_ble_eq_true rfl) (Nat.le_of_ble_eq_true rfl) hlocks (fun t hvm hz hk => ⟨(), trivial, rfl, gcF hS hz hk⟩) hS.2.2 (Nat.le_of_ble_eq_true rfl) (Nat.le_of_ble_eq_true rfl)
  · skip
    refine lv_iload_n hx hb dX0_broken_4 rfl (lv_at hl 1 rfl) ?_
    refine lv_iconst (v := 1) hx hb dX0_broken_5 (by decide) ?_
    refine lv_aload_n hx hb dX0_broken_6 rfl (lv_at hl 0 rfl) ?_
    refine va_get (D := (dC, dI)) (ci := 0) (v := .int (nI g)) (C := RX0) (T := TX0) (N := 10) hx hb hts hin0 hown hK hP 0 rfl rfl 6 (by decide) (hts (.fieldLink RX0 31 "GuestChairs" "guestCount" "I") (by decide +kernel)) (fun _ h9 => h9) rfl dX0_broken_7 ?_
    refine lv_ishl hx hb dX0_broken_10 ?_
    refine gc_topi (y := nI (2 ^ g)) (gc_shl1 hg) ?_
    refine lv_icmp_lt (tgt := 24) hx hb dX0_broken_11 (by decide) (fun c_11 => ?_) (fun c_11 => ?_)
    · skip
      exact (gc_bad (by omega) hno c_1 (Int32.not_le.mpr c_11)).elim
    · skip
      obtain ⟨sa, hstr⟩ := hgX.2.2.2.1 (126, "not a set of guests in the book") (by decide)
      have hat := gcX_at (args := _) (E := "java/lang/IllegalArgumentException") (ic := 50) hgX (by decide +kernel) (fun w hw => hts w (List.mem_cons_of_mem _ (List.mem_append_right _ hw)))
      exact vx_throwS hx hb hgl (own := RX0) (cls := "java/lang/IllegalArgumentException") (text := "not a set of guests in the book") (names := gNm) (ik := 46) (is := 126) (ic := 50) (sa := sa) (A := fun _ => False) hown (by decide +kernel) (by decide +kernel) (hts (.classLink RX0 46 "java/lang/IllegalArgumentException") (by decide +kernel)) (hts (.initialized "java/lang/IllegalArgumentException") (by decide +kernel)) hstr hat (by decide +kernel) hgX.2.1 hgX.2.2.1 hS (hl.1.trans hml.symm) dX0_broken_14 dX0_broken_17 dX0_broken_18 dX0_broken_20 dX0_broken_23 (fun x h => (hnoex x h).elim) (Nat.le_of_ble_eq_true rfl) (Nat.le_of_ble_eq_true rfl) (Nat.le_of_ble_eq_true rfl) (Nat.le_of_ble_eq_true rfl) hlocks (fun t hvm hz hk => ⟨(), trivial, rfl, gcF hS hz hk⟩) hS.2.2 (Nat.le_of_ble_eq_true rfl) (Nat.le_of_ble_eq_true rfl)
set_option maxHeartbeats 4000000 in
set_option maxRecDepth 100000 in
theorem x_X0_invite (l : Launch) (hl : l.stackTraces = false) (dC : Nat → ClassId) (dI : Nat → Nat → Nat) (h : Nat → Nat) (kc : Nat → ClassId) (f1 : Nat → Int32) (f2 : Nat → Int32) (dr : Nat → Int32) (cl : Nat → Int32) (tr : Nat → Int32) (se : Nat → Int32) (g : Nat) (r : Nat) (inf : Int32) (ct : Nat) (hg9 : g = 10) : vx_Met l yX0_invite wsX0_invite ({ frames := 6, cells := 1, slots := 6, locals := 82 }) (gcPX (dC, dI) [.ref (h 0)] (gcW h kc f1 f2 dr cl tr se (nI g) (nI r) inf (nI ct)) (gcT kc)) (va_Qi (fun (_ : Int32) (_ : Unit) => False) (fun _ _ => True) (fun _ => False)) (vx_X (fun (_ : Unit) => True) (fun E _ _ => E = "java/lang/IllegalStateException") (fun _ => False)) 1 6 (fun _ => False) := by
  refine vx_ofW (cc := cX0_invite) (maxL := 2) (ret := (some .int)) (by decide) rfl ?_
  intro p e s m args below meth c s₁ B hml hnoex hv
  obtain ⟨rfl, hP, hK, hgX⟩ := hv
  have hx := B.exec
  have hb := B.bytes
  have hr := B.returns
  have hts := atoms_spec (ws := wsX0_invite) B.pre
  have hown : s.vm.findClass RX0 = some m.cls := findClass_of_methodNamed B.named
  have hlocks := B.notSynchronized
  have hS : va_S (fun _ => False) s.heap s.heap [] := va_S.rf
  have hgl := hl
  have hP : va_P (dC, dI) vwCl (gcW h kc f1 f2 dr cl tr se (nI g) (nI r) inf (nI ct)) s.heap := hP
  have hin0 : ∀ w ∈ wsX00, w ∈ wsX0_invite := by decide +kernel
  have hl := lv_entry [.ref (h 0)] (n := 2) (Nat.le_of_ble_eq_true rfl)
  rw [lg_entry_eq]
  generalize (lg_sl [.ref (h 0)] ++ List.replicate (2 - (lg_sl [.ref (h 0)]).length) Slot.unset).toArray = ls at hl ⊢
  have hl : lv_has ls 2 [(0, .ref (h 0))] := hl
  refine lv_aload_n hx hb dX0_invite_0 rfl (lv_at hl 0 rfl) ?_
  refine va_get (D := (dC, dI)) (ci := 0) (v := .int (nI g)) (C := RX0) (T := TX0) (N := 10) hx hb hts hin0 hown hK hP 0 rfl rfl 6 (by decide) (hts (.fieldLink RX0 31 "GuestChairs" "guestCount" "I") (by decide +kernel)) (fun _ h9 => h9) rfl dX0_invite_1 ?_
  refine lv_bipush (v := 10) hx hb dX0_invite_4 (by decide) ?_
  refine lv_icmp_lt (tgt := 19) hx hb dX0_invite_6 (by decide) (fun c_6 => ?_) (fun c_6 => ?_)
  · skip
    exact absurd ((nI_ltI (b := 10) (by omega) (by omega)).mp c_6) (by omega)
  · skip
    obtain ⟨sa, hstr⟩ := hgX.2.2.2.1 (37, "the book is full of guests") (by decide)
    have hat := gcX_at (args := _) (E := "java/lang/IllegalStateException") (ic := 39) hgX (by decide +kernel) (fun w hw => hts w (List.mem_cons_of_mem _ (List.mem_append_right _ hw)))
    exact vx_throwS hx hb hgl (own := RX0) (cls := "java/lang/IllegalStateException") (text := "the book is full of guests") (names := gNm) (ik := 35) (is := 37) (ic := 39) (sa := sa) (A := fun _ => False) hown (by decide +kernel) (by decide +kernel) (hts (.classLink RX0 35 "java/lang/IllegalStateException") (by decide +kernel)) (hts (.initialized "java/lang/IllegalStateException") (by decide +kernel)) hstr hat (by decide +kernel) hgX.2.1 hgX.2.2.1 hS (hl.1.trans hml.symm) dX0_invite_9 dX0_invite_12 dX0_invite_13 dX0_invite_15 dX0_invite_18 (fun x h => (hnoex x h).elim) (Nat.le_of_ble_eq_true rfl) (Nat.le_of_ble_eq_true rfl) (Nat.le_of_ble_eq_true rfl) (Nat.le_of_ble_eq_true rfl) hlocks (fun t hvm hz hk => ⟨(), trivial, rfl, gcF hS hz hk⟩) hS.2.2 (Nat.le_of_ble_eq_true rfl) (Nat.le_of_ble_eq_true rfl)
set_option maxHeartbeats 4000000 in
set_option maxRecDepth 100000 in
theorem x_X0_rule_2 (l : Launch) (hl : l.stackTraces = false) (dC : Nat → ClassId) (dI : Nat → Nat → Nat) (h : Nat → Nat) (kc : Nat → ClassId) (f1 : Nat → Int32) (f2 : Nat → Int32) (dr : Nat → Int32) (cl : Nat → Int32) (tr : Nat → Int32) (se : Nat → Int32) (g : Nat) (r : Nat) (inf : Int32) (ct : Nat) (wa : Nat) (hg : g ≤ 10) (ha : wa < 2 * g) : vx_Met l yX0_rule wsX0_rule ({ frames := 6, cells := 1, slots := 6, locals := 82 }) (gcPX (dC, dI) [.ref (h 0), .int (nI wa), .int (nI wa)] (gcW h kc f1 f2 dr cl tr se (nI g) (nI r) inf (nI ct)) (gcT kc)) (va_Qi (fun (_ : Int32) (_ : Unit) => False) (fun _ _ => True) (fun _ => False)) (vx_X (fun (_ : Unit) => True) (fun E _ _ => E = "java/lang/IllegalArgumentException") (fun _ => False)) 1 6 (fun _ => False) := by
  refine vx_ofW (cc := cX0_rule) (maxL := 4) (ret := (some .int)) (by decide) rfl ?_
  intro p e s m args below meth c s₁ B hml hnoex hv
  obtain ⟨rfl, hP, hK, hgX⟩ := hv
  have hx := B.exec
  have hb := B.bytes
  have hr := B.returns
  have hts := atoms_spec (ws := wsX0_rule) B.pre
  have hown : s.vm.findClass RX0 = some m.cls := findClass_of_methodNamed B.named
  have hlocks := B.notSynchronized
  have hS : va_S (fun _ => False) s.heap s.heap [] := va_S.rf
  have hgl := hl
  have hP : va_P (dC, dI) vwCl (gcW h kc f1 f2 dr cl tr se (nI g) (nI r) inf (nI ct)) s.heap := hP
  have hin0 : ∀ w ∈ wsX00, w ∈ wsX0_rule := by decide +kernel
  have hl := lv_entry [.ref (h 0), .int (nI wa), .int (nI wa)] (n := 4) (Nat.le_of_ble_eq_true rfl)
  rw [lg_entry_eq]
  generalize (lg_sl [.ref (h 0), .int (nI wa), .int (nI wa)] ++ List.replicate (4 - (lg_sl [.ref (h 0), .int (nI wa), .int (nI wa)]).length) Slot.unset).toArray = ls at hl ⊢
  have hl : lv_has ls 4 [(0, .ref (h 0)), (1, .int (nI wa)), (2, .int (nI wa))] := hl
  refine lv_aload_n hx hb dX0_rule_0 rfl (lv_at hl 0 rfl) ?_
  refine lv_iload_n hx hb dX0_rule_1 rfl (lv_at hl 1 rfl) ?_
  refine lv_iload_n hx hb dX0_rule_2 rfl (lv_at hl 2 rfl) ?_
  have hPc : va_P (dC, dI) vwCl (gcW h kc f1 f2 dr cl tr se (nI g) (nI r) inf (nI ct)) _ := hP.sub [0, 1, 2, 3, 4, 5, 6] rfl
  have hKc : va_K (dC, dI) vwCl (gcT kc) s := hK.sub [0, 1, 2, 3, 4, 5] rfl
  refine va_callv (va_runV (As := [.int (nI wa), .int (nI wa)]) (rest := []) ⟨hx, hb, hml, hown, hts⟩ (c_X0_requireWishes l dC dI h kc f1 f2 dr cl tr se g r inf ct wa wa (by first | assumption | omega) (by first | assumption | omega) (by first | assumption | omega)) (cwV 2 hts gX0_rule_X0_requireWishes rfl rfl rfl (by decide +kernel) ⟨Nat.le_of_ble_eq_true rfl, Nat.le_of_ble_eq_true rfl⟩) ⟨gcPR_blind, va_recv hK hP (ci := 0) (q0 := 0) rfl rfl, fun U hU hW => ⟨rfl, by rw [hU]; exact hPc, va_K.moved hW.alike hKc⟩⟩ rfl rfl hl.1 rfl (lv_room (Nat.le_of_ble_eq_true rfl)) dX0_rule_3 ⟨Nat.zero_le _, Nat.zero_le _⟩) hS (fun q _ h => h.elim) (fun q h => h.elim) (fun u t H locs ht hvm hw hB hz1 hk1 hS => ?_)
  have hP := gc_keep hP hk1
  clear hB hz1 hk1 ht hvm
  clear hPc hKc
  refine lv_iload_n hx hb dX0_rule_6 rfl (lv_at hl 1 rfl) ?_
  refine lv_iload_n hx hb dX0_rule_7 rfl (lv_at hl 2 rfl) ?_
  refine lv_icmp_ne (tgt := 21) hx hb dX0_rule_8 (by decide) (fun c_8 => ?_) (fun c_8 => ?_)
  · skip
    exact absurd rfl c_8
  · skip
    obtain ⟨sa, hstr⟩ := hgX.2.2.2.1 (48, "both wishes are the same") (by decide)
    have hat := gcX_at (args := _) (E := "java/lang/IllegalArgumentException") (ic := 50) hgX (by decide +kernel) (fun w hw => hts w (List.mem_cons_of_mem _ (List.mem_append_left _ (List.mem_append_left _ (List.mem_append_right _ hw)))))
    exact vx_throwS hx hb hgl (own := RX0) (cls := "java/lang/IllegalArgumentException") (text := "both wishes are the same") (names := gNm) (ik := 46) (is := 48) (ic := 50) (sa := sa) (A := fun _ => False) hown (by decide +kernel) (by decide +kernel) (hts (.classLink RX0 46 "java/lang/IllegalArgumentException") (by decide +kernel)) (hts (.initialized "java/lang/IllegalArgumentException") (by decide +kernel)) hstr hat (by decide +kernel) hgX.2.1 hgX.2.2.1 hS (hl.1.trans hml.symm) dX0_rule_11 dX0_rule_14 dX0_rule_15 dX0_rule_17 dX0_rule_20 (fun x h => (hnoex x h).elim) (Nat.le_of_ble_eq_true rfl) (Nat.le_of_ble_eq_true rfl) (Nat.le_of_ble_eq_true rfl) (Nat.le_of_ble_eq_true rfl) hlocks (fun t hvm hz hk => ⟨(), trivial, rfl, gcF hS hz hk⟩) hS.2.2 (Nat.le_of_ble_eq_true rfl) (Nat.le_of_ble_eq_true rfl)
set_option maxHeartbeats 4000000 in
set_option maxRecDepth 100000 in
theorem x_X0_rule_3 (l : Launch) (hl : l.stackTraces = false) (dC : Nat → ClassId) (dI : Nat → Nat → Nat) (h : Nat → Nat) (kc : Nat → ClassId) (f1 : Nat → Int32) (f2 : Nat → Int32) (dr : Nat → Int32) (cl : Nat → Int32) (tr : Nat → Int32) (se : Nat → Int32) (g : Nat) (r : Nat) (inf : Int32) (ct : Nat) (wa : Nat) (wb : Nat) (hg : g ≤ 10) (hr9 : r = 30) (ha : wa < 2 * g) (hb2 : wb < 2 * g) (hne : ¬ wa = wb) : vx_Met l yX0_rule wsX0_rule ({ frames := 6, cells := 1, slots := 6, locals := 82 }) (gcPX (dC, dI) [.ref (h 0), .int (nI wa), .int (nI wb)] (gcW h kc f1 f2 dr cl tr se (nI g) (nI r) inf (nI ct)) (gcT kc)) (va_Qi (fun (_ : Int32) (_ : Unit) => False) (fun _ _ => True) (fun _ => False)) (vx_X (fun (_ : Unit) => True) (fun E _ _ => E = "java/lang/IllegalStateException") (fun _ => False)) 1 6 (fun _ => False) := by
  refine vx_ofW (cc := cX0_rule) (maxL := 4) (ret := (some .int)) (by decide) rfl ?_
  intro p e s m args below meth c s₁ B hml hnoex hv
  obtain ⟨rfl, hP, hK, hgX⟩ := hv
  have hx := B.exec
  have hb := B.bytes
  have hr := B.returns
  have hts := atoms_spec (ws := wsX0_rule) B.pre
  have hown : s.vm.findClass RX0 = some m.cls := findClass_of_methodNamed B.named
  have hlocks := B.notSynchronized
  have hS : va_S (fun _ => False) s.heap s.heap [] := va_S.rf
  have hgl := hl
  have hP : va_P (dC, dI) vwCl (gcW h kc f1 f2 dr cl tr se (nI g) (nI r) inf (nI ct)) s.heap := hP
  have hin0 : ∀ w ∈ wsX00, w ∈ wsX0_rule := by decide +kernel
  have hl := lv_entry [.ref (h 0), .int (nI wa), .int (nI wb)] (n := 4) (Nat.le_of_ble_eq_true rfl)
  rw [lg_entry_eq]
  generalize (lg_sl [.ref (h 0), .int (nI wa), .int (nI wb)] ++ List.replicate (4 - (lg_sl [.ref (h 0), .int (nI wa), .int (nI wb)]).length) Slot.unset).toArray = ls at hl ⊢
  have hl : lv_has ls 4 [(0, .ref (h 0)), (1, .int (nI wa)), (2, .int (nI wb))] := hl
  refine lv_aload_n hx hb dX0_rule_0 rfl (lv_at hl 0 rfl) ?_
  refine lv_iload_n hx hb dX0_rule_1 rfl (lv_at hl 1 rfl) ?_
  refine lv_iload_n hx hb dX0_rule_2 rfl (lv_at hl 2 rfl) ?_
  have hPc : va_P (dC, dI) vwCl (gcW h kc f1 f2 dr cl tr se (nI g) (nI r) inf (nI ct)) _ := hP.sub [0, 1, 2, 3, 4, 5, 6] rfl
  have hKc : va_K (dC, dI) vwCl (gcT kc) s := hK.sub [0, 1, 2, 3, 4, 5] rfl
  refine va_callv (va_runV (As := [.int (nI wa), .int (nI wb)]) (rest := []) ⟨hx, hb, hml, hown, hts⟩ (c_X0_requireWishes l dC dI h kc f1 f2 dr cl tr se g r inf ct wa wb (by first | assumption | omega) (by first | assumption | omega) (by first | assumption | omega)) (cwV 2 hts gX0_rule_X0_requireWishes rfl rfl rfl (by decide +kernel) ⟨Nat.le_of_ble_eq_true rfl, Nat.le_of_ble_eq_true rfl⟩) ⟨gcPR_blind, va_recv hK hP (ci := 0) (q0 := 0) rfl rfl, fun U hU hW => ⟨rfl, by rw [hU]; exact hPc, va_K.moved hW.alike hKc⟩⟩ rfl rfl hl.1 rfl (lv_room (Nat.le_of_ble_eq_true rfl)) dX0_rule_3 ⟨Nat.zero_le _, Nat.zero_le _⟩) hS (fun q _ h => h.elim) (fun q h => h.elim) (fun u t H locs ht hvm hw hB hz1 hk1 hS => ?_)
  have hP := gc_keep hP hk1
  clear hB hz1 hk1 ht hvm
  clear hPc hKc
  refine lv_iload_n hx hb dX0_rule_6 rfl (lv_at hl 1 rfl) ?_
  refine lv_iload_n hx hb dX0_rule_7 rfl (lv_at hl 2 rfl) ?_
  refine lv_icmp_ne (tgt := 21) hx hb dX0_rule_8 (by decide) (fun c_8 => ?_) (fun c_8 => ?_)
  · skip
    refine lv_aload_n hx hb dX0_rule_21 rfl (lv_at hl 0 rfl) ?_
    refine va_get (D := (dC, dI)) (ci := 0) (v := .int (nI r)) (C := RX0) (T := TX0) (N := 10) hx hb hts hin0 hown hK hP 0 rfl rfl 7 (by decide) (hts (.fieldLink RX0 51 "GuestChairs" "ruleCount" "I") (by decide +kernel)) (fun _ h9 => h9) rfl dX0_rule_22 ?_
    refine lv_bipush (v := 30) hx hb dX0_rule_25 (by decide) ?_
    refine lv_icmp_lt (tgt := 40) hx hb dX0_rule_27 (by decide) (fun c_27 => ?_) (fun c_27 => ?_)
    · skip
      exact absurd ((nI_ltI (b := 30) (by omega) (by omega)).mp c_27) (by omega)
    · skip
      obtain ⟨sa, hstr⟩ := hgX.2.2.2.1 (54, "the book is full of rules") (by decide)
      have hat := gcX_at (args := _) (E := "java/lang/IllegalStateException") (ic := 39) hgX (by decide +kernel) (fun w hw => hts w (List.mem_cons_of_mem _ (List.mem_append_left _ (List.mem_append_right _ hw))))
      exact vx_throwS hx hb hgl (own := RX0) (cls := "java/lang/IllegalStateException") (text := "the book is full of rules") (names := gNm) (ik := 35) (is := 54) (ic := 39) (sa := sa) (A := fun _ => False) hown (by decide +kernel) (by decide +kernel) (hts (.classLink RX0 35 "java/lang/IllegalStateException") (by decide +kernel)) (hts (.initialized "java/lang/IllegalStateException") (by decide +kernel)) hstr hat (by decide +kernel) hgX.2.1 hgX.2.2.1 hS (hl.1.trans hml.symm) dX0_rule_30 dX0_rule_33 dX0_rule_34 dX0_rule_36 dX0_rule_39 (fun x h => (hnoex x h).elim) (Nat.le_of_ble_eq_true rfl) (Nat.le_of_ble_eq_true rfl) (Nat.le_of_ble_eq_true rfl) (Nat.le_of_ble_eq_true rfl) hlocks (fun t hvm hz hk => ⟨(), trivial, rfl, gcF hS hz hk⟩) hS.2.2 (Nat.le_of_ble_eq_true rfl) (Nat.le_of_ble_eq_true rfl)
  · skip
    exact absurd ((nI_eq (by omega) (by omega)).mp c_8) hne
