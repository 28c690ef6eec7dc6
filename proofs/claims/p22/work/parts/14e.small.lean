/-! BY HAND: the small helpers of the law. -/
/-- a cell of the script, or what stands for it -/
def ceV (L : Nat) (xs : Nat → Int32) (k : Nat) : Int32 := if k < L then xs k else 790386105 * (nI k + 3)
set_option maxHeartbeats 4000000 in
set_option maxRecDepth 100000 in
theorem c_X1_comes (l : Launch) (S : Nat) (x : Nat) (hSS : S < 2 ^ 31) (hx0 : x < 31) : Met l yX1_comes wsX1_comes ({ frames := 0, cells := 0, slots := 0, locals := 0 }) (va_Pc [.int (nI S), .int (nI x)] (fun _ => True)) (va_Qi (fun (rv : Int32) (_u : Unit) => rv = gB (S.testBit x)) (fun _ _ => True) (fun _ => False)) 0 0 (fun _ => False) := by
  refine Met.ofW (cc := cX1_comes) (maxL := 2) (ret := (some .boolean)) (by decide) rfl ?_
  intro p e s m args below meth c s₁ B hml hv
  obtain ⟨rfl, -⟩ := hv
  have hx := B.exec
  have hb := B.bytes
  have hr := B.returns
  have hts := atoms_spec (ws := wsX1_comes) B.pre
  have hown : s.vm.findClass RX1 = some m.cls := findClass_of_methodNamed B.named
  have hlocks := B.notSynchronized
  have hS : va_S (fun _ => False) s.heap s.heap [] := va_S.rf
  have hl := lv_entry [.int (nI S), .int (nI x)] (n := 2) (Nat.le_of_ble_eq_true rfl)
  rw [lg_entry_eq]
  generalize (lg_sl [.int (nI S), .int (nI x)] ++ List.replicate (2 - (lg_sl [.int (nI S), .int (nI x)]).length) Slot.unset).toArray = ls at hl ⊢
  have hl : lv_has ls 2 [(0, .int (nI S)), (1, .int (nI x))] := hl
  refine lv_iload_n hx hb dX1_comes_0 rfl (lv_at hl 0 rfl) ?_
  refine lv_iload_n hx hb dX1_comes_1 rfl (lv_at hl 1 rfl) ?_
  refine lv_ishr hx hb dX1_comes_2 ?_
  refine gc_topi (y := nI (S / 2 ^ x)) (pk_shrN hSS (nI x &&& 31) x (gs_l x (by omega))) ?_
  refine lv_iconst (v := 2) hx hb dX1_comes_3 (by decide) ?_
  refine lv_irem hx hb dX1_comes_4 (by decide) ?_
  refine gc_topi (y := nI (S / 2 ^ x % 2)) (pk_rem (a := S / 2 ^ x) (d := 2) (Nat.lt_of_le_of_lt (Nat.div_le_self _ _) hSS) (by decide) (by decide)) ?_
  refine lv_iconst (v := 1) hx hb dX1_comes_5 (by decide) ?_
  refine lv_icmp_ne (tgt := 13) hx hb dX1_comes_6 (by decide) (fun c_6 => ?_) (fun c_6 => ?_)
  · skip
    refine lv_iconst (v := 0) hx hb dX1_comes_13 (by decide) ?_
    have hpost : (0 : Int32) = gB (S.testBit x) := by rw [qb_f c_6]; rfl
    exact W.zret (ty := .boolean) (v := 0) hx hb hr (by first | rfl | decide | exact gB_nar _) (fun t ht hW => ⟨⟨0, (), rfl, hpost, trivial⟩, hS.F ht⟩) hS.2.2 dX1_comes_14
  · skip
    refine lv_iconst (v := 1) hx hb dX1_comes_9 (by decide) ?_
    refine lv_goto (tgt := 14) hx hb dX1_comes_10 (by decide) ?_
    have hpost : (1 : Int32) = gB (S.testBit x) := by rw [qb_t c_6]; rfl
    exact W.zret (ty := .boolean) (v := 1) hx hb hr (by first | rfl | decide | exact gB_nar _) (fun t ht hW => ⟨⟨1, (), rfl, hpost, trivial⟩, hS.F ht⟩) hS.2.2 dX1_comes_14
set_option maxHeartbeats 4000000 in
set_option maxRecDepth 100000 in
theorem c_X1_holds (l : Launch) (S : Nat) (w : Nat) (hSS : S < 2 ^ 31) (hw0 : w < 60) : Met l yX1_holds wsX1_holds ({ frames := 1, cells := 0, slots := 0, locals := 21 }) (va_Pc [.int (nI S), .int (nI w)] (fun _ => True)) (va_Qi (fun (rv : Int32) (_u : Unit) => rv = gB (hol w S)) (fun _ _ => True) (fun _ => False)) 0 0 (fun _ => False) := by
  refine Met.ofW (cc := cX1_holds) (maxL := 2) (ret := (some .boolean)) (by decide) rfl ?_
  intro p e s m args below meth c s₁ B hml hv
  obtain ⟨rfl, -⟩ := hv
  have hx := B.exec
  have hb := B.bytes
  have hr := B.returns
  have hts := atoms_spec (ws := wsX1_holds) B.pre
  have hown : s.vm.findClass RX1 = some m.cls := findClass_of_methodNamed B.named
  have hlocks := B.notSynchronized
  have hS : va_S (fun _ => False) s.heap s.heap [] := va_S.rf
  have hl := lv_entry [.int (nI S), .int (nI w)] (n := 2) (Nat.le_of_ble_eq_true rfl)
  rw [lg_entry_eq]
  generalize (lg_sl [.int (nI S), .int (nI w)] ++ List.replicate (2 - (lg_sl [.int (nI S), .int (nI w)]).length) Slot.unset).toArray = ls at hl ⊢
  have hl : lv_has ls 2 [(0, .int (nI S)), (1, .int (nI w))] := hl
  refine lv_iload_n hx hb dX1_holds_0 rfl (lv_at hl 0 rfl) ?_
  refine lv_iload_n hx hb dX1_holds_1 rfl (lv_at hl 1 rfl) ?_
  refine lv_iconst (v := 2) hx hb dX1_holds_2 (by decide) ?_
  refine lv_idiv hx hb dX1_holds_3 (by decide) ?_
  refine gc_topi (y := nI (w / 2)) (pk_div (d := 2) (by omega) (by decide) (by decide)) ?_
  refine va_calli (va_runS (As := [.int (nI S), .int (nI (w / 2))]) (rest := []) ⟨hx, hb, hml, hown, hts⟩ (c_X1_comes l S (w / 2) (by first | assumption | omega) (by first | assumption | omega)) (va_cwS 2 hts gX1_holds_X1_comes rfl rfl rfl (by decide +kernel) ⟨Nat.le_of_ble_eq_true rfl, Nat.le_of_ble_eq_true rfl⟩) ⟨fun a U g mk q => q, fun U hU hW => ⟨rfl, trivial⟩⟩ rfl rfl hl.1 rfl (lv_room (Nat.le_of_ble_eq_true rfl)) dX1_holds_4 ⟨Nat.zero_le _, Nat.zero_le _⟩) hS (fun q _ h => h.elim) (fun q h => h.elim) (fun r1 u t H locs ht hvm hw hB hz1 hk1 hS => ?_)
  have hw : r1 = gB (S.testBit (w / 2)) := hw
  subst hw
  clear hw
  clear hB hz1 hk1 ht hvm
  refine lv_iload_n hx hb dX1_holds_7 rfl (lv_at hl 1 rfl) ?_
  refine lv_iconst (v := 2) hx hb dX1_holds_8 (by decide) ?_
  refine lv_irem hx hb dX1_holds_9 (by decide) ?_
  refine gc_topi (y := nI (w % 2)) (pk_rem (d := 2) (by omega) (by decide) (by decide)) ?_
  refine lv_if_ne (tgt := 17) hx hb dX1_holds_10 (by decide) (fun c_10 => ?_) (fun c_10 => ?_)
  · skip
    have hw9 : ¬ w % 2 = 0 := fun q => c_10 (by rw [q]; rfl)
    refine lv_iconst (v := 0) hx hb dX1_holds_17 (by decide) ?_
    refine lv_icmp_ne (tgt := 25) hx hb dX1_holds_18 (by decide) (fun c_18 => ?_) (fun c_18 => ?_)
    · skip
      refine lv_iconst (v := 0) hx hb dX1_holds_25 (by decide) ?_
      have hpost : (0 : Int32) = gB (hol w S) := by rw [qh_a hw9 (gB_t c_18)]; rfl
      exact W.zret (ty := .boolean) (v := 0) hx hb hr (by first | rfl | decide | exact gB_nar _) (fun t ht hW => ⟨⟨0, (), rfl, hpost, trivial⟩, hS.F ht⟩) hS.2.2 dX1_holds_26
    · skip
      refine lv_iconst (v := 1) hx hb dX1_holds_21 (by decide) ?_
      refine lv_goto (tgt := 26) hx hb dX1_holds_22 (by decide) ?_
      have hpost : (1 : Int32) = gB (hol w S) := by rw [qh_a hw9 (gB_eq0 (c_18))]; rfl
      exact W.zret (ty := .boolean) (v := 1) hx hb hr (by first | rfl | decide | exact gB_nar _) (fun t ht hW => ⟨⟨1, (), rfl, hpost, trivial⟩, hS.F ht⟩) hS.2.2 dX1_holds_26
  · skip
    have hw9 : w % 2 = 0 := (nI_eq (b := 0) (by omega) (by decide)).mp (c_10)
    refine lv_iconst (v := 1) hx hb dX1_holds_13 (by decide) ?_
    refine lv_goto (tgt := 18) hx hb dX1_holds_14 (by decide) ?_
    refine lv_icmp_ne (tgt := 25) hx hb dX1_holds_18 (by decide) (fun c_18 => ?_) (fun c_18 => ?_)
    · skip
      refine lv_iconst (v := 0) hx hb dX1_holds_25 (by decide) ?_
      have hpost : (0 : Int32) = gB (hol w S) := by rw [qh_b hw9 (gB_ne1 c_18)]; rfl
      exact W.zret (ty := .boolean) (v := 0) hx hb hr (by first | rfl | decide | exact gB_nar _) (fun t ht hW => ⟨⟨0, (), rfl, hpost, trivial⟩, hS.F ht⟩) hS.2.2 dX1_holds_26
    · skip
      refine lv_iconst (v := 1) hx hb dX1_holds_21 (by decide) ?_
      refine lv_goto (tgt := 26) hx hb dX1_holds_22 (by decide) ?_
      have hpost : (1 : Int32) = gB (hol w S) := by rw [qh_b hw9 (gB_eq1 (c_18))]; rfl
      exact W.zret (ty := .boolean) (v := 1) hx hb hr (by first | rfl | decide | exact gB_nar _) (fun t ht hW => ⟨⟨1, (), rfl, hpost, trivial⟩, hS.F ht⟩) hS.2.2 dX1_holds_26
set_option maxHeartbeats 4000000 in
set_option maxRecDepth 100000 in
theorem c_X1_broken (l : Launch) (dC : Nat → ClassId) (dI : Nat → Nat → Nat) (sa : Nat) (ru : Nat) (st : Nat) (sx : Nat) (gu : Int32) (ma : Int32) (kA : ClassId) (kI : ClassId) (r : Nat) (rr : Nat → Nat) (K : Bk) (Y : va_W) (S : Nat) (hKr : K.1 = r) (hr30 : r ≤ 30) (hw0 : ∀ j, j < r → K.2.1 j < 20 ∧ K.2.2.1 j < 20) (hSS : S < 2 ^ 31) : Met l yX1_broken wsX1_broken ({ frames := 2, cells := 0, slots := 0, locals := 42 }) (gcPR (dC, dI) [.ref sa, .int (nI S)] (([(sa, .inr (1, [.int gu, .ref ru, .ref st, .ref sx, .int ma]))] ++ ([(ru, qa_R kA r (qa_up r rr))])) ++ (qT r rr (qE kI 3 (qF K)) ++ Y)) ([(kA, .array .int), (kI, .int)])) (va_Qi (fun (rv : Int32) (_u : Unit) => rv = gFst (qP K S) r) (fun _ _ => True) (fun _ => False)) 0 0 (fun _ => False) := by
  refine Met.ofW (cc := cX1_broken) (maxL := 3) (ret := (some .int)) (by decide) rfl ?_
  intro p e s m args below meth c s₁ B hml hv
  obtain ⟨rfl, hP, hK⟩ := hv
  have hx := B.exec
  have hb := B.bytes
  have hr := B.returns
  have hts := atoms_spec (ws := wsX1_broken) B.pre
  have hown : s.vm.findClass RX1 = some m.cls := findClass_of_methodNamed B.named
  have hlocks := B.notSynchronized
  have hS : va_S (fun _ => False) s.heap s.heap [] := va_S.rf
  have hP : va_P (dC, dI) vwCl (([(sa, .inr (1, [.int gu, .ref ru, .ref st, .ref sx, .int ma]))] ++ ([(ru, qa_R kA r (qa_up r rr))])) ++ (qT r rr (qE kI 3 (qF K)) ++ Y)) s.heap := hP
  have hin1 : ∀ w ∈ wsX10, w ∈ wsX1_broken := by decide +kernel
  have hl := lv_entry [.ref sa, .int (nI S)] (n := 3) (Nat.le_of_ble_eq_true rfl)
  rw [lg_entry_eq]
  generalize (lg_sl [.ref sa, .int (nI S)] ++ List.replicate (3 - (lg_sl [.ref sa, .int (nI S)]).length) Slot.unset).toArray = ls at hl ⊢
  have hl : lv_has ls 3 [(0, .ref sa), (1, .int (nI S))] := hl
  refine lv_iconst (v := 0) hx hb dX1_broken_0 (by decide) ?_
  refine lv_istore_n (lv' := [(2, .int 0), (0, .ref sa), (1, .int (nI S))]) hx hb dX1_broken_1 rfl hl (by decide) rfl (fun ls hl => ?_)
  refine gc_loop (r) (fun (i : Nat) (H : Heap) (locs : List Loc) (ls : Array Slot) => (∀ j : Nat, j < i → qP K S j = false) ∧ va_P (dC, dI) vwCl (([(sa, .inr (1, [.int gu, .ref ru, .ref st, .ref sx, .int ma]))] ++ ([(ru, qa_R kA r (qa_up r rr))])) ++ (qT r rr (qE kI 3 (qF K)) ++ Y)) H ∧ va_S (fun _ => False) s.heap H locs ∧ lv_has ls 3 [(2, .int (nI i)), (0, .ref sa), (1, .int (nI S))]) 0 (Nat.zero_le _) ⟨(fun j hj => absurd hj (Nat.not_lt_zero j)), hP, hS, lv_sub hl [0, 1, 2] rfl⟩ ?_
  intro i H locs ls hi hI ihi
  obtain ⟨hno, hP, hS, hl⟩ := hI
  refine lv_iload_n hx hb dX1_broken_2 rfl (lv_at hl 0 rfl) ?_
  refine lv_aload_n hx hb dX1_broken_3 rfl (lv_at hl 1 rfl) ?_
  refine va_get (D := (dC, dI)) (ci := 1) (v := .ref ru) (C := RX1) (T := TX1) (N := 5) hx hb hts hin1 hown hK hP 0 rfl rfl 1 (by decide) (hts (.fieldLink RX1 9 "GuestChairsLaw$Sim" "rules" "[[I") (by decide +kernel)) (fun _ h9 => h9) rfl dX1_broken_4 ?_
  refine va_alen hx hb hK hP 1 0 rfl rfl (v := nI r) rfl dX1_broken_7 ?_
  refine lv_icmp_ge (tgt := 61) hx hb dX1_broken_8 (by decide) (fun c_8 => ?_) (fun c_8 => ?_)
  · skip
    have hEi : i = r := gc_ge c_8 (by omega) (by omega)
    refine lv_iconst (v := -1) hx hb dX1_broken_61 (by decide) ?_
    have hpost : ((-1) : Int32) = gFst (qP K S) r := by subst hEi; exact (gFst_no hno).symm
    exact W.iret (v := (-1)) hx hb hr (fun t ht hW => ⟨⟨(-1), (), rfl, hpost, trivial⟩, hS.F ht⟩) hS.2.2 dX1_broken_62
  · skip
    have hLi : i < r := gc_lt c_8 (by omega) (by omega)
    obtain ⟨hk1, hk2⟩ := hw0 i hLi
    refine lv_aload_n hx hb dX1_broken_11 rfl (lv_at hl 1 rfl) ?_
    refine va_get (D := (dC, dI)) (ci := 1) (v := .ref ru) (C := RX1) (T := TX1) (N := 5) hx hb hts hin1 hown hK hP 0 rfl rfl 1 (by decide) (hts (.fieldLink RX1 9 "GuestChairsLaw$Sim" "rules" "[[I") (by decide +kernel)) (fun _ h9 => h9) rfl dX1_broken_12 ?_
    refine lv_iload_n hx hb dX1_broken_15 rfl (lv_at hl 0 rfl) ?_
    refine qa_ald hx hb hK hP 1 0 rfl rfl (v := rr i) (vp_in_nI (n := i) (N := r) (by omega) (by omega)) (by rw [show (nI i : Int32).toNatClampNeg = i from nI_clamp (by omega)]; exact qa_up_at (by omega)) dX1_broken_16 ?_
    refine lv_iconst (v := 2) hx hb dX1_broken_17 (by decide) ?_
    refine va_iald hx hb hK hP _ 1 (qR1 (i := i) (by omega) _ _) rfl (vp_in_nI (n := 2) (N := 3) (by omega) (by omega)) dX1_broken_18 ?_
    rw [show (2 : Int32).toNatClampNeg = 2 from rfl]
    refine gc_topi (y := gB (K.2.2.2 i)) rfl ?_
    refine lv_iconst (v := 1) hx hb dX1_broken_19 (by decide) ?_
    refine lv_icmp_ne (tgt := 55) hx hb dX1_broken_20 (by decide) (fun c_20 => ?_) (fun c_20 => ?_)
    · skip
      refine lv_iinc (v := nI (i + 1)) (lv' := [(2, .int (nI (i + 1))), (0, .ref sa), (1, .int (nI S))]) hx hb dX1_broken_55 hl (k := 0) rfl (nI_1 i) (by decide) rfl (fun ls hl => ?_)
      refine lv_goto (tgt := 2) hx hb dX1_broken_58 (by decide) ?_
      exact ihi H _ ls (by omega) ⟨(lt_s hno (by unfold qP; rw [gB_ne1 c_20]; rfl)), hP, hS, lv_sub hl [0, 1, 2] rfl⟩
    · skip
      refine lv_iload_n hx hb dX1_broken_23 rfl (lv_at hl 2 rfl) ?_
      refine lv_aload_n hx hb dX1_broken_24 rfl (lv_at hl 1 rfl) ?_
      refine va_get (D := (dC, dI)) (ci := 1) (v := .ref ru) (C := RX1) (T := TX1) (N := 5) hx hb hts hin1 hown hK hP 0 rfl rfl 1 (by decide) (hts (.fieldLink RX1 9 "GuestChairsLaw$Sim" "rules" "[[I") (by decide +kernel)) (fun _ h9 => h9) rfl dX1_broken_25 ?_
      refine lv_iload_n hx hb dX1_broken_28 rfl (lv_at hl 0 rfl) ?_
      refine qa_ald hx hb hK hP 1 0 rfl rfl (v := rr i) (vp_in_nI (n := i) (N := r) (by omega) (by omega)) (by rw [show (nI i : Int32).toNatClampNeg = i from nI_clamp (by omega)]; exact qa_up_at (by omega)) dX1_broken_29 ?_
      refine lv_iconst (v := 0) hx hb dX1_broken_30 (by decide) ?_
      refine va_iald hx hb hK hP _ 1 (qR1 (i := i) (by omega) _ _) rfl (vp_in_nI (n := 0) (N := 3) (by omega) (by omega)) dX1_broken_31 ?_
      rw [show (0 : Int32).toNatClampNeg = 0 from rfl]
      refine gc_topi (y := nI (K.2.1 i)) rfl ?_
      refine va_calli (va_runS (As := [.int (nI S), .int (nI (K.2.1 i))]) (rest := []) ⟨hx, hb, hml, hown, hts⟩ (c_X1_holds l S (K.2.1 i) (by first | assumption | omega) (by first | assumption | omega)) (va_cwS 2 hts gX1_broken_X1_holds rfl rfl rfl (by decide +kernel) ⟨Nat.le_of_ble_eq_true rfl, Nat.le_of_ble_eq_true rfl⟩) ⟨fun a U g mk q => q, fun U hU hW => ⟨rfl, trivial⟩⟩ rfl rfl hl.1 rfl (lv_room (Nat.le_of_ble_eq_true rfl)) dX1_broken_32 ⟨Nat.zero_le _, Nat.zero_le _⟩) hS (fun q _ h => h.elim) (fun q h => h.elim) (fun r1 u t H locs ht hvm hw hB hz1 hk1 hS => ?_)
      have hP := gc_keep hP hk1
      have hw : r1 = gB (hol (K.2.1 i) S) := hw
      subst hw
      clear hw
      clear hB hz1 hk1 ht hvm
      refine lv_if_eq (tgt := 55) hx hb dX1_broken_35 (by decide) (fun c_35 => ?_) (fun c_35 => ?_)
      · skip
        have c_35 := gB_f c_35
        refine lv_iinc (v := nI (i + 1)) (lv' := [(2, .int (nI (i + 1))), (0, .ref sa), (1, .int (nI S))]) hx hb dX1_broken_55 hl (k := 0) rfl (nI_1 i) (by decide) rfl (fun ls hl => ?_)
        refine lv_goto (tgt := 2) hx hb dX1_broken_58 (by decide) ?_
        exact ihi H _ ls (by omega) ⟨(lt_s hno (by unfold qP; rw [c_35]; cases K.2.2.2 i <;> rfl)), hP, hS, lv_sub hl [0, 1, 2] rfl⟩
      · skip
        have c_35 := gB_t c_35
        refine lv_iload_n hx hb dX1_broken_38 rfl (lv_at hl 2 rfl) ?_
        refine lv_aload_n hx hb dX1_broken_39 rfl (lv_at hl 1 rfl) ?_
        refine va_get (D := (dC, dI)) (ci := 1) (v := .ref ru) (C := RX1) (T := TX1) (N := 5) hx hb hts hin1 hown hK hP 0 rfl rfl 1 (by decide) (hts (.fieldLink RX1 9 "GuestChairsLaw$Sim" "rules" "[[I") (by decide +kernel)) (fun _ h9 => h9) rfl dX1_broken_40 ?_
        refine lv_iload_n hx hb dX1_broken_43 rfl (lv_at hl 0 rfl) ?_
        refine qa_ald hx hb hK hP 1 0 rfl rfl (v := rr i) (vp_in_nI (n := i) (N := r) (by omega) (by omega)) (by rw [show (nI i : Int32).toNatClampNeg = i from nI_clamp (by omega)]; exact qa_up_at (by omega)) dX1_broken_44 ?_
        refine lv_iconst (v := 1) hx hb dX1_broken_45 (by decide) ?_
        refine va_iald hx hb hK hP _ 1 (qR1 (i := i) (by omega) _ _) rfl (vp_in_nI (n := 1) (N := 3) (by omega) (by omega)) dX1_broken_46 ?_
        rw [show (1 : Int32).toNatClampNeg = 1 from rfl]
        refine gc_topi (y := nI (K.2.2.1 i)) rfl ?_
        refine va_calli (va_runS (As := [.int (nI S), .int (nI (K.2.2.1 i))]) (rest := []) ⟨hx, hb, hml, hown, hts⟩ (c_X1_holds l S (K.2.2.1 i) (by first | assumption | omega) (by first | assumption | omega)) (va_cwS 2 hts gX1_broken_X1_holds rfl rfl rfl (by decide +kernel) ⟨Nat.le_of_ble_eq_true rfl, Nat.le_of_ble_eq_true rfl⟩) ⟨fun a U g mk q => q, fun U hU hW => ⟨rfl, trivial⟩⟩ rfl rfl hl.1 rfl (lv_room (Nat.le_of_ble_eq_true rfl)) dX1_broken_47 ⟨Nat.zero_le _, Nat.zero_le _⟩) hS (fun q _ h => h.elim) (fun q h => h.elim) (fun r2 u t H locs ht hvm hw hB hz1 hk1 hS => ?_)
        have hP := gc_keep hP hk1
        have hw : r2 = gB (hol (K.2.2.1 i) S) := hw
        subst hw
        clear hw
        clear hB hz1 hk1 ht hvm
        refine lv_if_ne (tgt := 55) hx hb dX1_broken_50 (by decide) (fun c_50 => ?_) (fun c_50 => ?_)
        · skip
          have c_50 := gB_t c_50
          refine lv_iinc (v := nI (i + 1)) (lv' := [(2, .int (nI (i + 1))), (0, .ref sa), (1, .int (nI S))]) hx hb dX1_broken_55 hl (k := 0) rfl (nI_1 i) (by decide) rfl (fun ls hl => ?_)
          refine lv_goto (tgt := 2) hx hb dX1_broken_58 (by decide) ?_
          exact ihi H _ ls (by omega) ⟨(lt_s hno (by unfold qP; rw [c_50]; cases K.2.2.2 i <;> cases hol (K.2.1 i) S <;> rfl)), hP, hS, lv_sub hl [0, 1, 2] rfl⟩
        · skip
          have c_50 := gB_f c_50
          refine lv_iload_n hx hb dX1_broken_53 rfl (lv_at hl 0 rfl) ?_
          have hpost : (nI i) = gFst (qP K S) r := (gFst_hit (by omega) (by unfold qP; rw [gB_eq1 (c_20), c_35, c_50]; rfl) hno hLi).symm
          exact W.iret (v := nI i) hx hb hr (fun t ht hW => ⟨⟨nI i, (), rfl, hpost, trivial⟩, hS.F ht⟩) hS.2.2 dX1_broken_54
set_option maxHeartbeats 4000000 in
set_option maxRecDepth 100000 in
theorem c_X1_leads (l : Launch) (dC : Nat → ClassId) (dI : Nat → Nat → Nat) (sa : Nat) (ru : Nat) (st : Nat) (sx : Nat) (gu : Int32) (ma : Int32) (kA : ClassId) (kI : ClassId) (n : Nat) (sr : Nat → Nat) (D : Nat → Nat → Nat) (K : Bk) (Y : va_W) (wa : Nat) (wb : Nat) (hn20 : n ≤ 20) (hFT : FT K n D) (ha : wa < n) (hb2 : wb < n) : Met l yX1_leads wsX1_leads ({ frames := 0, cells := 0, slots := 0, locals := 0 }) (gcPR (dC, dI) [.ref sa, .int (nI wa), .int (nI wb)] (([(sa, .inr (1, [.int gu, .ref ru, .ref st, .ref sx, .int ma]))] ++ ([(st, qa_R kA n (qa_up n sr))])) ++ (Y ++ qT n sr (qE kI n (qD D)))) ([(kA, .array .int), (kI, .int)])) (va_Qi (fun (rv : Int32) (_u : Unit) => rv = gB (fo K wa wb)) (fun _ _ => True) (fun _ => False)) 0 0 (fun _ => False) := by
  refine Met.ofW (cc := cX1_leads) (maxL := 3) (ret := (some .boolean)) (by decide) rfl ?_
  intro p e s m args below meth c s₁ B hml hv
  obtain ⟨rfl, hP, hK⟩ := hv
  have hx := B.exec
  have hb := B.bytes
  have hr := B.returns
  have hts := atoms_spec (ws := wsX1_leads) B.pre
  have hown : s.vm.findClass RX1 = some m.cls := findClass_of_methodNamed B.named
  have hlocks := B.notSynchronized
  have hS : va_S (fun _ => False) s.heap s.heap [] := va_S.rf
  have hP : va_P (dC, dI) vwCl (([(sa, .inr (1, [.int gu, .ref ru, .ref st, .ref sx, .int ma]))] ++ ([(st, qa_R kA n (qa_up n sr))])) ++ (Y ++ qT n sr (qE kI n (qD D)))) s.heap := hP
  have hin1 : ∀ w ∈ wsX10, w ∈ wsX1_leads := by decide +kernel
  have hl := lv_entry [.ref sa, .int (nI wa), .int (nI wb)] (n := 3) (Nat.le_of_ble_eq_true rfl)
  rw [lg_entry_eq]
  generalize (lg_sl [.ref sa, .int (nI wa), .int (nI wb)] ++ List.replicate (3 - (lg_sl [.ref sa, .int (nI wa), .int (nI wb)]).length) Slot.unset).toArray = ls at hl ⊢
  have hl : lv_has ls 3 [(0, .ref sa), (1, .int (nI wa)), (2, .int (nI wb))] := hl
  refine lv_aload_n hx hb dX1_leads_0 rfl (lv_at hl 0 rfl) ?_
  refine va_get (D := (dC, dI)) (ci := 1) (v := .ref st) (C := RX1) (T := TX1) (N := 5) hx hb hts hin1 hown hK hP 0 rfl rfl 2 (by decide) (hts (.fieldLink RX1 27 "GuestChairsLaw$Sim" "steps" "[[I") (by decide +kernel)) (fun _ h9 => h9) rfl dX1_leads_1 ?_
  refine lv_iload_n hx hb dX1_leads_4 rfl (lv_at hl 1 rfl) ?_
  refine qa_ald hx hb hK hP 1 0 rfl rfl (v := sr wa) (vp_in_nI (n := wa) (N := n) (by omega) (by omega)) (by rw [show (nI wa : Int32).toNatClampNeg = wa from nI_clamp (by omega)]; exact qa_up_at (by omega)) dX1_leads_5 ?_
  refine lv_iload_n hx hb dX1_leads_6 rfl (lv_at hl 2 rfl) ?_
  refine va_iald hx hb hK hP _ 1 (qR2 (i := wa) (by omega) _ _) rfl (vp_in_nI (n := wb) (N := n) (by omega) (by omega)) dX1_leads_7 ?_
  rw [show (nI wb : Int32).toNatClampNeg = wb from nI_clamp (by omega)]
  refine gc_topi (y := nI (D wa wb)) rfl ?_
  refine lv_bipush (v := 99) hx hb dX1_leads_8 (by decide) ?_
  refine lv_icmp_ge (tgt := 17) hx hb dX1_leads_10 (by decide) (fun c_10 => ?_) (fun c_10 => ?_)
  · skip
    refine lv_iconst (v := 0) hx hb dX1_leads_17 (by decide) ?_
    have hpost : (0 : Int32) = gB (fo K wa wb) := (hFT wa wb ha hb2).elim (fun q => absurd ((nI_leI (a := 99) (by decide) (by have := q.2.1; omega)).mp c_10) (by have := q.2.1; omega)) (fun q => by rw [q.1]; rfl)
    exact W.zret (ty := .boolean) (v := 0) hx hb hr (by first | rfl | decide | exact gB_nar _) (fun t ht hW => ⟨⟨0, (), rfl, hpost, trivial⟩, hS.F ht⟩) hS.2.2 dX1_leads_18
  · skip
    refine lv_iconst (v := 1) hx hb dX1_leads_13 (by decide) ?_
    refine lv_goto (tgt := 18) hx hb dX1_leads_14 (by decide) ?_
    have hpost : (1 : Int32) = gB (fo K wa wb) := (hFT wa wb ha hb2).elim (fun q => by rw [q.1]; rfl) (fun q => absurd (by rw [q.2.1]; decide) c_10)
    exact W.zret (ty := .boolean) (v := 1) hx hb hr (by first | rfl | decide | exact gB_nar _) (fun t ht hW => ⟨⟨1, (), rfl, hpost, trivial⟩, hS.F ht⟩) hS.2.2 dX1_leads_18
set_option maxHeartbeats 4000000 in
set_option maxRecDepth 100000 in
theorem c_X1_isVain (l : Launch) (dC : Nat → ClassId) (dI : Nat → Nat → Nat) (sa : Nat) (ru : Nat) (st : Nat) (sx : Nat) (gu : Int32) (ma : Int32) (kA : ClassId) (kI : ClassId) (n : Nat) (sr : Nat → Nat) (D : Nat → Nat → Nat) (K : Bk) (Y : va_W) (w : Nat) (hn20 : n ≤ 20) (hFT : FT K n D) (hw0 : w < n) (hw1 : w ^^^ 1 < n) : Met l yX1_isVain wsX1_isVain ({ frames := 1, cells := 0, slots := 0, locals := 22 }) (gcPR (dC, dI) [.ref sa, .int (nI w)] (([(sa, .inr (1, [.int gu, .ref ru, .ref st, .ref sx, .int ma]))] ++ ([(st, qa_R kA n (qa_up n sr))])) ++ (Y ++ qT n sr (qE kI n (qD D)))) ([(kA, .array .int), (kI, .int)])) (va_Qi (fun (rv : Int32) (_u : Unit) => rv = gB (fo K w (w ^^^ 1))) (fun _ _ => True) (fun _ => False)) 0 0 (fun _ => False) := by
  refine Met.ofW (cc := cX1_isVain) (maxL := 2) (ret := (some .boolean)) (by decide) rfl ?_
  intro p e s m args below meth c s₁ B hml hv
  obtain ⟨rfl, hP, hK⟩ := hv
  have hx := B.exec
  have hb := B.bytes
  have hr := B.returns
  have hts := atoms_spec (ws := wsX1_isVain) B.pre
  have hown : s.vm.findClass RX1 = some m.cls := findClass_of_methodNamed B.named
  have hlocks := B.notSynchronized
  have hS : va_S (fun _ => False) s.heap s.heap [] := va_S.rf
  have hP : va_P (dC, dI) vwCl (([(sa, .inr (1, [.int gu, .ref ru, .ref st, .ref sx, .int ma]))] ++ ([(st, qa_R kA n (qa_up n sr))])) ++ (Y ++ qT n sr (qE kI n (qD D)))) s.heap := hP
  have hl := lv_entry [.ref sa, .int (nI w)] (n := 2) (Nat.le_of_ble_eq_true rfl)
  rw [lg_entry_eq]
  generalize (lg_sl [.ref sa, .int (nI w)] ++ List.replicate (2 - (lg_sl [.ref sa, .int (nI w)]).length) Slot.unset).toArray = ls at hl ⊢
  have hl : lv_has ls 2 [(0, .ref sa), (1, .int (nI w))] := hl
  refine lv_aload_n hx hb dX1_isVain_0 rfl (lv_at hl 0 rfl) ?_
  refine lv_iload_n hx hb dX1_isVain_1 rfl (lv_at hl 1 rfl) ?_
  refine lv_iload_n hx hb dX1_isVain_2 rfl (lv_at hl 1 rfl) ?_
  refine lv_iconst (v := 1) hx hb dX1_isVain_3 (by decide) ?_
  refine lv_ixor hx hb dX1_isVain_4 ?_
  refine gc_topi (y := nI (w ^^^ 1)) (nI_xor1 w) ?_
  have hPc : va_P (dC, dI) vwCl (([(sa, .inr (1, [.int gu, .ref ru, .ref st, .ref sx, .int ma]))] ++ ([(st, qa_R kA n (qa_up n sr))])) ++ (Y ++ qT n sr (qE kI n (qD D)))) _ := hP.part [0, 1] rfl
  have hKc : va_K (dC, dI) vwCl ([(kA, .array .int), (kI, .int)]) s := hK.sub [0, 1] rfl
  refine va_calli (va_runV (As := [.int (nI w), .int (nI (w ^^^ 1))]) (rest := []) ⟨hx, hb, hml, hown, hts⟩ (c_X1_leads l dC dI sa ru st sx gu ma kA kI n sr D K Y w (w ^^^ 1) (by first | assumption | omega) (by first | assumption | omega) (by first | assumption | omega) (by first | assumption | omega)) (cwV 2 hts gX1_isVain_X1_leads rfl rfl rfl (by decide +kernel) ⟨Nat.le_of_ble_eq_true rfl, Nat.le_of_ble_eq_true rfl⟩) ⟨gcPR_blind, va_recv hK hP (ci := 1) (q0 := 0) rfl rfl, fun U hU hW => ⟨rfl, by rw [hU]; exact hPc, va_K.moved hW.alike hKc⟩⟩ rfl rfl hl.1 rfl (lv_room (Nat.le_of_ble_eq_true rfl)) dX1_isVain_5 ⟨Nat.zero_le _, Nat.zero_le _⟩) hS (fun q _ h => h.elim) (fun q h => h.elim) (fun r1 u t H locs ht hvm hw hB hz1 hk1 hS => ?_)
  have hP := gc_keep hP hk1
  have hw : r1 = gB (fo K w (w ^^^ 1)) := hw
  subst hw
  clear hw
  clear hB hz1 hk1 ht hvm
  clear hPc hKc
  have hpost : (gB (fo K w (w ^^^ 1))) = gB (fo K w (w ^^^ 1)) := by first | rfl | assumption
  exact W.zret (ty := .boolean) (v := gB (fo K w (w ^^^ 1))) hx hb hr (by first | rfl | decide | exact gB_nar _) (fun t ht hW => ⟨⟨gB (fo K w (w ^^^ 1)), (), rfl, hpost, trivial⟩, hS.F ht⟩) hS.2.2 dX1_isVain_8
set_option maxHeartbeats 4000000 in
set_option maxRecDepth 100000 in
theorem c_X1_isAhead (l : Launch) (dC : Nat → ClassId) (dI : Nat → Nat → Nat) (sa : Nat) (ru : Nat) (st : Nat) (sx : Nat) (gu : Int32) (ma : Int32) (S : Nat) (O : Nat) (z : Nat) (hSS : S < 2 ^ 31) (hO9 : O < 2 ^ 31) (hz9 : z < 31) (hzd : S.testBit z ≠ O.testBit z) (hzl : ∀ y, y < z → S.testBit y = O.testBit y) : Met l yX1_isAhead wsX1_isAhead ({ frames := 1, cells := 0, slots := 0, locals := 21 }) (gcPR (dC, dI) [.ref sa, .int (nI S), .int (nI O)] ([(sa, .inr (1, [.int gu, .ref ru, .ref st, .ref sx, .int ma]))]) ([])) (va_Qi (fun (rv : Int32) (_u : Unit) => rv = gB (S.testBit z)) (fun _ _ => True) (fun _ => False)) 0 0 (fun _ => False) := by
  refine Met.ofW (cc := cX1_isAhead) (maxL := 4) (ret := (some .boolean)) (by decide) rfl ?_
  intro p e s m args below meth c s₁ B hml hv
  obtain ⟨rfl, hP, hK⟩ := hv
  have hx := B.exec
  have hb := B.bytes
  have hr := B.returns
  have hts := atoms_spec (ws := wsX1_isAhead) B.pre
  have hown : s.vm.findClass RX1 = some m.cls := findClass_of_methodNamed B.named
  have hlocks := B.notSynchronized
  have hS : va_S (fun _ => False) s.heap s.heap [] := va_S.rf
  have hP : va_P (dC, dI) vwCl ([(sa, .inr (1, [.int gu, .ref ru, .ref st, .ref sx, .int ma]))]) s.heap := hP
  have hl := lv_entry [.ref sa, .int (nI S), .int (nI O)] (n := 4) (Nat.le_of_ble_eq_true rfl)
  rw [lg_entry_eq]
  generalize (lg_sl [.ref sa, .int (nI S), .int (nI O)] ++ List.replicate (4 - (lg_sl [.ref sa, .int (nI S), .int (nI O)]).length) Slot.unset).toArray = ls at hl ⊢
  have hl : lv_has ls 4 [(0, .ref sa), (1, .int (nI S)), (2, .int (nI O))] := hl
  refine lv_iconst (v := 0) hx hb dX1_isAhead_0 (by decide) ?_
  refine lv_istore_n (lv' := [(3, .int 0), (0, .ref sa), (1, .int (nI S)), (2, .int (nI O))]) hx hb dX1_isAhead_1 rfl hl (by decide) rfl (fun ls hl => ?_)
  refine gc_loop (z) (fun (i : Nat) (H : Heap) (locs : List Loc) (ls : Array Slot) => va_P (dC, dI) vwCl ([(sa, .inr (1, [.int gu, .ref ru, .ref st, .ref sx, .int ma]))]) H ∧ va_S (fun _ => False) s.heap H locs ∧ lv_has ls 4 [(3, .int (nI i)), (0, .ref sa), (1, .int (nI S)), (2, .int (nI O))]) 0 (Nat.zero_le _) ⟨hP, hS, lv_sub hl [0, 1, 2, 3] rfl⟩ ?_
  intro i H locs ls hi hI ihi
  obtain ⟨hP, hS, hl⟩ := hI
  refine lv_iload_n hx hb dX1_isAhead_2 rfl (lv_at hl 2 rfl) ?_
  refine lv_iload_n hx hb dX1_isAhead_3 rfl (lv_at hl 0 rfl) ?_
  refine va_calli (va_runS (As := [.int (nI S), .int (nI i)]) (rest := []) ⟨hx, hb, hml, hown, hts⟩ (c_X1_comes l S i (by first | assumption | omega) (by first | assumption | omega)) (va_cwS 2 hts gX1_isAhead_X1_comes rfl rfl rfl (by decide +kernel) ⟨Nat.le_of_ble_eq_true rfl, Nat.le_of_ble_eq_true rfl⟩) ⟨fun a U g mk q => q, fun U hU hW => ⟨rfl, trivial⟩⟩ rfl rfl hl.1 rfl (lv_room (Nat.le_of_ble_eq_true rfl)) dX1_isAhead_4 ⟨Nat.zero_le _, Nat.zero_le _⟩) hS (fun q _ h => h.elim) (fun q h => h.elim) (fun r1 u t H locs ht hvm hw hB hz1 hk1 hS => ?_)
  have hP := gc_keep hP hk1
  have hw : r1 = gB (S.testBit i) := hw
  subst hw
  clear hw
  clear hB hz1 hk1 ht hvm
  refine lv_iload_n hx hb dX1_isAhead_7 rfl (lv_at hl 3 rfl) ?_
  refine lv_iload_n hx hb dX1_isAhead_8 rfl (lv_at hl 0 rfl) ?_
  refine va_calli (va_runS (As := [.int (nI O), .int (nI i)]) (rest := [.int (gB (S.testBit i))]) ⟨hx, hb, hml, hown, hts⟩ (c_X1_comes l O i (by first | assumption | omega) (by first | assumption | omega)) (va_cwS 2 hts gX1_isAhead_X1_comes rfl rfl rfl (by decide +kernel) ⟨Nat.le_of_ble_eq_true rfl, Nat.le_of_ble_eq_true rfl⟩) ⟨fun a U g mk q => q, fun U hU hW => ⟨rfl, trivial⟩⟩ rfl rfl hl.1 rfl (lv_room (Nat.le_of_ble_eq_true rfl)) dX1_isAhead_9 ⟨Nat.zero_le _, Nat.zero_le _⟩) hS (fun q _ h => h.elim) (fun q h => h.elim) (fun r2 u t H locs ht hvm hw hB hz1 hk1 hS => ?_)
  have hP := gc_keep hP hk1
  have hw : r2 = gB (O.testBit i) := hw
  subst hw
  clear hw
  clear hB hz1 hk1 ht hvm
  refine lv_icmp_ne (tgt := 21) hx hb dX1_isAhead_12 (by decide) (fun c_12 => ?_) (fun c_12 => ?_)
  · skip
    have hiz : i = z := by
      rcases Nat.lt_or_ge i z with q | q
      · exact absurd (by rw [hzl i q]) c_12
      · omega
    refine lv_iload_n hx hb dX1_isAhead_21 rfl (lv_at hl 2 rfl) ?_
    refine lv_iload_n hx hb dX1_isAhead_22 rfl (lv_at hl 0 rfl) ?_
    refine va_calli (va_runS (As := [.int (nI S), .int (nI i)]) (rest := []) ⟨hx, hb, hml, hown, hts⟩ (c_X1_comes l S i (by first | assumption | omega) (by first | assumption | omega)) (va_cwS 2 hts gX1_isAhead_X1_comes rfl rfl rfl (by decide +kernel) ⟨Nat.le_of_ble_eq_true rfl, Nat.le_of_ble_eq_true rfl⟩) ⟨fun a U g mk q => q, fun U hU hW => ⟨rfl, trivial⟩⟩ rfl rfl hl.1 rfl (lv_room (Nat.le_of_ble_eq_true rfl)) dX1_isAhead_23 ⟨Nat.zero_le _, Nat.zero_le _⟩) hS (fun q _ h => h.elim) (fun q h => h.elim) (fun r3 u t H locs ht hvm hw hB hz1 hk1 hS => ?_)
    have hP := gc_keep hP hk1
    have hw : r3 = gB (S.testBit i) := hw
    subst hw
    clear hw
    clear hB hz1 hk1 ht hvm
    have hpost : (gB (S.testBit i)) = gB (S.testBit z) := by rw [hiz]
    exact W.zret (ty := .boolean) (v := gB (S.testBit i)) hx hb hr (by first | rfl | decide | exact gB_nar _) (fun t ht hW => ⟨⟨gB (S.testBit i), (), rfl, hpost, trivial⟩, hS.F ht⟩) hS.2.2 dX1_isAhead_26
  · skip
    have hiz : i < z := by
      rcases Nat.lt_or_ge i z with q | q
      · exact q
      · exact absurd (gB_same (c_12)) (by rw [show i = z by omega]; exact hzd)
    refine lv_iinc (v := nI (i + 1)) (lv' := [(3, .int (nI (i + 1))), (0, .ref sa), (1, .int (nI S)), (2, .int (nI O))]) hx hb dX1_isAhead_15 hl (k := 0) rfl (nI_1 i) (by decide) rfl (fun ls hl => ?_)
    refine lv_goto (tgt := 2) hx hb dX1_isAhead_18 (by decide) ?_
    exact ihi H _ ls (hiz) ⟨hP, hS, lv_sub hl [0, 1, 2, 3] rfl⟩
set_option maxHeartbeats 4000000 in
set_option maxRecDepth 100000 in
theorem c_X1_seat (l : Launch) (dC : Nat → ClassId) (dI : Nat → Nat → Nat) (sa : Nat) (ru : Nat) (st : Nat) (sx : Nat) (gu : Int32) (ma : Int32) (kI : ClassId) (fs : Nat → Int32) (K : Bk) (g : Nat) (hg : g ≤ 10) (hfs : ∀ S, S < 2 ^ g → fs S = qS K S) : Met l yX1_seat wsX1_seat ({ frames := 2, cells := 0, slots := 0, locals := 44 }) (gcPR (dC, dI) [.ref sa] ([(sa, .inr (1, [.int gu, .ref ru, .ref st, .ref sx, .int ma]))] ++ ([(sx, .inl (kI, 2 ^ g, .inl fs))])) ([(kI, .int)])) (va_Qi (fun (rv : Int32) (_u : Unit) => QB K (2 ^ g) rv) (fun _ _ => True) (fun _ => False)) 0 0 (fun _ => False) := by
  refine Met.ofW (cc := cX1_seat) (maxL := 3) (ret := (some .int)) (by decide) rfl ?_
  intro p e s m args below meth c s₁ B hml hv
  obtain ⟨rfl, hP, hK⟩ := hv
  have hx := B.exec
  have hb := B.bytes
  have hr := B.returns
  have hts := atoms_spec (ws := wsX1_seat) B.pre
  have hown : s.vm.findClass RX1 = some m.cls := findClass_of_methodNamed B.named
  have hlocks := B.notSynchronized
  have hS : va_S (fun _ => False) s.heap s.heap [] := va_S.rf
  have hP : va_P (dC, dI) vwCl ([(sa, .inr (1, [.int gu, .ref ru, .ref st, .ref sx, .int ma]))] ++ ([(sx, .inl (kI, 2 ^ g, .inl fs))])) s.heap := hP
  have hin1 : ∀ w ∈ wsX10, w ∈ wsX1_seat := by decide +kernel
  have hl := lv_entry [.ref sa] (n := 3) (Nat.le_of_ble_eq_true rfl)
  rw [lg_entry_eq]
  generalize (lg_sl [.ref sa] ++ List.replicate (3 - (lg_sl [.ref sa]).length) Slot.unset).toArray = ls at hl ⊢
  have hl : lv_has ls 3 [(0, .ref sa)] := hl
  have hg2 : 2 ^ g ≤ 1024 := Nat.pow_le_pow_right (n := 2) (by decide) hg
  refine lv_iconst (v := -1) hx hb dX1_seat_0 (by decide) ?_
  refine lv_istore_n (lv' := [(1, .int (-1)), (0, .ref sa)]) hx hb dX1_seat_1 rfl hl (by decide) rfl (fun ls hl => ?_)
  refine lv_iconst (v := 0) hx hb dX1_seat_2 (by decide) ?_
  refine lv_istore_n (lv' := [(2, .int 0), (1, .int (-1)), (0, .ref sa)]) hx hb dX1_seat_3 rfl hl (by decide) rfl (fun ls hl => ?_)
  refine gc_loop (2 ^ g) (fun (i : Nat) (H : Heap) (locs : List Loc) (ls : Array Slot) => ∃ (x : Int32), (QB K i x) ∧ va_P (dC, dI) vwCl ([(sa, .inr (1, [.int gu, .ref ru, .ref st, .ref sx, .int ma]))] ++ ([(sx, .inl (kI, 2 ^ g, .inl fs))])) H ∧ va_S (fun _ => False) s.heap H locs ∧ lv_has ls 3 [(2, .int (nI i)), (1, .int x), (0, .ref sa)]) 0 (Nat.zero_le _) ⟨(-1), (Or.inl ⟨rfl, fun S hS => absurd hS (Nat.not_lt_zero S)⟩), hP, hS, lv_sub hl [0, 1, 2] rfl⟩ ?_
  intro i H locs ls hi hI ihi
  obtain ⟨x, hQ, hP, hS, hl⟩ := hI
  refine lv_iload_n hx hb dX1_seat_4 rfl (lv_at hl 0 rfl) ?_
  refine lv_aload_n hx hb dX1_seat_5 rfl (lv_at hl 2 rfl) ?_
  refine va_get (D := (dC, dI)) (ci := 1) (v := .ref sx) (C := RX1) (T := TX1) (N := 5) hx hb hts hin1 hown hK hP 0 rfl rfl 3 (by decide) (hts (.fieldLink RX1 36 "GuestChairsLaw$Sim" "sets" "[I") (by decide +kernel)) (fun _ h9 => h9) rfl dX1_seat_6 ?_
  refine va_alen hx hb hK hP 1 0 rfl rfl (v := nI (2 ^ g)) rfl dX1_seat_9 ?_
  refine lv_icmp_ge (tgt := 43) hx hb dX1_seat_10 (by decide) (fun c_10 => ?_) (fun c_10 => ?_)
  · skip
    have hEi : i = 2 ^ g := gc_ge c_10 (by omega) (by omega)
    refine lv_iload_n hx hb dX1_seat_43 rfl (lv_at hl 1 rfl) ?_
    have hpost : QB K (2 ^ g) x := by rw [← hEi]; exact hQ
    exact W.iret (v := x) hx hb hr (fun t ht hW => ⟨⟨x, (), rfl, hpost, trivial⟩, hS.F ht⟩) hS.2.2 dX1_seat_44
  · skip
    have hLi : i < 2 ^ g := gc_lt c_10 (by omega) (by omega)
    refine lv_aload_n hx hb dX1_seat_13 rfl (lv_at hl 2 rfl) ?_
    refine va_get (D := (dC, dI)) (ci := 1) (v := .ref sx) (C := RX1) (T := TX1) (N := 5) hx hb hts hin1 hown hK hP 0 rfl rfl 3 (by decide) (hts (.fieldLink RX1 36 "GuestChairsLaw$Sim" "sets" "[I") (by decide +kernel)) (fun _ h9 => h9) rfl dX1_seat_14 ?_
    refine lv_iload_n hx hb dX1_seat_17 rfl (lv_at hl 0 rfl) ?_
    refine va_iald hx hb hK hP 1 0 rfl rfl (vp_in_nI (n := i) (N := 2 ^ g) (by omega) (by omega)) dX1_seat_18 ?_
    rw [show (nI i : Int32).toNatClampNeg = i from nI_clamp (by omega)]
    refine gc_topi (y := qS K i) (hfs i hLi) ?_
    refine lv_if_lt (tgt := 37) hx hb dX1_seat_19 (by decide) (fun c_19 => ?_) (fun c_19 => ?_)
    · skip
      refine lv_iinc (v := nI (i + 1)) (lv' := [(2, .int (nI (i + 1))), (1, .int x), (0, .ref sa)]) hx hb dX1_seat_37 hl (k := 0) rfl (nI_1 i) (by decide) rfl (fun ls hl => ?_)
      refine lv_goto (tgt := 4) hx hb dX1_seat_40 (by decide) ?_
      exact ihi H _ ls (by omega) ⟨x, (QB_skip hQ (qS_neg c_19)), hP, hS, lv_sub hl [0, 1, 2] rfl⟩
    · skip
      refine lv_iload_n hx hb dX1_seat_22 rfl (lv_at hl 1 rfl) ?_
      refine lv_if_lt (tgt := 35) hx hb dX1_seat_23 (by decide) (fun c_23 => ?_) (fun c_23 => ?_)
      · skip
        refine lv_iload_n hx hb dX1_seat_35 rfl (lv_at hl 0 rfl) ?_
        refine lv_istore_n (lv' := [(1, .int (nI i)), (2, .int (nI i)), (0, .ref sa)]) hx hb dX1_seat_36 rfl hl (by decide) rfl (fun ls hl => ?_)
        refine lv_iinc (v := nI (i + 1)) (lv' := [(2, .int (nI (i + 1))), (1, .int (nI i)), (0, .ref sa)]) hx hb dX1_seat_37 hl (k := 1) rfl (nI_1 i) (by decide) rfl (fun ls hl => ?_)
        refine lv_goto (tgt := 4) hx hb dX1_seat_40 (by decide) ?_
        exact ihi H _ ls (by omega) ⟨(nI i), (QB_first (QB_none (by omega) hQ c_23) (qS_pos c_19)), hP, hS, lv_sub hl [0, 1, 2] rfl⟩
      · skip
        obtain ⟨B, hB1, hBx, hB3, hB4⟩ := QB_some hQ c_23
        subst hBx
        obtain ⟨z, hz1, hz2, hz3⟩ := q_low (g := g) (A := i) (B := B) (by omega) (by omega) (by omega)
        refine lv_aload_n hx hb dX1_seat_26 rfl (lv_at hl 2 rfl) ?_
        refine lv_iload_n hx hb dX1_seat_27 rfl (lv_at hl 0 rfl) ?_
        refine lv_iload_n hx hb dX1_seat_28 rfl (lv_at hl 1 rfl) ?_
        have hPc : va_P (dC, dI) vwCl ([(sa, .inr (1, [.int gu, .ref ru, .ref st, .ref sx, .int ma]))]) _ := hP.sub [0] rfl
        have hKc : va_K (dC, dI) vwCl ([]) s := hK.sub [] rfl
        refine va_calli (va_runV (As := [.int (nI i), .int (nI B)]) (rest := []) ⟨hx, hb, hml, hown, hts⟩ (c_X1_isAhead l dC dI sa ru st sx gu ma i B z (by first | assumption | omega) (by first | assumption | omega) (by first | assumption | omega) (by first | assumption | omega) (by first | assumption | omega)) (cwV 2 hts gX1_seat_X1_isAhead rfl rfl rfl (by decide +kernel) ⟨Nat.le_of_ble_eq_true rfl, Nat.le_of_ble_eq_true rfl⟩) ⟨gcPR_blind, va_recv hK hP (ci := 1) (q0 := 0) rfl rfl, fun U hU hW => ⟨rfl, by rw [hU]; exact hPc, va_K.moved hW.alike hKc⟩⟩ rfl rfl hl.1 rfl (lv_room (Nat.le_of_ble_eq_true rfl)) dX1_seat_29 ⟨Nat.zero_le _, Nat.zero_le _⟩) hS (fun q _ h => h.elim) (fun q h => h.elim) (fun r1 u t H locs ht hvm hw hB hz1 hk1 hS => ?_)
        have hP := gc_keep hP hk1
        have hw : r1 = gB (i.testBit z) := hw
        subst hw
        clear hw
        clear hB hz1 hk1 ht hvm
        clear hPc hKc
        refine lv_if_eq (tgt := 37) hx hb dX1_seat_32 (by decide) (fun c_32 => ?_) (fun c_32 => ?_)
        · skip
          have c_32 := gB_f c_32
          refine lv_iinc (v := nI (i + 1)) (lv' := [(2, .int (nI (i + 1))), (1, .int (nI B)), (0, .ref sa)]) hx hb dX1_seat_37 hl (k := 0) rfl (nI_1 i) (by decide) rfl (fun ls hl => ?_)
          refine lv_goto (tgt := 4) hx hb dX1_seat_40 (by decide) ?_
          exact ihi H _ ls (by omega) ⟨(nI B), (QB_keep hB1 hB3 hB4 hz2 hz3 c_32), hP, hS, lv_sub hl [0, 1, 2] rfl⟩
        · skip
          have c_32 := gB_t c_32
          refine lv_iload_n hx hb dX1_seat_35 rfl (lv_at hl 0 rfl) ?_
          refine lv_istore_n (lv' := [(1, .int (nI i)), (2, .int (nI i)), (0, .ref sa)]) hx hb dX1_seat_36 rfl hl (by decide) rfl (fun ls hl => ?_)
          refine lv_iinc (v := nI (i + 1)) (lv' := [(2, .int (nI (i + 1))), (1, .int (nI i)), (0, .ref sa)]) hx hb dX1_seat_37 hl (k := 1) rfl (nI_1 i) (by decide) rfl (fun ls hl => ?_)
          refine lv_goto (tgt := 4) hx hb dX1_seat_40 (by decide) ?_
          exact ihi H _ ls (by omega) ⟨(nI i), (QB_new hB1 hB4 (qS_pos c_19) hz2 hz3 c_32), hP, hS, lv_sub hl [0, 1, 2] rfl⟩
set_option maxHeartbeats 4000000 in
set_option maxRecDepth 100000 in
theorem c_L_below (l : Launch) (v : Int32) (n : Nat) (hn0 : 0 < n) (hn1 : n < 2 ^ 31) : Met l yL_below wsL_below ({ frames := 0, cells := 0, slots := 0, locals := 0 }) (va_Pc [.int v, .int (nI n)] (fun _ => True)) (va_Qi (fun (rv : Int32) (_u : Unit) => rv = nI (v.toBitVec.toNat % 2 ^ 31 % n)) (fun _ _ => True) (fun _ => False)) 0 0 (fun _ => False) := by
  refine Met.ofW (cc := cL_below) (maxL := 2) (ret := (some .int)) (by decide) rfl ?_
  intro p e s m args below meth c s₁ B hml hv
  obtain ⟨rfl, -⟩ := hv
  have hx := B.exec
  have hb := B.bytes
  have hr := B.returns
  have hts := atoms_spec (ws := wsL_below) B.pre
  have hown : s.vm.findClass RL = some m.cls := findClass_of_methodNamed B.named
  have hlocks := B.notSynchronized
  have hS : va_S (fun _ => False) s.heap s.heap [] := va_S.rf
  have hl := lv_entry [.int v, .int (nI n)] (n := 2) (Nat.le_of_ble_eq_true rfl)
  rw [lg_entry_eq]
  generalize (lg_sl [.int v, .int (nI n)] ++ List.replicate (2 - (lg_sl [.int v, .int (nI n)]).length) Slot.unset).toArray = ls at hl ⊢
  have hl : lv_has ls 2 [(0, .int v), (1, .int (nI n))] := hl
  refine lv_iload_n hx hb dL_below_0 rfl (lv_at hl 0 rfl) ?_
  refine lv_ldc (v := 2147483647) hx hb hown (hts (.constant RL 7 (2147483647)) (by decide +kernel)) dL_below_1 ?_
  refine lv_iand hx hb dL_below_3 ?_
  refine gc_topi (y := nI (v.toBitVec.toNat % 2 ^ 31)) (pk_and v (m := 2147483647) 31 (by decide)) ?_
  refine lv_iload_n hx hb dL_below_4 rfl (lv_at hl 1 rfl) ?_
  refine lv_irem hx hb dL_below_5 (fun q => absurd ((nI_eq (b := 0) hn1 (by decide)).mp q) (by omega)) ?_
  refine gc_topi (y := nI (v.toBitVec.toNat % 2 ^ 31 % n)) (pk_rem (d := n) (Nat.mod_lt _ (by decide)) hn0 hn1) ?_
  have hpost : (nI (v.toBitVec.toNat % 2 ^ 31 % n)) = nI (v.toBitVec.toNat % 2 ^ 31 % n) := by first | rfl | assumption
  exact W.iret (v := nI (v.toBitVec.toNat % 2 ^ 31 % n)) hx hb hr (fun t ht hW => ⟨⟨nI (v.toBitVec.toNat % 2 ^ 31 % n), (), rfl, hpost, trivial⟩, hS.F ht⟩) hS.2.2 dL_below_6
set_option maxHeartbeats 4000000 in
set_option maxRecDepth 100000 in
theorem c_L_cell (l : Launch) (k : Nat) (b L : Nat) (xs : Nat → Int32) (hk : k < 1000) (hL : L < 2 ^ 31) : Met l yL_cell wsL_cell ({ frames := 0, cells := 0, slots := 0, locals := 0 }) (qaPC [.ref b, .int (nI k)] b L xs) (va_Qi (fun (rv : Int32) (_u : Unit) => rv = ceV L xs k) (fun _ _ => True) (fun _ => False)) 0 0 (fun _ => False) := by
  refine Met.ofW (cc := cL_cell) (maxL := 2) (ret := (some .int)) (by decide) rfl ?_
  intro p e s m args below meth c s₁ B hml hv
  obtain ⟨rfl, hX, hbl⟩ := hv
  have hx := B.exec
  have hb := B.bytes
  have hr := B.returns
  have hts := atoms_spec (ws := wsL_cell) B.pre
  have hown : s.vm.findClass RL = some m.cls := findClass_of_methodNamed B.named
  have hlocks := B.notSynchronized
  have hS : va_S (fun _ => False) s.heap s.heap [] := va_S.rf
  have hbA : ¬ (fun _ : Nat => False) b := id
  have hl := lv_entry [.ref b, .int (nI k)] (n := 2) (Nat.le_of_ble_eq_true rfl)
  rw [lg_entry_eq]
  generalize (lg_sl [.ref b, .int (nI k)] ++ List.replicate (2 - (lg_sl [.ref b, .int (nI k)]).length) Slot.unset).toArray = ls at hl ⊢
  have hl : lv_has ls 2 [(0, .ref b), (1, .int (nI k))] := hl
  refine lv_iload_n hx hb dL_cell_0 rfl (lv_at hl 1 rfl) ?_
  refine lv_aload_n hx hb dL_cell_1 rfl (lv_at hl 0 rfl) ?_
  refine va_slen hx hb hX hbl hbA hS dL_cell_2 ?_
  refine lv_icmp_ge (tgt := 12) hx hb dL_cell_3 (by decide) (fun c_3 => ?_) (fun c_3 => ?_)
  · skip
    have hk9 : ¬ k < L := fun q => absurd ((nI_leI (by omega) (by omega)).mp c_3) (by omega)
    refine lv_ldc (v := 790386105) hx hb hown (hts (.constant RL 8 (790386105)) (by decide +kernel)) dL_cell_12 ?_
    refine lv_iload_n hx hb dL_cell_14 rfl (lv_at hl 1 rfl) ?_
    refine lv_iconst (v := 3) hx hb dL_cell_15 (by decide) ?_
    refine lv_iadd hx hb dL_cell_16 ?_
    refine lv_imul hx hb dL_cell_17 ?_
    have hpost : (790386105 * (nI k + 3)) = ceV L xs k := by unfold ceV; rw [if_neg hk9]
    exact W.iret (v := (790386105 * (nI k + 3))) hx hb hr (fun t ht hW => ⟨⟨(790386105 * (nI k + 3)), (), rfl, hpost, trivial⟩, hS.F ht⟩) hS.2.2 dL_cell_18
  · skip
    have hk9 : k < L := Nat.not_le.mp (fun q => c_3 (nI_le q (by omega)))
    refine lv_aload_n hx hb dL_cell_6 rfl (lv_at hl 0 rfl) ?_
    refine lv_iload_n hx hb dL_cell_7 rfl (lv_at hl 1 rfl) ?_
    refine va_sld hx hb hX hbl hbA hS (vp_in_nI (n := k) (N := L) (by omega) (by omega)) dL_cell_8 ?_
    rw [show (nI k : Int32).toNatClampNeg = k from nI_clamp (by omega)]
    refine lv_goto (tgt := 18) hx hb dL_cell_9 (by decide) ?_
    have hpost : (xs k) = ceV L xs k := by unfold ceV; rw [if_pos hk9]
    exact W.iret (v := xs k) hx hb hr (fun t ht hW => ⟨⟨xs k, (), rfl, hpost, trivial⟩, hS.F ht⟩) hS.2.2 dL_cell_18
