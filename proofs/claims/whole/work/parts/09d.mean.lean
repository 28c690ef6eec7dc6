/-! MEANS (which may draw a NaN, as far as the machine's rows tell), and the reference's checksum. -/
noncomputable def gMv (sum cnt : Int32) : UInt64 := if cnt = 0 then FP.dconst0 else FP.ddiv (FP.i2d sum) (FP.i2d cnt)
set_option maxHeartbeats 4000000 in
set_option maxRecDepth 100000 in
theorem c_X0_mean (l : Launch) (dC : Nat → ClassId) (dI : Nat → Nat → Nat) (h : Nat → Nat) (kc : Nat → ClassId) (f1 : Nat → Int32) (f2 : Nat → Int32) (dr : Nat → Int32) (cl : Nat → Int32) (tr : Nat → Int32) (se : Nat → Int32) (g : Nat) (r : Nat) (inf : Int32) (ct : Nat) (hc : ct ≤ 1024) : MetD lw_cs l yX0_mean wsX0_mean ({ frames := 2, cells := 0, slots := 0, locals := 40 }) (gcPR (dC, dI) [.ref (h 0)] (gcW h kc f1 f2 dr cl tr se (nI g) (nI r) inf (nI ct)) (gcT kc)) (va_Qd (fun (rv : UInt64) (_u : Unit) => alike64 rv (gMv (gSu se ct) (nI ct)) = true) (fun _ _ => True) (fun _ => False)) 0 0 (fun _ => False) := by
  refine MetD.ofW (cc := cX0_mean) (maxL := 3) (ret := (some .double)) (by decide) rfl ?_
  intro p e s m args below meth c s₁ B hml hv hd0
  obtain ⟨rfl, hP, hK⟩ := hv
  have hx := B.exec
  have hb := B.bytes
  have hr := B.returns
  have hts := atoms_spec (ws := wsX0_mean) B.pre
  have hts := dr_words hts s.drawn
  have hown : s.vm.findClass RX0 = some m.cls := findClass_of_methodNamed B.named
  have hlocks := B.notSynchronized
  have hS : va_S (fun _ => False) s.heap s.heap [] := va_S.rf
  have hP : va_P (dC, dI) vwCl (gcW h kc f1 f2 dr cl tr se (nI g) (nI r) inf (nI ct)) s.heap := hP
  have hin0 : ∀ w ∈ wsX00, w ∈ wsX0_mean := by decide +kernel
  have hl := lv_entry [.ref (h 0)] (n := 3) (Nat.le_of_ble_eq_true rfl)
  rw [lg_entry_eq]
  generalize (lg_sl [.ref (h 0)] ++ List.replicate (3 - (lg_sl [.ref (h 0)]).length) Slot.unset).toArray = ls at hl ⊢
  have hl : lv_has ls 3 [(0, .ref (h 0))] := hl
  refine lv_aload_n hx hb dX0_mean_0 rfl (lv_at hl 0 rfl) ?_
  refine va_get (D := (dC, dI)) (ci := 0) (v := .int (nI ct)) (C := RX0) (T := TX0) (N := 10) hx hb hts hin0 hown hK hP 0 rfl rfl 9 (by decide) (hts (.fieldLink RX0 111 "GuestChairs" "seatingCount" "I") (by decide +kernel)) (fun _ h9 => h9) rfl dX0_mean_1 ?_
  refine lv_if_ne (tgt := 9) hx hb dX0_mean_4 (by decide) (fun c_4 => ?_) (fun c_4 => ?_)
  · skip
    refine lv_iconst (v := 0) hx hb dX0_mean_9 (by decide) ?_
    refine lv_istore_n (lv' := [(1, .int 0), (0, .ref (h 0))]) hx hb dX0_mean_10 rfl hl (by decide) rfl (fun ls hl => ?_)
    refine lv_iconst (v := 0) hx hb dX0_mean_11 (by decide) ?_
    refine lv_istore_n (lv' := [(2, .int 0), (1, .int 0), (0, .ref (h 0))]) hx hb dX0_mean_12 rfl hl (by decide) rfl (fun ls hl => ?_)
    refine gc_loop (ct) (fun (i : Nat) (H : Heap) (locs : List Loc) (ls : Array Slot) => ∃ (x : Int32), x = gSu se i ∧ va_P (dC, dI) vwCl (gcW h kc f1 f2 dr cl tr se (nI g) (nI r) inf (nI ct)) H ∧ va_S (fun _ => False) s.heap H locs ∧ lv_has ls 3 [(2, .int (nI i)), (1, .int x), (0, .ref (h 0))]) 0 (Nat.zero_le _) ⟨0, (by first | rfl | assumption | omega), hP, hS, lv_sub hl [0, 1, 2] rfl⟩ ?_
    intro i H locs ls hi hI ihi
    obtain ⟨x, e_x, hP, hS, hl⟩ := hI
    refine lv_iload_n hx hb dX0_mean_13 rfl (lv_at hl 0 rfl) ?_
    refine lv_aload_n hx hb dX0_mean_14 rfl (lv_at hl 2 rfl) ?_
    refine va_get (D := (dC, dI)) (ci := 0) (v := .int (nI ct)) (C := RX0) (T := TX0) (N := 10) hx hb hts hin0 hown hK hP 0 rfl rfl 9 (by decide) (hts (.fieldLink RX0 111 "GuestChairs" "seatingCount" "I") (by decide +kernel)) (fun _ h9 => h9) rfl dX0_mean_15 ?_
    refine lv_icmp_ge (tgt := 41) hx hb dX0_mean_18 (by decide) (fun c_18 => ?_) (fun c_18 => ?_)
    · skip
      have hEi : i = ct := gc_ge c_18 (by omega) (by omega)
      refine lv_iload_n hx hb dX0_mean_41 rfl (lv_at hl 1 rfl) ?_
      refine lv_i2d hx hb dX0_mean_42 ?_
      refine lv_aload_n hx hb dX0_mean_43 rfl (lv_at hl 2 rfl) ?_
      refine va_get (D := (dC, dI)) (ci := 0) (v := .int (nI ct)) (C := RX0) (T := TX0) (N := 10) hx hb hts hin0 hown hK hP 0 rfl rfl 9 (by decide) (hts (.fieldLink RX0 111 "GuestChairs" "seatingCount" "I") (by decide +kernel)) (fun _ h9 => h9) rfl dX0_mean_44 ?_
      refine lv_i2d hx hb dX0_mean_47 ?_
      refine lv_ddiv_any hd0 lw_bits hx hb dX0_mean_48 (fun rq d1 hal hd1 => ?_)
      have hpost : alike64 rq (gMv (gSu se ct) (nI ct)) = true := by rw [gMv, if_neg c_4, ← hEi, ← e_x, hEi]; exact hal
      refine W.endD hd1 ?_
      exact W.dret (v := rq) hx hb hr (fun t ht hW => ⟨⟨rq, (), rfl, hpost, trivial⟩, hS.F ht⟩) hS.2.2 dX0_mean_49
    · skip
      have hLi : i < ct := gc_lt c_18 (by omega) (by omega)
      refine lv_iload_n hx hb dX0_mean_21 rfl (lv_at hl 1 rfl) ?_
      refine lv_aload_n hx hb dX0_mean_22 rfl (lv_at hl 2 rfl) ?_
      refine va_get (D := (dC, dI)) (ci := 0) (v := .ref (h 6)) (C := RX0) (T := TX0) (N := 10) hx hb hts hin0 hown hK hP 0 rfl rfl 5 (by decide) (hts (.fieldLink RX0 25 "GuestChairs" "seated" "[I") (by decide +kernel)) (fun _ h9 => h9) rfl dX0_mean_23 ?_
      refine lv_iload_n hx hb dX0_mean_26 rfl (lv_at hl 0 rfl) ?_
      have hPc : va_P (dC, dI) vwCl ([((h 6), .inl ((kc 6), 1024, .inl se))]) _ := hP.sub [6] rfl
      have hKc : va_K (dC, dI) vwCl ([((kc 6), .int)]) s := hK.sub [5] rfl
      refine va_calli (va_runS (As := [.ref (h 6), .int (nI i)]) (rest := [.int x]) ⟨hx, hb, hml, hown, hts⟩ (c_X0_at l dC dI (h 6) (kc 6) 1024 se (nI i) (by decide)) (va_cwS 2 hts gX0_mean_X0_at rfl rfl rfl (by decide +kernel) ⟨Nat.le_of_ble_eq_true rfl, Nat.le_of_ble_eq_true rfl⟩) ⟨gcPR_blind, fun U hU hW => ⟨rfl, by rw [hU]; exact hPc, va_K.moved hW.alike hKc⟩⟩ rfl rfl hl.1 rfl (lv_room (Nat.le_of_ble_eq_true rfl)) dX0_mean_27 ⟨Nat.zero_le _, Nat.zero_le _⟩) hS (fun q _ h => h.elim) (fun q h => h.elim) (fun r1 u t H locs ht hvm hw hB hz1 hk1 hS => ?_)
      have hP := gc_keep hP hk1
      have hw : r1 = gAt 1024 se (nI i) := hw
      subst hw
      clear hw
      clear hB hz1 hk1 ht hvm
      clear hPc hKc
      refine va_calli (va_runS (As := [.int (gAt 1024 se (nI i))]) (rest := [.int x]) ⟨hx, hb, hml, hown, hts⟩ (c_X0_countComing l (gAt 1024 se (nI i))) (va_cwS 1 hts gX0_mean_X0_countComing rfl rfl rfl (by decide +kernel) ⟨Nat.le_of_ble_eq_true rfl, Nat.le_of_ble_eq_true rfl⟩) ⟨fun a U g mk q => q, fun U hU hW => ⟨rfl, trivial⟩⟩ rfl rfl hl.1 rfl (lv_room (Nat.le_of_ble_eq_true rfl)) dX0_mean_30 ⟨Nat.zero_le _, Nat.zero_le _⟩) hS (fun q _ h => h.elim) (fun q h => h.elim) (fun r2 u t H locs ht hvm hw hB hz1 hk1 hS => ?_)
      have hP := gc_keep hP hk1
      have hw : r2 = gBC ((gAt 1024 se (nI i)) &&& 349525) := hw
      subst hw
      clear hw
      clear hB hz1 hk1 ht hvm
      refine lv_iadd hx hb dX0_mean_33 ?_
      refine lv_istore_n (lv' := [(1, .int (x + gBC ((gAt 1024 se (nI i)) &&& 349525))), (2, .int (nI i)), (0, .ref (h 0))]) hx hb dX0_mean_34 rfl hl (by decide) rfl (fun ls hl => ?_)
      refine lv_iinc (v := nI (i + 1)) (lv' := [(2, .int (nI (i + 1))), (1, .int (x + gBC ((gAt 1024 se (nI i)) &&& 349525))), (0, .ref (h 0))]) hx hb dX0_mean_35 hl (k := 1) rfl (nI_1 i) (by decide) rfl (fun ls hl => ?_)
      refine lv_goto (tgt := 13) hx hb dX0_mean_38 (by decide) ?_
      exact ihi H _ ls (by omega) ⟨(x + gBC ((gAt 1024 se (nI i)) &&& 349525)), (by rw [e_x]; rfl), hP, hS, lv_sub hl [0, 1, 2] rfl⟩
  · skip
    refine lv_dconst0 hx hb dX0_mean_7 ?_
    have hpost : alike64 FP.dconst0 (gMv (gSu se ct) (nI ct)) = true := by rw [gMv, if_pos c_4]; simp [alike64]
    refine W.endD hd0 ?_
    exact W.dret (v := FP.dconst0) hx hb hr (fun t ht hW => ⟨⟨FP.dconst0, (), rfl, hpost, trivial⟩, hS.F ht⟩) hS.2.2 dX0_mean_8
set_option maxHeartbeats 4000000 in
set_option maxRecDepth 100000 in
theorem c_X1_mean (l : Launch) (dC : Nat → ClassId) (dI : Nat → Nat → Nat) (h : Nat → Nat) (kc : Nat → ClassId) (f1 : Nat → Int32) (f2 : Nat → Int32) (of : Nat → Int32) (ro : Nat → Int32) (fa : Nat → Int32) (th : Int32) (g : Nat) (r : Nat) (x1 : Int32) (x2 : Int32) (K : Bk) (sz : Nat) (hBk : mOK K g r f1 f2 of) (hg : g ≤ 10) (hr30 : r ≤ 30) : MetD lw_cs l yX1_mean wsX1_mean ({ frames := 4, cells := 0, slots := 0, locals := 87 }) (gcPM (dC, dI) [.ref (h 0)] (gmW h kc f1 f2 of ro fa th (nI g) (nI r) x1 x2) (gmT kc) sz) (va_Qd (fun (rv : UInt64) (_u : Unit) => alike64 rv (gMv (mSu K x1 x2 (2 ^ g)) (mAll K x1 x2 g)) = true) (fun _u t9 => va_P (dC, dI) vwCl (gmW h kc f1 f2 of ro fa 0 (nI g) (nI r) x1 x2) t9.heap ∧ va_D (va_A (gmW h kc f1 f2 of ro fa th (nI g) (nI r) x1 x2) sz) (gmW h kc f1 f2 of ro fa 0 (nI g) (nI r) x1 x2)) (va_A (gmW h kc f1 f2 of ro fa th (nI g) (nI r) x1 x2) sz)) 0 0 (va_A (gmW h kc f1 f2 of ro fa th (nI g) (nI r) x1 x2) sz) := by
  refine MetD.ofW (cc := cX1_mean) (maxL := 3) (ret := (some .double)) (by decide) rfl ?_
  intro p e s m args below meth c s₁ B hml hv hd0
  obtain ⟨rfl, hsz, hP, hK, hD0⟩ := hv
  have hx := B.exec
  have hb := B.bytes
  have hr := B.returns
  have hts := atoms_spec (ws := wsX1_mean) B.pre
  have hts := dr_words hts s.drawn
  have hown : s.vm.findClass RX1 = some m.cls := findClass_of_methodNamed B.named
  have hlocks := B.notSynchronized
  subst hsz
  have hD := hD0.self (sz := s.heap.size)
  generalize hAe : va_A (gmW h kc f1 f2 of ro fa th (nI g) (nI r) x1 x2) s.heap.size = A at hD ⊢
  have hA : ∀ q : Nat, s.heap.size ≤ q → A q := fun q h => by rw [← hAe]; exact Or.inr h
  have hS : va_S A s.heap s.heap [] := va_S.rf
  have hP : va_P (dC, dI) vwCl (gmW h kc f1 f2 of ro fa th (nI g) (nI r) x1 x2) s.heap := hP
  have hin1 : ∀ w ∈ wsX10, w ∈ wsX1_mean := by decide +kernel
  have hl := lv_entry [.ref (h 0)] (n := 3) (Nat.le_of_ble_eq_true rfl)
  rw [lg_entry_eq]
  generalize (lg_sl [.ref (h 0)] ++ List.replicate (3 - (lg_sl [.ref (h 0)]).length) Slot.unset).toArray = ls at hl ⊢
  have hl : lv_has ls 3 [(0, .ref (h 0))] := hl
  have hg2 : 2 ^ g ≤ 1024 := Nat.pow_le_pow_right (n := 2) (by decide) hg
  refine lv_aload_n hx hb dX1_mean_0 rfl (lv_at hl 0 rfl) ?_
  refine lv_iconst (v := 0) hx hb dX1_mean_1 (by decide) ?_
  refine va_put (D := (dC, dI)) (ci := 1) (v := .int 0) (ty := .int) (C := RX1) (T := TX1) (N := 10) hx hb hts hin1 tyX1 tyX1_ok nmX1 hown hK hP hD hS 0 rfl rfl 0 (by decide) (hts (.fieldLink RX1 33 "GuestChairsModel" "thrown" "I") (by decide +kernel)) (fun _ h9 => h9) rfl (by decide +kernel) rfl rfl (Nat.le_of_ble_eq_true rfl) dX1_mean_2 (fun H locs hP hD hS => ?_)
  have hP : va_P (dC, dI) vwCl (gmW h kc f1 f2 of ro fa 0 (nI g) (nI r) x1 x2) H := hP
  have hD : va_D A (gmW h kc f1 f2 of ro fa 0 (nI g) (nI r) x1 x2) := hD
  refine lv_iconst (v := 0) hx hb dX1_mean_5 (by decide) ?_
  refine lv_istore_n (lv' := [(1, .int 0), (0, .ref (h 0))]) hx hb dX1_mean_6 rfl hl (by decide) rfl (fun ls hl => ?_)
  refine lv_iconst (v := 0) hx hb dX1_mean_7 (by decide) ?_
  refine lv_istore_n (lv' := [(2, .int 0), (1, .int 0), (0, .ref (h 0))]) hx hb dX1_mean_8 rfl hl (by decide) rfl (fun ls hl => ?_)
  refine gc_loop (2 ^ g) (fun (i : Nat) (H : Heap) (locs : List Loc) (ls : Array Slot) => ∃ (x : Int32), x = mSu K x1 x2 i ∧ va_P (dC, dI) vwCl (gmW h kc f1 f2 of ro fa 0 (nI g) (nI r) x1 x2) H ∧ va_D A (gmW h kc f1 f2 of ro fa 0 (nI g) (nI r) x1 x2) ∧ va_S A s.heap H locs ∧ lv_has ls 3 [(2, .int (nI i)), (1, .int x), (0, .ref (h 0))]) 0 (Nat.zero_le _) ⟨0, (by first | rfl | assumption | omega), hP, hD, hS, lv_sub hl [0, 1, 2] rfl⟩ ?_
  intro i H locs ls hi hI ihi
  obtain ⟨x, e_x, hP, hD, hS, hl⟩ := hI
  refine lv_iload_n hx hb dX1_mean_9 rfl (lv_at hl 0 rfl) ?_
  refine lv_iconst (v := 1) hx hb dX1_mean_10 (by decide) ?_
  refine lv_aload_n hx hb dX1_mean_11 rfl (lv_at hl 2 rfl) ?_
  refine va_get (D := (dC, dI)) (ci := 1) (v := .int (nI g)) (C := RX1) (T := TX1) (N := 10) hx hb hts hin1 hown hK hP 0 rfl rfl 1 (by decide) (hts (.fieldLink RX1 36 "GuestChairsModel" "guests" "I") (by decide +kernel)) (fun _ h9 => h9) rfl dX1_mean_12 ?_
  refine lv_ishl hx hb dX1_mean_15 ?_
  refine gc_topi (y := nI (2 ^ g)) (gc_shl1 hg) ?_
  refine lv_icmp_ge (tgt := 45) hx hb dX1_mean_16 (by decide) (fun c_16 => ?_) (fun c_16 => ?_)
  · skip
    have hEi : i = 2 ^ g := gc_ge c_16 (by omega) (by omega)
    refine lv_aload_n hx hb dX1_mean_45 rfl (lv_at hl 2 rfl) ?_
    have hPc : va_P (dC, dI) vwCl (gmW h kc f1 f2 of ro fa 0 (nI g) (nI r) x1 x2) _ := hP.sub [0, 1, 2, 3, 4, 5] rfl
    have hKc : va_K (dC, dI) vwCl (gmT kc) s := hK.sub [0, 1, 2, 3, 4] rfl
    refine va_calli (va_runV (As := []) (rest := []) ⟨hx, hb, hml, hown, hts⟩ (c_X1_all l dC dI h kc f1 f2 of ro fa 0 g r x1 x2 K (by first | assumption | omega) (by first | assumption | omega) (by first | assumption | omega)) (cwV 0 hts gX1_mean_X1_all rfl rfl rfl (by decide +kernel) ⟨Nat.le_of_ble_eq_true rfl, Nat.le_of_ble_eq_true rfl⟩) ⟨gcPR_blind, va_recv hK hP (ci := 1) (q0 := 0) rfl rfl, fun U hU hW => ⟨rfl, by rw [hU]; exact hPc, va_K.moved hW.alike hKc⟩⟩ rfl rfl hl.1 rfl (lv_room (Nat.le_of_ble_eq_true rfl)) dX1_mean_46 ⟨Nat.zero_le _, Nat.zero_le _⟩) hS (fun q _ h => h.elim) (fun q h => h.elim) (fun r1 u t H locs ht hvm hw hB hz1 hk1 hS => ?_)
    have hP := gc_keep hP hk1
    have hw : r1 = mAll K x1 x2 g := hw
    subst hw
    clear hw
    clear hB hz1 hk1 ht hvm
    clear hPc hKc
    refine lv_if_ne (tgt := 56) hx hb dX1_mean_49 (by decide) (fun c_49 => ?_) (fun c_49 => ?_)
    · skip
      refine lv_iload_n hx hb dX1_mean_56 rfl (lv_at hl 1 rfl) ?_
      refine lv_i2d hx hb dX1_mean_57 ?_
      refine lv_aload_n hx hb dX1_mean_58 rfl (lv_at hl 2 rfl) ?_
      have hPc : va_P (dC, dI) vwCl (gmW h kc f1 f2 of ro fa 0 (nI g) (nI r) x1 x2) _ := hP.sub [0, 1, 2, 3, 4, 5] rfl
      have hKc : va_K (dC, dI) vwCl (gmT kc) s := hK.sub [0, 1, 2, 3, 4] rfl
      refine va_calli (va_runV (As := []) (rest := [.double (FP.i2d x)]) ⟨hx, hb, hml, hown, hts⟩ (c_X1_all l dC dI h kc f1 f2 of ro fa 0 g r x1 x2 K (by first | assumption | omega) (by first | assumption | omega) (by first | assumption | omega)) (cwV 0 hts gX1_mean_X1_all rfl rfl rfl (by decide +kernel) ⟨Nat.le_of_ble_eq_true rfl, Nat.le_of_ble_eq_true rfl⟩) ⟨gcPR_blind, va_recv hK hP (ci := 1) (q0 := 0) rfl rfl, fun U hU hW => ⟨rfl, by rw [hU]; exact hPc, va_K.moved hW.alike hKc⟩⟩ rfl rfl hl.1 rfl (lv_room (Nat.le_of_ble_eq_true rfl)) dX1_mean_59 ⟨Nat.zero_le _, Nat.zero_le _⟩) hS (fun q _ h => h.elim) (fun q h => h.elim) (fun r2 u t H locs ht hvm hw hB hz1 hk1 hS => ?_)
      have hP := gc_keep hP hk1
      have hw : r2 = mAll K x1 x2 g := hw
      subst hw
      clear hw
      clear hB hz1 hk1 ht hvm
      clear hPc hKc
      refine lv_i2d hx hb dX1_mean_62 ?_
      refine lv_ddiv_any hd0 lw_bits hx hb dX1_mean_63 (fun rq d1 hal hd1 => ?_)
      have hpost : alike64 rq (gMv (mSu K x1 x2 (2 ^ g)) (mAll K x1 x2 g)) = true := by rw [gMv, if_neg c_49, ← hEi, ← e_x]; exact hal
      refine W.endD hd1 ?_
      exact W.dret (v := rq) hx hb hr (fun t ht hW => ⟨⟨rq, (), rfl, hpost, ⟨by rw [ht]; exact hP, hD⟩⟩, hS.F ht⟩) hS.2.2 dX1_mean_64
    · skip
      refine lv_dconst0 hx hb dX1_mean_52 ?_
      refine lv_goto (tgt := 64) hx hb dX1_mean_53 (by decide) ?_
      have hpost : alike64 FP.dconst0 (gMv (mSu K x1 x2 (2 ^ g)) (mAll K x1 x2 g)) = true := by rw [gMv, if_pos c_49]; simp [alike64]
      refine W.endD hd0 ?_
      exact W.dret (v := FP.dconst0) hx hb hr (fun t ht hW => ⟨⟨FP.dconst0, (), rfl, hpost, ⟨by rw [ht]; exact hP, hD⟩⟩, hS.F ht⟩) hS.2.2 dX1_mean_64
  · skip
    have hLi : i < 2 ^ g := gc_lt c_16 (by omega) (by omega)
    refine lv_iload_n hx hb dX1_mean_19 rfl (lv_at hl 1 rfl) ?_
    refine lv_aload_n hx hb dX1_mean_20 rfl (lv_at hl 2 rfl) ?_
    refine lv_iload_n hx hb dX1_mean_21 rfl (lv_at hl 0 rfl) ?_
    have hPc : va_P (dC, dI) vwCl (gmW h kc f1 f2 of ro fa 0 (nI g) (nI r) x1 x2) _ := hP.sub [0, 1, 2, 3, 4, 5] rfl
    have hKc : va_K (dC, dI) vwCl (gmT kc) s := hK.sub [0, 1, 2, 3, 4] rfl
    refine va_calli (va_runV (As := [.int (nI i)]) (rest := [.int x]) ⟨hx, hb, hml, hown, hts⟩ (c_X1_brokenBy l dC dI h kc f1 f2 of ro fa 0 g r x1 x2 K (nI i) (by first | assumption | omega) (by first | assumption | omega) (by first | assumption | omega)) (cwV 1 hts gX1_mean_X1_brokenBy rfl rfl rfl (by decide +kernel) ⟨Nat.le_of_ble_eq_true rfl, Nat.le_of_ble_eq_true rfl⟩) ⟨gcPR_blind, va_recv hK hP (ci := 1) (q0 := 0) rfl rfl, fun U hU hW => ⟨rfl, by rw [hU]; exact hPc, va_K.moved hW.alike hKc⟩⟩ rfl rfl hl.1 rfl (lv_room (Nat.le_of_ble_eq_true rfl)) dX1_mean_22 ⟨Nat.zero_le _, Nat.zero_le _⟩) hS (fun q _ h => h.elim) (fun q h => h.elim) (fun r3 u t H locs ht hvm hw hB hz1 hk1 hS => ?_)
    have hP := gc_keep hP hk1
    have hw : r3 = mBB K x1 x2 (nI i) := hw
    subst hw
    clear hw
    clear hB hz1 hk1 ht hvm
    clear hPc hKc
    refine lv_iconst (v := -1) hx hb dX1_mean_25 (by decide) ?_
    refine lv_icmp_ne (tgt := 36) hx hb dX1_mean_26 (by decide) (fun c_26 => ?_) (fun c_26 => ?_)
    · skip
      refine lv_iconst (v := 0) hx hb dX1_mean_36 (by decide) ?_
      refine lv_iadd hx hb dX1_mean_37 ?_
      refine lv_istore_n (lv' := [(1, .int (x + 0)), (2, .int (nI i)), (0, .ref (h 0))]) hx hb dX1_mean_38 rfl hl (by decide) rfl (fun ls hl => ?_)
      refine lv_iinc (v := nI (i + 1)) (lv' := [(2, .int (nI (i + 1))), (1, .int (x + 0)), (0, .ref (h 0))]) hx hb dX1_mean_39 hl (k := 1) rfl (nI_1 i) (by decide) rfl (fun ls hl => ?_)
      refine lv_goto (tgt := 9) hx hb dX1_mean_42 (by decide) ?_
      exact ihi H _ ls (by omega) ⟨(x + 0), (by rw [mSu, ← e_x]; rw [if_neg c_26]), hP, hD, hS, lv_sub hl [0, 1, 2] rfl⟩
    · skip
      refine lv_iload_n hx hb dX1_mean_29 rfl (lv_at hl 0 rfl) ?_
      refine va_calli (va_runS (As := [.int (nI i)]) (rest := [.int x]) ⟨hx, hb, hml, hown, hts⟩ (c_X1_size l (nI i)) (va_cwS 1 hts gX1_mean_X1_size rfl rfl rfl (by decide +kernel) ⟨Nat.le_of_ble_eq_true rfl, Nat.le_of_ble_eq_true rfl⟩) ⟨fun a U g mk q => q, fun U hU hW => ⟨rfl, trivial⟩⟩ rfl rfl hl.1 rfl (lv_room (Nat.le_of_ble_eq_true rfl)) dX1_mean_30 ⟨Nat.zero_le _, Nat.zero_le _⟩) hS (fun q _ h => h.elim) (fun q h => h.elim) (fun r4 u t H locs ht hvm hw hB hz1 hk1 hS => ?_)
      have hP := gc_keep hP hk1
      have hw : r4 = mSz (nI i) 10 := hw
      subst hw
      clear hw
      clear hB hz1 hk1 ht hvm
      refine lv_goto (tgt := 37) hx hb dX1_mean_33 (by decide) ?_
      refine lv_iadd hx hb dX1_mean_37 ?_
      refine lv_istore_n (lv' := [(1, .int (x + mSz (nI i) 10)), (2, .int (nI i)), (0, .ref (h 0))]) hx hb dX1_mean_38 rfl hl (by decide) rfl (fun ls hl => ?_)
      refine lv_iinc (v := nI (i + 1)) (lv' := [(2, .int (nI (i + 1))), (1, .int (x + mSz (nI i) 10)), (0, .ref (h 0))]) hx hb dX1_mean_39 hl (k := 1) rfl (nI_1 i) (by decide) rfl (fun ls hl => ?_)
      refine lv_goto (tgt := 9) hx hb dX1_mean_42 (by decide) ?_
      exact ihi H _ ls (by omega) ⟨(x + mSz (nI i) 10), (by rw [mSu, ← e_x]; rw [if_pos c_26]), hP, hD, hS, lv_sub hl [0, 1, 2] rfl⟩
set_option maxHeartbeats 4000000 in
set_option maxRecDepth 100000 in
theorem c_X1_digest (l : Launch) (dC : Nat → ClassId) (dI : Nat → Nat → Nat) (h : Nat → Nat) (kc : Nat → ClassId) (f1 : Nat → Int32) (f2 : Nat → Int32) (of : Nat → Int32) (ro : Nat → Int32) (fa : Nat → Int32) (th : Int32) (g : Nat) (r : Nat) (x1 : Int32) (x2 : Int32) (K : Bk) (sz : Nat) (hBk : mOK K g r f1 f2 of) (hg : g ≤ 10) (hr30 : r ≤ 30) : Met l yX1_digest wsX1_digest ({ frames := 6, cells := 0, slots := 0, locals := 138 }) (gcPM (dC, dI) [.ref (h 0)] (gmW h kc f1 f2 of ro fa th (nI g) (nI r) x1 x2) (gmT kc) sz) (va_Ql (fun (rv : Int64) (u : (Nat → Int32) × (Nat → Int32)) => (match u with | (ro2, fa2) => rv = ((((gDD (mGu K x1 x2 g) 4 (gDg (fun w => mRe K w (2 * g)) (gDD (mTd K) 3 (gDg (mCo K g r) 1279 6) r) (2 * g)) g) * 31) + (mSe K x1 x2 g).toInt64) * 31) + (mAll K x1 x2 g).toInt64)) (fun u t9 => va_P (dC, dI) vwCl (match u with | (ro2, fa2) => (gmW h kc f1 f2 of ro2 fa2 0 (nI g) (nI r) x1 x2)) t9.heap ∧ va_D (va_A (gmW h kc f1 f2 of ro fa th (nI g) (nI r) x1 x2) sz) (match u with | (ro2, fa2) => (gmW h kc f1 f2 of ro2 fa2 0 (nI g) (nI r) x1 x2))) (va_A (gmW h kc f1 f2 of ro fa th (nI g) (nI r) x1 x2) sz)) 0 0 (va_A (gmW h kc f1 f2 of ro fa th (nI g) (nI r) x1 x2) sz) := by
  refine Met.ofW (cc := cX1_digest) (maxL := 5) (ret := (some .long)) (by decide) rfl ?_
  intro p e s m args below meth c s₁ B hml hv
  obtain ⟨rfl, hsz, hP, hK, hD0⟩ := hv
  have hx := B.exec
  have hb := B.bytes
  have hr := B.returns
  have hts := atoms_spec (ws := wsX1_digest) B.pre
  have hown : s.vm.findClass RX1 = some m.cls := findClass_of_methodNamed B.named
  have hlocks := B.notSynchronized
  subst hsz
  have hD := hD0.self (sz := s.heap.size)
  generalize hAe : va_A (gmW h kc f1 f2 of ro fa th (nI g) (nI r) x1 x2) s.heap.size = A at hD ⊢
  have hA : ∀ q : Nat, s.heap.size ≤ q → A q := fun q h => by rw [← hAe]; exact Or.inr h
  have hS : va_S A s.heap s.heap [] := va_S.rf
  have hP : va_P (dC, dI) vwCl (gmW h kc f1 f2 of ro fa th (nI g) (nI r) x1 x2) s.heap := hP
  have hin1 : ∀ w ∈ wsX10, w ∈ wsX1_digest := by decide +kernel
  have hl := lv_entry [.ref (h 0)] (n := 5) (Nat.le_of_ble_eq_true rfl)
  rw [lg_entry_eq]
  generalize (lg_sl [.ref (h 0)] ++ List.replicate (5 - (lg_sl [.ref (h 0)]).length) Slot.unset).toArray = ls at hl ⊢
  have hl : lv_has ls 5 [(0, .ref (h 0))] := hl
  refine lv_aload_n hx hb dX1_digest_0 rfl (lv_at hl 0 rfl) ?_
  refine lv_iconst (v := 0) hx hb dX1_digest_1 (by decide) ?_
  refine va_put (D := (dC, dI)) (ci := 1) (v := .int 0) (ty := .int) (C := RX1) (T := TX1) (N := 10) hx hb hts hin1 tyX1 tyX1_ok nmX1 hown hK hP hD hS 0 rfl rfl 0 (by decide) (hts (.fieldLink RX1 33 "GuestChairsModel" "thrown" "I") (by decide +kernel)) (fun _ h9 => h9) rfl (by decide +kernel) rfl rfl (Nat.le_of_ble_eq_true rfl) dX1_digest_2 (fun H locs hP hD hS => ?_)
  have hP : va_P (dC, dI) vwCl (gmW h kc f1 f2 of ro fa 0 (nI g) (nI r) x1 x2) H := hP
  have hD : va_D A (gmW h kc f1 f2 of ro fa 0 (nI g) (nI r) x1 x2) := hD
  refine lv_ldc2 (v := 1279) hx hb hown (hts (.constantLong RX1 114 (1279)) (by decide +kernel)) dX1_digest_5 ?_
  refine lv_lstore_n (lv' := [(1, .long 1279), (0, .ref (h 0))]) hx hb dX1_digest_8 rfl hl (by decide) rfl (fun ls hl => ?_)
  refine lv_iconst (v := 0) hx hb dX1_digest_9 (by decide) ?_
  refine lv_istore_n (lv' := [(3, .int 0), (1, .long 1279), (0, .ref (h 0))]) hx hb dX1_digest_10 rfl hl (by decide) rfl (fun ls hl => ?_)
  refine gc_loop (6) (fun (i1 : Nat) (H : Heap) (locs : List Loc) (ls : Array Slot) => ∃ (d1 : Int64) (ra1 : Nat → Int32) (fb1 : Nat → Int32), d1 = gDg (mCo K g r) 1279 i1 ∧ va_P (dC, dI) vwCl (gmW h kc f1 f2 of ra1 fb1 0 (nI g) (nI r) x1 x2) H ∧ va_D A (gmW h kc f1 f2 of ra1 fb1 0 (nI g) (nI r) x1 x2) ∧ va_S A s.heap H locs ∧ lv_has ls 5 [(3, .int (nI i1)), (1, .long d1), (0, .ref (h 0))]) 0 (Nat.zero_le _) ⟨1279, ro, fa, (by first | rfl | assumption | omega), hP, hD, hS, lv_sub hl [0, 1, 2] rfl⟩ ?_
  intro i1 H locs ls hi1 hI ihi1
  obtain ⟨d1, ra1, fb1, e_d1, hP, hD, hS, hl⟩ := hI
  refine lv_iload_n hx hb dX1_digest_11 rfl (lv_at hl 0 rfl) ?_
  refine lv_bipush (v := 6) hx hb dX1_digest_12 (by decide) ?_
  refine lv_icmp_ge (tgt := 36) hx hb dX1_digest_14 (by decide) (fun c_14 => ?_) (fun c_14 => ?_)
  · skip
    have hEi1 : i1 = 6 := gc_ge c_14 (by omega) (by omega)
    refine lv_iconst (v := 0) hx hb dX1_digest_36 (by decide) ?_
    refine lv_istore_n (lv' := [(3, .int 0), (1, .long d1), (0, .ref (h 0))]) hx hb dX1_digest_37 rfl hl (by decide) rfl (fun ls hl => ?_)
    refine gc_loop (r) (fun (i2 : Nat) (H : Heap) (locs : List Loc) (ls : Array Slot) => ∃ (d2 : Int64) (ra2 : Nat → Int32) (fb2 : Nat → Int32), d2 = gDD (mTd K) 3 (gDg (mCo K g r) 1279 6) i2 ∧ va_P (dC, dI) vwCl (gmW h kc f1 f2 of ra2 fb2 0 (nI g) (nI r) x1 x2) H ∧ va_D A (gmW h kc f1 f2 of ra2 fb2 0 (nI g) (nI r) x1 x2) ∧ va_S A s.heap H locs ∧ lv_has ls 5 [(3, .int (nI i2)), (1, .long d2), (0, .ref (h 0))]) 0 (Nat.zero_le _) ⟨d1, ra1, fb1, (by rw [e_d1, hEi1]; rfl), hP, hD, hS, lv_sub hl [0, 1, 2] rfl⟩ ?_
    intro i2 H locs ls hi2 hI ihi2
    obtain ⟨d2, ra2, fb2, e_d2, hP, hD, hS, hl⟩ := hI
    refine lv_iload_n hx hb dX1_digest_38 rfl (lv_at hl 0 rfl) ?_
    refine lv_aload_n hx hb dX1_digest_39 rfl (lv_at hl 2 rfl) ?_
    refine va_get (D := (dC, dI)) (ci := 1) (v := .int (nI r)) (C := RX1) (T := TX1) (N := 10) hx hb hts hin1 hown hK hP 0 rfl rfl 2 (by decide) (hts (.fieldLink RX1 51 "GuestChairsModel" "rules" "I") (by decide +kernel)) (fun _ h9 => h9) rfl dX1_digest_40 ?_
    refine lv_icmp_ge (tgt := 82) hx hb dX1_digest_43 (by decide) (fun c_43 => ?_) (fun c_43 => ?_)
    · skip
      have hEi2 : i2 = r := gc_ge c_43 (by omega) (by omega)
      refine lv_iconst (v := 0) hx hb dX1_digest_82 (by decide) ?_
      refine lv_istore_n (lv' := [(3, .int 0), (1, .long d2), (0, .ref (h 0))]) hx hb dX1_digest_83 rfl hl (by decide) rfl (fun ls hl => ?_)
      refine gc_loop (2 * g) (fun (i3 : Nat) (H : Heap) (locs : List Loc) (ls : Array Slot) => ∃ (d3 : Int64) (ra4 : Nat → Int32) (fb4 : Nat → Int32), d3 = gDg (fun w => mRe K w (2 * g)) (gDD (mTd K) 3 (gDg (mCo K g r) 1279 6) r) i3 ∧ va_P (dC, dI) vwCl (gmW h kc f1 f2 of ra4 fb4 0 (nI g) (nI r) x1 x2) H ∧ va_D A (gmW h kc f1 f2 of ra4 fb4 0 (nI g) (nI r) x1 x2) ∧ va_S A s.heap H locs ∧ lv_has ls 5 [(3, .int (nI i3)), (1, .long d3), (0, .ref (h 0))]) 0 (Nat.zero_le _) ⟨d2, ra2, fb2, (by rw [e_d2, hEi2]; rfl), hP, hD, hS, lv_sub hl [0, 1, 2] rfl⟩ ?_
      intro i3 H locs ls hi3 hI ihi3
      obtain ⟨d3, ra4, fb4, e_d3, hP, hD, hS, hl⟩ := hI
      refine lv_iload_n hx hb dX1_digest_84 rfl (lv_at hl 0 rfl) ?_
      refine lv_iconst (v := 2) hx hb dX1_digest_85 (by decide) ?_
      refine lv_aload_n hx hb dX1_digest_86 rfl (lv_at hl 2 rfl) ?_
      refine va_get (D := (dC, dI)) (ci := 1) (v := .int (nI g)) (C := RX1) (T := TX1) (N := 10) hx hb hts hin1 hown hK hP 0 rfl rfl 1 (by decide) (hts (.fieldLink RX1 36 "GuestChairsModel" "guests" "I") (by decide +kernel)) (fun _ h9 => h9) rfl dX1_digest_87 ?_
      refine lv_imul hx hb dX1_digest_90 ?_
      refine gc_topi (y := nI (2 * g)) (pk_mul 2 g) ?_
      refine lv_icmp_ge (tgt := 113) hx hb dX1_digest_91 (by decide) (fun c_91 => ?_) (fun c_91 => ?_)
      · skip
        have hEi3 : i3 = 2 * g := gc_ge c_91 (by omega) (by omega)
        refine lv_iconst (v := 0) hx hb dX1_digest_113 (by decide) ?_
        refine lv_istore_n (lv' := [(3, .int 0), (1, .long d3), (0, .ref (h 0))]) hx hb dX1_digest_114 rfl hl (by decide) rfl (fun ls hl => ?_)
        refine gc_loop (g) (fun (i4 : Nat) (H : Heap) (locs : List Loc) (ls : Array Slot) => ∃ (d4 : Int64) (ra5 : Nat → Int32) (fb5 : Nat → Int32), d4 = gDD (mGu K x1 x2 g) 4 (gDg (fun w => mRe K w (2 * g)) (gDD (mTd K) 3 (gDg (mCo K g r) 1279 6) r) (2 * g)) i4 ∧ va_P (dC, dI) vwCl (gmW h kc f1 f2 of ra5 fb5 0 (nI g) (nI r) x1 x2) H ∧ va_D A (gmW h kc f1 f2 of ra5 fb5 0 (nI g) (nI r) x1 x2) ∧ va_S A s.heap H locs ∧ lv_has ls 5 [(3, .int (nI i4)), (1, .long d4), (0, .ref (h 0))]) 0 (Nat.zero_le _) ⟨d3, ra4, fb4, (by rw [e_d3, hEi3]; rfl), hP, hD, hS, lv_sub hl [0, 1, 2] rfl⟩ ?_
        intro i4 H locs ls hi4 hI ihi4
        obtain ⟨d4, ra5, fb5, e_d4, hP, hD, hS, hl⟩ := hI
        refine lv_iload_n hx hb dX1_digest_115 rfl (lv_at hl 0 rfl) ?_
        refine lv_aload_n hx hb dX1_digest_116 rfl (lv_at hl 2 rfl) ?_
        refine va_get (D := (dC, dI)) (ci := 1) (v := .int (nI g)) (C := RX1) (T := TX1) (N := 10) hx hb hts hin1 hown hK hP 0 rfl rfl 1 (by decide) (hts (.fieldLink RX1 36 "GuestChairsModel" "guests" "I") (by decide +kernel)) (fun _ h9 => h9) rfl dX1_digest_117 ?_
        refine lv_icmp_ge (tgt := 159) hx hb dX1_digest_120 (by decide) (fun c_120 => ?_) (fun c_120 => ?_)
        · skip
          have hEi4 : i4 = g := gc_ge c_120 (by omega) (by omega)
          refine lv_lload_n hx hb dX1_digest_159 rfl (lv_at hl 1 rfl) ?_
          refine lv_ldc2 (v := 31) hx hb hown (hts (.constantLong RX1 116 (31)) (by decide +kernel)) dX1_digest_160 ?_
          refine lv_lmul hx hb dX1_digest_163 ?_
          refine lv_aload_n hx hb dX1_digest_164 rfl (lv_at hl 2 rfl) ?_
          have hPc : va_P (dC, dI) vwCl (gmW h kc f1 f2 of ra5 fb5 0 (nI g) (nI r) x1 x2) _ := hP.sub [0, 1, 2, 3, 4, 5] rfl
          have hKc : va_K (dC, dI) vwCl (gmT kc) s := hK.sub [0, 1, 2, 3, 4] rfl
          refine va_calli (va_runV (As := []) (rest := [.long (d4 * 31)]) ⟨hx, hb, hml, hown, hts⟩ (c_X1_seated l dC dI h kc f1 f2 of ra5 fb5 0 g r x1 x2 K (by first | assumption | omega) (by first | assumption | omega) (by first | assumption | omega)) (cwV 0 hts gX1_digest_X1_seated rfl rfl rfl (by decide +kernel) ⟨Nat.le_of_ble_eq_true rfl, Nat.le_of_ble_eq_true rfl⟩) ⟨gcPR_blind, va_recv hK hP (ci := 1) (q0 := 0) rfl rfl, fun U hU hW => ⟨rfl, by rw [hU]; exact hPc, va_K.moved hW.alike hKc⟩⟩ rfl rfl hl.1 rfl (lv_room (Nat.le_of_ble_eq_true rfl)) dX1_digest_165 ⟨Nat.zero_le _, Nat.zero_le _⟩) hS (fun q _ h => h.elim) (fun q h => h.elim) (fun r1 u t H locs ht hvm hw hB hz1 hk1 hS => ?_)
          have hP := gc_keep hP hk1
          have hw : r1 = mSe K x1 x2 g := hw
          subst hw
          clear hw
          clear hB hz1 hk1 ht hvm
          clear hPc hKc
          refine lv_i2l hx hb dX1_digest_168 rfl ?_
          refine lv_ladd hx hb dX1_digest_169 ?_
          refine lv_lstore_n (lv' := [(1, .long ((d4 * 31) + (mSe K x1 x2 g).toInt64)), (3, .int (nI i4)), (0, .ref (h 0))]) hx hb dX1_digest_170 rfl hl (by decide) rfl (fun ls hl => ?_)
          refine lv_lload_n hx hb dX1_digest_171 rfl (lv_at hl 0 rfl) ?_
          refine lv_ldc2 (v := 31) hx hb hown (hts (.constantLong RX1 116 (31)) (by decide +kernel)) dX1_digest_172 ?_
          refine lv_lmul hx hb dX1_digest_175 ?_
          refine lv_aload_n hx hb dX1_digest_176 rfl (lv_at hl 2 rfl) ?_
          have hPc : va_P (dC, dI) vwCl (gmW h kc f1 f2 of ra5 fb5 0 (nI g) (nI r) x1 x2) _ := hP.sub [0, 1, 2, 3, 4, 5] rfl
          have hKc : va_K (dC, dI) vwCl (gmT kc) s := hK.sub [0, 1, 2, 3, 4] rfl
          refine va_calli (va_runV (As := []) (rest := [.long (((d4 * 31) + (mSe K x1 x2 g).toInt64) * 31)]) ⟨hx, hb, hml, hown, hts⟩ (c_X1_all l dC dI h kc f1 f2 of ra5 fb5 0 g r x1 x2 K (by first | assumption | omega) (by first | assumption | omega) (by first | assumption | omega)) (cwV 0 hts gX1_digest_X1_all rfl rfl rfl (by decide +kernel) ⟨Nat.le_of_ble_eq_true rfl, Nat.le_of_ble_eq_true rfl⟩) ⟨gcPR_blind, va_recv hK hP (ci := 1) (q0 := 0) rfl rfl, fun U hU hW => ⟨rfl, by rw [hU]; exact hPc, va_K.moved hW.alike hKc⟩⟩ rfl rfl hl.1 rfl (lv_room (Nat.le_of_ble_eq_true rfl)) dX1_digest_177 ⟨Nat.zero_le _, Nat.zero_le _⟩) hS (fun q _ h => h.elim) (fun q h => h.elim) (fun r2 u t H locs ht hvm hw hB hz1 hk1 hS => ?_)
          have hP := gc_keep hP hk1
          have hw : r2 = mAll K x1 x2 g := hw
          subst hw
          clear hw
          clear hB hz1 hk1 ht hvm
          clear hPc hKc
          refine lv_i2l hx hb dX1_digest_180 rfl ?_
          refine lv_ladd hx hb dX1_digest_181 ?_
          have hpost : ((((d4 * 31) + (mSe K x1 x2 g).toInt64) * 31) + (mAll K x1 x2 g).toInt64) = ((((gDD (mGu K x1 x2 g) 4 (gDg (fun w => mRe K w (2 * g)) (gDD (mTd K) 3 (gDg (mCo K g r) 1279 6) r) (2 * g)) g) * 31) + (mSe K x1 x2 g).toInt64) * 31) + (mAll K x1 x2 g).toInt64 := by rw [e_d4, hEi4]
          exact W.lret (v := ((((d4 * 31) + (mSe K x1 x2 g).toInt64) * 31) + (mAll K x1 x2 g).toInt64)) hx hb hr (fun t ht hW => ⟨⟨((((d4 * 31) + (mSe K x1 x2 g).toInt64) * 31) + (mAll K x1 x2 g).toInt64), (ra5, fb5), rfl, hpost, ⟨by rw [ht]; exact hP, hD⟩⟩, hS.F ht⟩) hS.2.2 dX1_digest_182
        · skip
          have hLi4 : i4 < g := gc_lt c_120 (by omega) (by omega)
          refine lv_iconst (v := 0) hx hb dX1_digest_123 (by decide) ?_
          refine lv_istore (lv' := [(4, .int 0), (3, .int (nI i4)), (1, .long d4), (0, .ref (h 0))]) hx hb dX1_digest_124 hl (by decide) rfl (fun ls hl => ?_)
          refine gc_loop (4) (fun (j4 : Nat) (H : Heap) (locs : List Loc) (ls : Array Slot) => ∃ (dk : Int64) (ra6 : Nat → Int32) (fb6 : Nat → Int32), dk = gDg (mGu K x1 x2 g i4) d4 j4 ∧ va_P (dC, dI) vwCl (gmW h kc f1 f2 of ra6 fb6 0 (nI g) (nI r) x1 x2) H ∧ va_D A (gmW h kc f1 f2 of ra6 fb6 0 (nI g) (nI r) x1 x2) ∧ va_S A s.heap H locs ∧ lv_has ls 5 [(4, .int (nI j4)), (3, .int (nI i4)), (1, .long dk), (0, .ref (h 0))]) 0 (Nat.zero_le _) ⟨d4, ra5, fb5, (by first | rfl | assumption | omega), hP, hD, hS, lv_sub hl [0, 1, 2, 3] rfl⟩ ?_
          intro j4 H locs ls hj4 hI ihj4
          obtain ⟨dk, ra6, fb6, e_dk, hP, hD, hS, hl⟩ := hI
          refine lv_iload hx hb dX1_digest_126 (lv_at hl 0 rfl) ?_
          refine lv_iconst (v := 4) hx hb dX1_digest_128 (by decide) ?_
          refine lv_icmp_ge (tgt := 153) hx hb dX1_digest_129 (by decide) (fun c_129 => ?_) (fun c_129 => ?_)
          · skip
            have hEj4 : j4 = 4 := gc_ge c_129 (by omega) (by omega)
            refine lv_iinc (v := nI (i4 + 1)) (lv' := [(3, .int (nI (i4 + 1))), (4, .int (nI j4)), (1, .long dk), (0, .ref (h 0))]) hx hb dX1_digest_153 hl (k := 1) rfl (nI_1 i4) (by decide) rfl (fun ls hl => ?_)
            refine lv_goto (tgt := 115) hx hb dX1_digest_156 (by decide) ?_
            exact ihi4 H _ ls (by omega) ⟨dk, ra6, fb6, (by rw [e_dk, hEj4, e_d4]; rfl), hP, hD, hS, lv_sub hl [0, 2, 3] rfl⟩
          · skip
            have hLj4 : j4 < 4 := gc_lt c_129 (by omega) (by omega)
            refine lv_lload_n hx hb dX1_digest_132 rfl (lv_at hl 2 rfl) ?_
            refine lv_ldc2 (v := 31) hx hb hown (hts (.constantLong RX1 116 (31)) (by decide +kernel)) dX1_digest_133 ?_
            refine lv_lmul hx hb dX1_digest_136 ?_
            refine lv_aload_n hx hb dX1_digest_137 rfl (lv_at hl 3 rfl) ?_
            refine lv_iload_n hx hb dX1_digest_138 rfl (lv_at hl 1 rfl) ?_
            refine lv_iload hx hb dX1_digest_139 (lv_at hl 0 rfl) ?_
            have hPc : va_P (dC, dI) vwCl (gmW h kc f1 f2 of ra6 fb6 0 (nI g) (nI r) x1 x2) _ := hP.sub [0, 1, 2, 3, 4, 5] rfl
            have hKc : va_K (dC, dI) vwCl (gmT kc) s := hK.sub [0, 1, 2, 3, 4] rfl
            have hDc : va_D A (gmW h kc f1 f2 of ra6 fb6 0 (nI g) (nI r) x1 x2) := hD.sub [0, 1, 2, 3, 4, 5] (by decide) rfl
            have hFc := va_free (wc := (gmW h kc f1 f2 of ra6 fb6 0 (nI g) (nI r) x1 x2)) hD hS hA [0, 1, 2, 3, 4, 5] rfl
            refine va_calli (va_runV (As := [.int (nI i4), .int (nI j4)]) (rest := [.long (dk * 31)]) ⟨hx, hb, hml, hown, hts⟩ (c_X1_guestTold l dC dI h kc f1 f2 of ra6 fb6 0 g r x1 x2 K i4 j4 H.size (by first | assumption | omega) (by first | assumption | omega) (by first | assumption | omega) (by first | assumption | omega) (by first | assumption | omega)) (cwV 2 hts gX1_digest_X1_guestTold rfl rfl rfl (by decide +kernel) ⟨Nat.le_of_ble_eq_true rfl, Nat.le_of_ble_eq_true rfl⟩) ⟨gcPM_blind, va_recv hK hP (ci := 1) (q0 := 0) rfl rfl, fun U hU hW => ⟨rfl, by rw [hU], by rw [hU]; exact hPc, va_K.moved hW.alike hKc, hDc.weaken (fun _ _ _ _ => trivial)⟩⟩ rfl rfl hl.1 rfl (lv_room (Nat.le_of_ble_eq_true rfl)) dX1_digest_141 ⟨Nat.zero_le _, Nat.zero_le _⟩) hS (fun q _ h => hFc q h) hFc (fun r3 u t H locs ht hvm hw hB hz1 hk1 hS => ?_)
            obtain ⟨ro24, fa25⟩ := u
            obtain ⟨hP1, hD1⟩ := hB
            rw [ht] at hP1
            obtain ⟨hP, hD⟩ := va_join (wr := []) (w1 := (gmW h kc f1 f2 of ro24 fa25 0 (nI g) (nI r) x1 x2)) hP hD [0, 1, 2, 3, 4, 5] [] rfl rfl (by decide) (by decide) hk1 hFc hP1 hD1
            have hP : va_P (dC, dI) vwCl (gmW h kc f1 f2 of ro24 fa25 0 (nI g) (nI r) x1 x2) H := hP.sub [0, 1, 2, 3, 4, 5] rfl
            have hD : va_D A (gmW h kc f1 f2 of ro24 fa25 0 (nI g) (nI r) x1 x2) := hD.sub [0, 1, 2, 3, 4, 5] (by decide) rfl
            have hw : r3 = mGu K x1 x2 g i4 j4 := hw
            subst hw
            clear hw
            clear hz1 hk1 ht hvm hP1 hD1 hFc hDc
            clear hPc hKc
            refine lv_i2l hx hb dX1_digest_144 rfl ?_
            refine lv_ladd hx hb dX1_digest_145 ?_
            refine lv_lstore_n (lv' := [(1, .long ((dk * 31) + (mGu K x1 x2 g i4 j4).toInt64)), (4, .int (nI j4)), (3, .int (nI i4)), (0, .ref (h 0))]) hx hb dX1_digest_146 rfl hl (by decide) rfl (fun ls hl => ?_)
            refine lv_iinc (v := nI (j4 + 1)) (lv' := [(4, .int (nI (j4 + 1))), (1, .long ((dk * 31) + (mGu K x1 x2 g i4 j4).toInt64)), (3, .int (nI i4)), (0, .ref (h 0))]) hx hb dX1_digest_147 hl (k := 1) rfl (nI_1 j4) (by decide) rfl (fun ls hl => ?_)
            refine lv_goto (tgt := 126) hx hb dX1_digest_150 (by decide) ?_
            exact ihj4 H _ ls (by omega) ⟨((dk * 31) + (mGu K x1 x2 g i4 j4).toInt64), ro24, fa25, (by rw [e_dk]; rfl), hP, hD, hS, lv_sub hl [0, 2, 1, 3] rfl⟩
      · skip
        have hLi3 : i3 < 2 * g := gc_lt c_91 (by omega) (by omega)
        refine lv_lload_n hx hb dX1_digest_94 rfl (lv_at hl 1 rfl) ?_
        refine lv_ldc2 (v := 31) hx hb hown (hts (.constantLong RX1 116 (31)) (by decide +kernel)) dX1_digest_95 ?_
        refine lv_lmul hx hb dX1_digest_98 ?_
        refine lv_aload_n hx hb dX1_digest_99 rfl (lv_at hl 2 rfl) ?_
        refine lv_iload_n hx hb dX1_digest_100 rfl (lv_at hl 0 rfl) ?_
        have hPc : va_P (dC, dI) vwCl (gmW h kc f1 f2 of ra4 fb4 0 (nI g) (nI r) x1 x2) _ := hP.sub [0, 1, 2, 3, 4, 5] rfl
        have hKc : va_K (dC, dI) vwCl (gmT kc) s := hK.sub [0, 1, 2, 3, 4] rfl
        have hDc : va_D A (gmW h kc f1 f2 of ra4 fb4 0 (nI g) (nI r) x1 x2) := hD.sub [0, 1, 2, 3, 4, 5] (by decide) rfl
        have hFc := va_free (wc := (gmW h kc f1 f2 of ra4 fb4 0 (nI g) (nI r) x1 x2)) hD hS hA [0, 1, 2, 3, 4, 5] rfl
        refine va_calli (va_runV (As := [.int (nI i3)]) (rest := [.long (d3 * 31)]) ⟨hx, hb, hml, hown, hts⟩ (c_X1_reachOf l dC dI h kc f1 f2 of ra4 fb4 0 g r x1 x2 K i3 H.size (by first | assumption | omega) (by first | assumption | omega) (by first | assumption | omega) (by first | assumption | omega)) (cwV 1 hts gX1_digest_X1_reachOf rfl rfl rfl (by decide +kernel) ⟨Nat.le_of_ble_eq_true rfl, Nat.le_of_ble_eq_true rfl⟩) ⟨gcPM_blind, va_recv hK hP (ci := 1) (q0 := 0) rfl rfl, fun U hU hW => ⟨rfl, by rw [hU], by rw [hU]; exact hPc, va_K.moved hW.alike hKc, hDc.weaken (fun _ _ _ _ => trivial)⟩⟩ rfl rfl hl.1 rfl (lv_room (Nat.le_of_ble_eq_true rfl)) dX1_digest_101 ⟨Nat.zero_le _, Nat.zero_le _⟩) hS (fun q _ h => hFc q h) hFc (fun r6 u t H locs ht hvm hw hB hz1 hk1 hS => ?_)
        obtain ⟨ro27, fa28⟩ := u
        obtain ⟨hP1, hD1⟩ := hB
        rw [ht] at hP1
        obtain ⟨hP, hD⟩ := va_join (wr := []) (w1 := (gmW h kc f1 f2 of ro27 fa28 0 (nI g) (nI r) x1 x2)) hP hD [0, 1, 2, 3, 4, 5] [] rfl rfl (by decide) (by decide) hk1 hFc hP1 hD1
        have hP : va_P (dC, dI) vwCl (gmW h kc f1 f2 of ro27 fa28 0 (nI g) (nI r) x1 x2) H := hP.sub [0, 1, 2, 3, 4, 5] rfl
        have hD : va_D A (gmW h kc f1 f2 of ro27 fa28 0 (nI g) (nI r) x1 x2) := hD.sub [0, 1, 2, 3, 4, 5] (by decide) rfl
        have hw : r6 = mRe K i3 (2 * g) := hw
        subst hw
        clear hw
        clear hz1 hk1 ht hvm hP1 hD1 hFc hDc
        clear hPc hKc
        refine lv_i2l hx hb dX1_digest_104 rfl ?_
        refine lv_ladd hx hb dX1_digest_105 ?_
        refine lv_lstore_n (lv' := [(1, .long ((d3 * 31) + (mRe K i3 (2 * g)).toInt64)), (3, .int (nI i3)), (0, .ref (h 0))]) hx hb dX1_digest_106 rfl hl (by decide) rfl (fun ls hl => ?_)
        refine lv_iinc (v := nI (i3 + 1)) (lv' := [(3, .int (nI (i3 + 1))), (1, .long ((d3 * 31) + (mRe K i3 (2 * g)).toInt64)), (0, .ref (h 0))]) hx hb dX1_digest_107 hl (k := 1) rfl (nI_1 i3) (by decide) rfl (fun ls hl => ?_)
        refine lv_goto (tgt := 84) hx hb dX1_digest_110 (by decide) ?_
        exact ihi3 H _ ls (by omega) ⟨((d3 * 31) + (mRe K i3 (2 * g)).toInt64), ro27, fa28, (by rw [e_d3]; rfl), hP, hD, hS, lv_sub hl [0, 1, 2] rfl⟩
    · skip
      have hLi2 : i2 < r := gc_lt c_43 (by omega) (by omega)
      refine lv_iconst (v := 0) hx hb dX1_digest_46 (by decide) ?_
      refine lv_istore (lv' := [(4, .int 0), (3, .int (nI i2)), (1, .long d2), (0, .ref (h 0))]) hx hb dX1_digest_47 hl (by decide) rfl (fun ls hl => ?_)
      refine gc_loop (3) (fun (j2 : Nat) (H : Heap) (locs : List Loc) (ls : Array Slot) => ∃ (dj : Int64) (ra3 : Nat → Int32) (fb3 : Nat → Int32), dj = gDg (mTd K i2) d2 j2 ∧ va_P (dC, dI) vwCl (gmW h kc f1 f2 of ra3 fb3 0 (nI g) (nI r) x1 x2) H ∧ va_D A (gmW h kc f1 f2 of ra3 fb3 0 (nI g) (nI r) x1 x2) ∧ va_S A s.heap H locs ∧ lv_has ls 5 [(4, .int (nI j2)), (3, .int (nI i2)), (1, .long dj), (0, .ref (h 0))]) 0 (Nat.zero_le _) ⟨d2, ra2, fb2, (by first | rfl | assumption | omega), hP, hD, hS, lv_sub hl [0, 1, 2, 3] rfl⟩ ?_
      intro j2 H locs ls hj2 hI ihj2
      obtain ⟨dj, ra3, fb3, e_dj, hP, hD, hS, hl⟩ := hI
      refine lv_iload hx hb dX1_digest_49 (lv_at hl 0 rfl) ?_
      refine lv_iconst (v := 3) hx hb dX1_digest_51 (by decide) ?_
      refine lv_icmp_ge (tgt := 76) hx hb dX1_digest_52 (by decide) (fun c_52 => ?_) (fun c_52 => ?_)
      · skip
        have hEj2 : j2 = 3 := gc_ge c_52 (by omega) (by omega)
        refine lv_iinc (v := nI (i2 + 1)) (lv' := [(3, .int (nI (i2 + 1))), (4, .int (nI j2)), (1, .long dj), (0, .ref (h 0))]) hx hb dX1_digest_76 hl (k := 1) rfl (nI_1 i2) (by decide) rfl (fun ls hl => ?_)
        refine lv_goto (tgt := 38) hx hb dX1_digest_79 (by decide) ?_
        exact ihi2 H _ ls (by omega) ⟨dj, ra3, fb3, (by rw [e_dj, hEj2, e_d2]; rfl), hP, hD, hS, lv_sub hl [0, 2, 3] rfl⟩
      · skip
        have hLj2 : j2 < 3 := gc_lt c_52 (by omega) (by omega)
        refine lv_lload_n hx hb dX1_digest_55 rfl (lv_at hl 2 rfl) ?_
        refine lv_ldc2 (v := 31) hx hb hown (hts (.constantLong RX1 116 (31)) (by decide +kernel)) dX1_digest_56 ?_
        refine lv_lmul hx hb dX1_digest_59 ?_
        refine lv_aload_n hx hb dX1_digest_60 rfl (lv_at hl 3 rfl) ?_
        refine lv_iload_n hx hb dX1_digest_61 rfl (lv_at hl 1 rfl) ?_
        refine lv_iload hx hb dX1_digest_62 (lv_at hl 0 rfl) ?_
        have hPc : va_P (dC, dI) vwCl (gmW h kc f1 f2 of ra3 fb3 0 (nI g) (nI r) x1 x2) _ := hP.sub [0, 1, 2, 3, 4, 5] rfl
        have hKc : va_K (dC, dI) vwCl (gmT kc) s := hK.sub [0, 1, 2, 3, 4] rfl
        refine va_calli (va_runV (As := [.int (nI i2), .int (nI j2)]) (rest := [.long (dj * 31)]) ⟨hx, hb, hml, hown, hts⟩ (c_X1_ruleTold l dC dI h kc f1 f2 of ra3 fb3 0 g r x1 x2 K i2 j2 (by first | assumption | omega) (by first | assumption | omega) (by first | assumption | omega) (by first | assumption | omega) (by first | assumption | omega)) (cwV 2 hts gX1_digest_X1_ruleTold rfl rfl rfl (by decide +kernel) ⟨Nat.le_of_ble_eq_true rfl, Nat.le_of_ble_eq_true rfl⟩) ⟨gcPR_blind, va_recv hK hP (ci := 1) (q0 := 0) rfl rfl, fun U hU hW => ⟨rfl, by rw [hU]; exact hPc, va_K.moved hW.alike hKc⟩⟩ rfl rfl hl.1 rfl (lv_room (Nat.le_of_ble_eq_true rfl)) dX1_digest_64 ⟨Nat.zero_le _, Nat.zero_le _⟩) hS (fun q _ h => h.elim) (fun q h => h.elim) (fun r9 u t H locs ht hvm hw hB hz1 hk1 hS => ?_)
        have hP := gc_keep hP hk1
        have hw : r9 = mTd K i2 j2 := hw
        subst hw
        clear hw
        clear hB hz1 hk1 ht hvm
        clear hPc hKc
        refine lv_i2l hx hb dX1_digest_67 rfl ?_
        refine lv_ladd hx hb dX1_digest_68 ?_
        refine lv_lstore_n (lv' := [(1, .long ((dj * 31) + (mTd K i2 j2).toInt64)), (4, .int (nI j2)), (3, .int (nI i2)), (0, .ref (h 0))]) hx hb dX1_digest_69 rfl hl (by decide) rfl (fun ls hl => ?_)
        refine lv_iinc (v := nI (j2 + 1)) (lv' := [(4, .int (nI (j2 + 1))), (1, .long ((dj * 31) + (mTd K i2 j2).toInt64)), (3, .int (nI i2)), (0, .ref (h 0))]) hx hb dX1_digest_70 hl (k := 1) rfl (nI_1 j2) (by decide) rfl (fun ls hl => ?_)
        refine lv_goto (tgt := 49) hx hb dX1_digest_73 (by decide) ?_
        exact ihj2 H _ ls (by omega) ⟨((dj * 31) + (mTd K i2 j2).toInt64), ra3, fb3, (by rw [e_dj]; rfl), hP, hD, hS, lv_sub hl [0, 2, 1, 3] rfl⟩
  · skip
    have hLi1 : i1 < 6 := gc_lt c_14 (by omega) (by omega)
    refine lv_lload_n hx hb dX1_digest_17 rfl (lv_at hl 1 rfl) ?_
    refine lv_ldc2 (v := 31) hx hb hown (hts (.constantLong RX1 116 (31)) (by decide +kernel)) dX1_digest_18 ?_
    refine lv_lmul hx hb dX1_digest_21 ?_
    refine lv_aload_n hx hb dX1_digest_22 rfl (lv_at hl 2 rfl) ?_
    refine lv_iload_n hx hb dX1_digest_23 rfl (lv_at hl 0 rfl) ?_
    have hPc : va_P (dC, dI) vwCl (gmW h kc f1 f2 of ra1 fb1 0 (nI g) (nI r) x1 x2) _ := hP.sub [0, 1, 2, 3, 4, 5] rfl
    have hKc : va_K (dC, dI) vwCl (gmT kc) s := hK.sub [0, 1, 2, 3, 4] rfl
    have hDc : va_D A (gmW h kc f1 f2 of ra1 fb1 0 (nI g) (nI r) x1 x2) := hD.sub [0, 1, 2, 3, 4, 5] (by decide) rfl
    have hFc := va_free (wc := (gmW h kc f1 f2 of ra1 fb1 0 (nI g) (nI r) x1 x2)) hD hS hA [0, 1, 2, 3, 4, 5] rfl
    refine va_calli (va_runV (As := [.int (nI i1)]) (rest := [.long (d1 * 31)]) ⟨hx, hb, hml, hown, hts⟩ (c_X1_counted l dC dI h kc f1 f2 of ra1 fb1 0 g r x1 x2 K i1 H.size (by first | assumption | omega) (by first | assumption | omega) (by first | assumption | omega) (by first | assumption | omega)) (cwV 1 hts gX1_digest_X1_counted rfl rfl rfl (by decide +kernel) ⟨Nat.le_of_ble_eq_true rfl, Nat.le_of_ble_eq_true rfl⟩) ⟨gcPM_blind, va_recv hK hP (ci := 1) (q0 := 0) rfl rfl, fun U hU hW => ⟨rfl, by rw [hU], by rw [hU]; exact hPc, va_K.moved hW.alike hKc, hDc.weaken (fun _ _ _ _ => trivial)⟩⟩ rfl rfl hl.1 rfl (lv_room (Nat.le_of_ble_eq_true rfl)) dX1_digest_24 ⟨Nat.zero_le _, Nat.zero_le _⟩) hS (fun q _ h => hFc q h) hFc (fun r10 u t H locs ht hvm hw hB hz1 hk1 hS => ?_)
    obtain ⟨ro211, fa212⟩ := u
    obtain ⟨hP1, hD1⟩ := hB
    rw [ht] at hP1
    obtain ⟨hP, hD⟩ := va_join (wr := []) (w1 := (gmW h kc f1 f2 of ro211 fa212 0 (nI g) (nI r) x1 x2)) hP hD [0, 1, 2, 3, 4, 5] [] rfl rfl (by decide) (by decide) hk1 hFc hP1 hD1
    have hP : va_P (dC, dI) vwCl (gmW h kc f1 f2 of ro211 fa212 0 (nI g) (nI r) x1 x2) H := hP.sub [0, 1, 2, 3, 4, 5] rfl
    have hD : va_D A (gmW h kc f1 f2 of ro211 fa212 0 (nI g) (nI r) x1 x2) := hD.sub [0, 1, 2, 3, 4, 5] (by decide) rfl
    have hw : r10 = mCo K g r i1 := hw
    subst hw
    clear hw
    clear hz1 hk1 ht hvm hP1 hD1 hFc hDc
    clear hPc hKc
    refine lv_i2l hx hb dX1_digest_27 rfl ?_
    refine lv_ladd hx hb dX1_digest_28 ?_
    refine lv_lstore_n (lv' := [(1, .long ((d1 * 31) + (mCo K g r i1).toInt64)), (3, .int (nI i1)), (0, .ref (h 0))]) hx hb dX1_digest_29 rfl hl (by decide) rfl (fun ls hl => ?_)
    refine lv_iinc (v := nI (i1 + 1)) (lv' := [(3, .int (nI (i1 + 1))), (1, .long ((d1 * 31) + (mCo K g r i1).toInt64)), (0, .ref (h 0))]) hx hb dX1_digest_30 hl (k := 1) rfl (nI_1 i1) (by decide) rfl (fun ls hl => ?_)
    refine lv_goto (tgt := 11) hx hb dX1_digest_33 (by decide) ?_
    exact ihi1 H _ ls (by omega) ⟨((d1 * 31) + (mCo K g r i1).toInt64), ro211, fa212, (by rw [e_d1]; rfl), hP, hD, hS, lv_sub hl [0, 1, 2] rfl⟩
