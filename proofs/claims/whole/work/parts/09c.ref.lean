/-! THE REFERENCE'S PUBLIC METHODS: called as they may be (thrown 0), and not (thrown tells). -/
set_option maxHeartbeats 4000000 in
set_option maxRecDepth 100000 in
theorem c_X1_fits (l : Launch) (dC : Nat → ClassId) (dI : Nat → Nat → Nat) (h : Nat → Nat) (kc : Nat → ClassId) (f1 : Nat → Int32) (f2 : Nat → Int32) (of : Nat → Int32) (ro : Nat → Int32) (fa : Nat → Int32) (th : Int32) (g : Nat) (r : Nat) (x1 : Int32) (x2 : Int32) (K : Bk) (sz : Nat) (hBk : mOK K g r f1 f2 of) (hg : g ≤ 10) (hr30 : r ≤ 30) : Met l yX1_fits wsX1_fits ({ frames := 4, cells := 0, slots := 0, locals := 87 }) (gcPM (dC, dI) [.ref (h 0)] (gmW h kc f1 f2 of ro fa th (nI g) (nI r) x1 x2) (gmT kc) sz) (va_Qi (fun (rv : Int32) (_u : Unit) => rv = gB (mPo (mAll K x1 x2 g))) (fun _u t9 => va_P (dC, dI) vwCl (gmW h kc f1 f2 of ro fa 0 (nI g) (nI r) x1 x2) t9.heap ∧ va_D (va_A (gmW h kc f1 f2 of ro fa th (nI g) (nI r) x1 x2) sz) (gmW h kc f1 f2 of ro fa 0 (nI g) (nI r) x1 x2)) (va_A (gmW h kc f1 f2 of ro fa th (nI g) (nI r) x1 x2) sz)) 0 0 (va_A (gmW h kc f1 f2 of ro fa th (nI g) (nI r) x1 x2) sz) := by
  refine Met.ofW (cc := cX1_fits) (maxL := 1) (ret := (some .boolean)) (by decide) rfl ?_
  intro p e s m args below meth c s₁ B hml hv
  obtain ⟨rfl, hsz, hP, hK, hD0⟩ := hv
  have hx := B.exec
  have hb := B.bytes
  have hr := B.returns
  have hts := atoms_spec (ws := wsX1_fits) B.pre
  have hown : s.vm.findClass RX1 = some m.cls := findClass_of_methodNamed B.named
  have hlocks := B.notSynchronized
  subst hsz
  have hD := hD0.self (sz := s.heap.size)
  generalize hAe : va_A (gmW h kc f1 f2 of ro fa th (nI g) (nI r) x1 x2) s.heap.size = A at hD ⊢
  have hA : ∀ q : Nat, s.heap.size ≤ q → A q := fun q h => by rw [← hAe]; exact Or.inr h
  have hS : va_S A s.heap s.heap [] := va_S.rf
  have hP : va_P (dC, dI) vwCl (gmW h kc f1 f2 of ro fa th (nI g) (nI r) x1 x2) s.heap := hP
  have hin1 : ∀ w ∈ wsX10, w ∈ wsX1_fits := by decide +kernel
  have hl := lv_entry [.ref (h 0)] (n := 1) (Nat.le_of_ble_eq_true rfl)
  rw [lg_entry_eq]
  generalize (lg_sl [.ref (h 0)] ++ List.replicate (1 - (lg_sl [.ref (h 0)]).length) Slot.unset).toArray = ls at hl ⊢
  have hl : lv_has ls 1 [(0, .ref (h 0))] := hl
  refine lv_aload_n hx hb dX1_fits_0 rfl (lv_at hl 0 rfl) ?_
  refine lv_iconst (v := 0) hx hb dX1_fits_1 (by decide) ?_
  refine va_put (D := (dC, dI)) (ci := 1) (v := .int 0) (ty := .int) (C := RX1) (T := TX1) (N := 10) hx hb hts hin1 tyX1 tyX1_ok nmX1 hown hK hP hD hS 0 rfl rfl 0 (by decide) (hts (.fieldLink RX1 33 "GuestChairsModel" "thrown" "I") (by decide +kernel)) (fun _ h9 => h9) rfl (by decide +kernel) rfl rfl (Nat.le_of_ble_eq_true rfl) dX1_fits_2 (fun H locs hP hD hS => ?_)
  have hP : va_P (dC, dI) vwCl (gmW h kc f1 f2 of ro fa 0 (nI g) (nI r) x1 x2) H := hP
  have hD : va_D A (gmW h kc f1 f2 of ro fa 0 (nI g) (nI r) x1 x2) := hD
  refine lv_aload_n hx hb dX1_fits_5 rfl (lv_at hl 0 rfl) ?_
  have hPc : va_P (dC, dI) vwCl (gmW h kc f1 f2 of ro fa 0 (nI g) (nI r) x1 x2) _ := hP.sub [0, 1, 2, 3, 4, 5] rfl
  have hKc : va_K (dC, dI) vwCl (gmT kc) s := hK.sub [0, 1, 2, 3, 4] rfl
  refine va_calli (va_runV (As := []) (rest := []) ⟨hx, hb, hml, hown, hts⟩ (c_X1_all l dC dI h kc f1 f2 of ro fa 0 g r x1 x2 K (by first | assumption | omega) (by first | assumption | omega) (by first | assumption | omega)) (cwV 0 hts gX1_fits_X1_all rfl rfl rfl (by decide +kernel) ⟨Nat.le_of_ble_eq_true rfl, Nat.le_of_ble_eq_true rfl⟩) ⟨gcPR_blind, va_recv hK hP (ci := 1) (q0 := 0) rfl rfl, fun U hU hW => ⟨rfl, by rw [hU]; exact hPc, va_K.moved hW.alike hKc⟩⟩ rfl rfl hl.1 rfl (lv_room (Nat.le_of_ble_eq_true rfl)) dX1_fits_6 ⟨Nat.zero_le _, Nat.zero_le _⟩) hS (fun q _ h => h.elim) (fun q h => h.elim) (fun r1 u t H locs ht hvm hw hB hz1 hk1 hS => ?_)
  have hP := gc_keep hP hk1
  have hw : r1 = mAll K x1 x2 g := hw
  subst hw
  clear hw
  clear hB hz1 hk1 ht hvm
  clear hPc hKc
  refine lv_if_le (tgt := 16) hx hb dX1_fits_9 (by decide) (fun c_9 => ?_) (fun c_9 => ?_)
  · skip
    refine lv_iconst (v := 0) hx hb dX1_fits_16 (by decide) ?_
    have hpost : (0 : Int32) = gB (mPo (mAll K x1 x2 g)) := by first | rfl | simp [gB, mPo, c_9]
    exact W.zret (ty := .boolean) (v := 0) hx hb hr (by first | rfl | decide | exact gB_nar _) (fun t ht hW => ⟨⟨0, (), rfl, hpost, ⟨by rw [ht]; exact hP, hD⟩⟩, hS.F ht⟩) hS.2.2 dX1_fits_17
  · skip
    refine lv_iconst (v := 1) hx hb dX1_fits_12 (by decide) ?_
    refine lv_goto (tgt := 17) hx hb dX1_fits_13 (by decide) ?_
    have hpost : (1 : Int32) = gB (mPo (mAll K x1 x2 g)) := by first | rfl | simp [gB, mPo, c_9]
    exact W.zret (ty := .boolean) (v := 1) hx hb hr (by first | rfl | decide | exact gB_nar _) (fun t ht hW => ⟨⟨1, (), rfl, hpost, ⟨by rw [ht]; exact hP, hD⟩⟩, hS.F ht⟩) hS.2.2 dX1_fits_17
set_option maxHeartbeats 4000000 in
set_option maxRecDepth 100000 in
theorem c_X1_seat (l : Launch) (dC : Nat → ClassId) (dI : Nat → Nat → Nat) (h : Nat → Nat) (kc : Nat → ClassId) (f1 : Nat → Int32) (f2 : Nat → Int32) (of : Nat → Int32) (ro : Nat → Int32) (fa : Nat → Int32) (th : Int32) (g : Nat) (r : Nat) (x1 : Int32) (x2 : Int32) (K : Bk) (sz : Nat) (hBk : mOK K g r f1 f2 of) (hg : g ≤ 10) (hr30 : r ≤ 30) : Met l yX1_seat wsX1_seat ({ frames := 5, cells := 0, slots := 0, locals := 109 }) (gcPM (dC, dI) [.ref (h 0)] (gmW h kc f1 f2 of ro fa th (nI g) (nI r) x1 x2) (gmT kc) sz) (va_Qi (fun (rv : Int32) (_u : Unit) => rv = mSe K x1 x2 g) (fun _u t9 => va_P (dC, dI) vwCl (gmW h kc f1 f2 of ro fa 0 (nI g) (nI r) x1 x2) t9.heap ∧ va_D (va_A (gmW h kc f1 f2 of ro fa th (nI g) (nI r) x1 x2) sz) (gmW h kc f1 f2 of ro fa 0 (nI g) (nI r) x1 x2)) (va_A (gmW h kc f1 f2 of ro fa th (nI g) (nI r) x1 x2) sz)) 0 0 (va_A (gmW h kc f1 f2 of ro fa th (nI g) (nI r) x1 x2) sz) := by
  refine Met.ofW (cc := cX1_seat) (maxL := 1) (ret := (some .int)) (by decide) rfl ?_
  intro p e s m args below meth c s₁ B hml hv
  obtain ⟨rfl, hsz, hP, hK, hD0⟩ := hv
  have hx := B.exec
  have hb := B.bytes
  have hr := B.returns
  have hts := atoms_spec (ws := wsX1_seat) B.pre
  have hown : s.vm.findClass RX1 = some m.cls := findClass_of_methodNamed B.named
  have hlocks := B.notSynchronized
  subst hsz
  have hD := hD0.self (sz := s.heap.size)
  generalize hAe : va_A (gmW h kc f1 f2 of ro fa th (nI g) (nI r) x1 x2) s.heap.size = A at hD ⊢
  have hA : ∀ q : Nat, s.heap.size ≤ q → A q := fun q h => by rw [← hAe]; exact Or.inr h
  have hS : va_S A s.heap s.heap [] := va_S.rf
  have hP : va_P (dC, dI) vwCl (gmW h kc f1 f2 of ro fa th (nI g) (nI r) x1 x2) s.heap := hP
  have hin1 : ∀ w ∈ wsX10, w ∈ wsX1_seat := by decide +kernel
  have hl := lv_entry [.ref (h 0)] (n := 1) (Nat.le_of_ble_eq_true rfl)
  rw [lg_entry_eq]
  generalize (lg_sl [.ref (h 0)] ++ List.replicate (1 - (lg_sl [.ref (h 0)]).length) Slot.unset).toArray = ls at hl ⊢
  have hl : lv_has ls 1 [(0, .ref (h 0))] := hl
  refine lv_aload_n hx hb dX1_seat_0 rfl (lv_at hl 0 rfl) ?_
  refine lv_iconst (v := 0) hx hb dX1_seat_1 (by decide) ?_
  refine va_put (D := (dC, dI)) (ci := 1) (v := .int 0) (ty := .int) (C := RX1) (T := TX1) (N := 10) hx hb hts hin1 tyX1 tyX1_ok nmX1 hown hK hP hD hS 0 rfl rfl 0 (by decide) (hts (.fieldLink RX1 33 "GuestChairsModel" "thrown" "I") (by decide +kernel)) (fun _ h9 => h9) rfl (by decide +kernel) rfl rfl (Nat.le_of_ble_eq_true rfl) dX1_seat_2 (fun H locs hP hD hS => ?_)
  have hP : va_P (dC, dI) vwCl (gmW h kc f1 f2 of ro fa 0 (nI g) (nI r) x1 x2) H := hP
  have hD : va_D A (gmW h kc f1 f2 of ro fa 0 (nI g) (nI r) x1 x2) := hD
  refine lv_aload_n hx hb dX1_seat_5 rfl (lv_at hl 0 rfl) ?_
  have hPc : va_P (dC, dI) vwCl (gmW h kc f1 f2 of ro fa 0 (nI g) (nI r) x1 x2) _ := hP.sub [0, 1, 2, 3, 4, 5] rfl
  have hKc : va_K (dC, dI) vwCl (gmT kc) s := hK.sub [0, 1, 2, 3, 4] rfl
  refine va_calli (va_runV (As := []) (rest := []) ⟨hx, hb, hml, hown, hts⟩ (c_X1_seated l dC dI h kc f1 f2 of ro fa 0 g r x1 x2 K (by first | assumption | omega) (by first | assumption | omega) (by first | assumption | omega)) (cwV 0 hts gX1_seat_X1_seated rfl rfl rfl (by decide +kernel) ⟨Nat.le_of_ble_eq_true rfl, Nat.le_of_ble_eq_true rfl⟩) ⟨gcPR_blind, va_recv hK hP (ci := 1) (q0 := 0) rfl rfl, fun U hU hW => ⟨rfl, by rw [hU]; exact hPc, va_K.moved hW.alike hKc⟩⟩ rfl rfl hl.1 rfl (lv_room (Nat.le_of_ble_eq_true rfl)) dX1_seat_6 ⟨Nat.zero_le _, Nat.zero_le _⟩) hS (fun q _ h => h.elim) (fun q h => h.elim) (fun r1 u t H locs ht hvm hw hB hz1 hk1 hS => ?_)
  have hP := gc_keep hP hk1
  have hw : r1 = mSe K x1 x2 g := hw
  subst hw
  clear hw
  clear hB hz1 hk1 ht hvm
  clear hPc hKc
  have hpost : (mSe K x1 x2 g) = mSe K x1 x2 g := by first | rfl | simp [gB, mPo]
  exact W.iret (v := mSe K x1 x2 g) hx hb hr (fun t ht hW => ⟨⟨mSe K x1 x2 g, (), rfl, hpost, ⟨by rw [ht]; exact hP, hD⟩⟩, hS.F ht⟩) hS.2.2 dX1_seat_9
set_option maxHeartbeats 4000000 in
set_option maxRecDepth 100000 in
theorem c_X1_seatings (l : Launch) (dC : Nat → ClassId) (dI : Nat → Nat → Nat) (h : Nat → Nat) (kc : Nat → ClassId) (f1 : Nat → Int32) (f2 : Nat → Int32) (of : Nat → Int32) (ro : Nat → Int32) (fa : Nat → Int32) (th : Int32) (g : Nat) (r : Nat) (x1 : Int32) (x2 : Int32) (K : Bk) (sz : Nat) (hBk : mOK K g r f1 f2 of) (hg : g ≤ 10) (hr30 : r ≤ 30) : Met l yX1_seatings wsX1_seatings ({ frames := 4, cells := 0, slots := 0, locals := 87 }) (gcPM (dC, dI) [.ref (h 0)] (gmW h kc f1 f2 of ro fa th (nI g) (nI r) x1 x2) (gmT kc) sz) (va_Qi (fun (rv : Int32) (_u : Unit) => rv = mAll K x1 x2 g) (fun _u t9 => va_P (dC, dI) vwCl (gmW h kc f1 f2 of ro fa 0 (nI g) (nI r) x1 x2) t9.heap ∧ va_D (va_A (gmW h kc f1 f2 of ro fa th (nI g) (nI r) x1 x2) sz) (gmW h kc f1 f2 of ro fa 0 (nI g) (nI r) x1 x2)) (va_A (gmW h kc f1 f2 of ro fa th (nI g) (nI r) x1 x2) sz)) 0 0 (va_A (gmW h kc f1 f2 of ro fa th (nI g) (nI r) x1 x2) sz) := by
  refine Met.ofW (cc := cX1_seatings) (maxL := 1) (ret := (some .int)) (by decide) rfl ?_
  intro p e s m args below meth c s₁ B hml hv
  obtain ⟨rfl, hsz, hP, hK, hD0⟩ := hv
  have hx := B.exec
  have hb := B.bytes
  have hr := B.returns
  have hts := atoms_spec (ws := wsX1_seatings) B.pre
  have hown : s.vm.findClass RX1 = some m.cls := findClass_of_methodNamed B.named
  have hlocks := B.notSynchronized
  subst hsz
  have hD := hD0.self (sz := s.heap.size)
  generalize hAe : va_A (gmW h kc f1 f2 of ro fa th (nI g) (nI r) x1 x2) s.heap.size = A at hD ⊢
  have hA : ∀ q : Nat, s.heap.size ≤ q → A q := fun q h => by rw [← hAe]; exact Or.inr h
  have hS : va_S A s.heap s.heap [] := va_S.rf
  have hP : va_P (dC, dI) vwCl (gmW h kc f1 f2 of ro fa th (nI g) (nI r) x1 x2) s.heap := hP
  have hin1 : ∀ w ∈ wsX10, w ∈ wsX1_seatings := by decide +kernel
  have hl := lv_entry [.ref (h 0)] (n := 1) (Nat.le_of_ble_eq_true rfl)
  rw [lg_entry_eq]
  generalize (lg_sl [.ref (h 0)] ++ List.replicate (1 - (lg_sl [.ref (h 0)]).length) Slot.unset).toArray = ls at hl ⊢
  have hl : lv_has ls 1 [(0, .ref (h 0))] := hl
  refine lv_aload_n hx hb dX1_seatings_0 rfl (lv_at hl 0 rfl) ?_
  refine lv_iconst (v := 0) hx hb dX1_seatings_1 (by decide) ?_
  refine va_put (D := (dC, dI)) (ci := 1) (v := .int 0) (ty := .int) (C := RX1) (T := TX1) (N := 10) hx hb hts hin1 tyX1 tyX1_ok nmX1 hown hK hP hD hS 0 rfl rfl 0 (by decide) (hts (.fieldLink RX1 33 "GuestChairsModel" "thrown" "I") (by decide +kernel)) (fun _ h9 => h9) rfl (by decide +kernel) rfl rfl (Nat.le_of_ble_eq_true rfl) dX1_seatings_2 (fun H locs hP hD hS => ?_)
  have hP : va_P (dC, dI) vwCl (gmW h kc f1 f2 of ro fa 0 (nI g) (nI r) x1 x2) H := hP
  have hD : va_D A (gmW h kc f1 f2 of ro fa 0 (nI g) (nI r) x1 x2) := hD
  refine lv_aload_n hx hb dX1_seatings_5 rfl (lv_at hl 0 rfl) ?_
  have hPc : va_P (dC, dI) vwCl (gmW h kc f1 f2 of ro fa 0 (nI g) (nI r) x1 x2) _ := hP.sub [0, 1, 2, 3, 4, 5] rfl
  have hKc : va_K (dC, dI) vwCl (gmT kc) s := hK.sub [0, 1, 2, 3, 4] rfl
  refine va_calli (va_runV (As := []) (rest := []) ⟨hx, hb, hml, hown, hts⟩ (c_X1_all l dC dI h kc f1 f2 of ro fa 0 g r x1 x2 K (by first | assumption | omega) (by first | assumption | omega) (by first | assumption | omega)) (cwV 0 hts gX1_seatings_X1_all rfl rfl rfl (by decide +kernel) ⟨Nat.le_of_ble_eq_true rfl, Nat.le_of_ble_eq_true rfl⟩) ⟨gcPR_blind, va_recv hK hP (ci := 1) (q0 := 0) rfl rfl, fun U hU hW => ⟨rfl, by rw [hU]; exact hPc, va_K.moved hW.alike hKc⟩⟩ rfl rfl hl.1 rfl (lv_room (Nat.le_of_ble_eq_true rfl)) dX1_seatings_6 ⟨Nat.zero_le _, Nat.zero_le _⟩) hS (fun q _ h => h.elim) (fun q h => h.elim) (fun r1 u t H locs ht hvm hw hB hz1 hk1 hS => ?_)
  have hP := gc_keep hP hk1
  have hw : r1 = mAll K x1 x2 g := hw
  subst hw
  clear hw
  clear hB hz1 hk1 ht hvm
  clear hPc hKc
  have hpost : (mAll K x1 x2 g) = mAll K x1 x2 g := by first | rfl | simp [gB, mPo]
  exact W.iret (v := mAll K x1 x2 g) hx hb hr (fun t ht hW => ⟨⟨mAll K x1 x2 g, (), rfl, hpost, ⟨by rw [ht]; exact hP, hD⟩⟩, hS.F ht⟩) hS.2.2 dX1_seatings_9
set_option maxHeartbeats 4000000 in
set_option maxRecDepth 100000 in
theorem c_X1_fewest (l : Launch) (dC : Nat → ClassId) (dI : Nat → Nat → Nat) (h : Nat → Nat) (kc : Nat → ClassId) (f1 : Nat → Int32) (f2 : Nat → Int32) (of : Nat → Int32) (ro : Nat → Int32) (fa : Nat → Int32) (th : Int32) (g : Nat) (r : Nat) (x1 : Int32) (x2 : Int32) (K : Bk) (sz : Nat) (hBk : mOK K g r f1 f2 of) (hg : g ≤ 10) (hr30 : r ≤ 30) : Met l yX1_fewest wsX1_fewest ({ frames := 2, cells := 0, slots := 0, locals := 43 }) (gcPM (dC, dI) [.ref (h 0)] (gmW h kc f1 f2 of ro fa th (nI g) (nI r) x1 x2) (gmT kc) sz) (va_Qi (fun (rv : Int32) (_u : Unit) => rv = mFe K x1 x2 (2 ^ g)) (fun _u t9 => va_P (dC, dI) vwCl (gmW h kc f1 f2 of ro fa 0 (nI g) (nI r) x1 x2) t9.heap ∧ va_D (va_A (gmW h kc f1 f2 of ro fa th (nI g) (nI r) x1 x2) sz) (gmW h kc f1 f2 of ro fa 0 (nI g) (nI r) x1 x2)) (va_A (gmW h kc f1 f2 of ro fa th (nI g) (nI r) x1 x2) sz)) 0 0 (va_A (gmW h kc f1 f2 of ro fa th (nI g) (nI r) x1 x2) sz) := by
  refine Met.ofW (cc := cX1_fewest) (maxL := 3) (ret := (some .int)) (by decide) rfl ?_
  intro p e s m args below meth c s₁ B hml hv
  obtain ⟨rfl, hsz, hP, hK, hD0⟩ := hv
  have hx := B.exec
  have hb := B.bytes
  have hr := B.returns
  have hts := atoms_spec (ws := wsX1_fewest) B.pre
  have hown : s.vm.findClass RX1 = some m.cls := findClass_of_methodNamed B.named
  have hlocks := B.notSynchronized
  subst hsz
  have hD := hD0.self (sz := s.heap.size)
  generalize hAe : va_A (gmW h kc f1 f2 of ro fa th (nI g) (nI r) x1 x2) s.heap.size = A at hD ⊢
  have hA : ∀ q : Nat, s.heap.size ≤ q → A q := fun q h => by rw [← hAe]; exact Or.inr h
  have hS : va_S A s.heap s.heap [] := va_S.rf
  have hP : va_P (dC, dI) vwCl (gmW h kc f1 f2 of ro fa th (nI g) (nI r) x1 x2) s.heap := hP
  have hin1 : ∀ w ∈ wsX10, w ∈ wsX1_fewest := by decide +kernel
  have hl := lv_entry [.ref (h 0)] (n := 3) (Nat.le_of_ble_eq_true rfl)
  rw [lg_entry_eq]
  generalize (lg_sl [.ref (h 0)] ++ List.replicate (3 - (lg_sl [.ref (h 0)]).length) Slot.unset).toArray = ls at hl ⊢
  have hl : lv_has ls 3 [(0, .ref (h 0))] := hl
  have hg2 : 2 ^ g ≤ 1024 := Nat.pow_le_pow_right (n := 2) (by decide) hg
  refine lv_aload_n hx hb dX1_fewest_0 rfl (lv_at hl 0 rfl) ?_
  refine lv_iconst (v := 0) hx hb dX1_fewest_1 (by decide) ?_
  refine va_put (D := (dC, dI)) (ci := 1) (v := .int 0) (ty := .int) (C := RX1) (T := TX1) (N := 10) hx hb hts hin1 tyX1 tyX1_ok nmX1 hown hK hP hD hS 0 rfl rfl 0 (by decide) (hts (.fieldLink RX1 33 "GuestChairsModel" "thrown" "I") (by decide +kernel)) (fun _ h9 => h9) rfl (by decide +kernel) rfl rfl (Nat.le_of_ble_eq_true rfl) dX1_fewest_2 (fun H locs hP hD hS => ?_)
  have hP : va_P (dC, dI) vwCl (gmW h kc f1 f2 of ro fa 0 (nI g) (nI r) x1 x2) H := hP
  have hD : va_D A (gmW h kc f1 f2 of ro fa 0 (nI g) (nI r) x1 x2) := hD
  refine lv_iconst (v := -1) hx hb dX1_fewest_5 (by decide) ?_
  refine lv_istore_n (lv' := [(1, .int (-1)), (0, .ref (h 0))]) hx hb dX1_fewest_6 rfl hl (by decide) rfl (fun ls hl => ?_)
  refine lv_iconst (v := 0) hx hb dX1_fewest_7 (by decide) ?_
  refine lv_istore_n (lv' := [(2, .int 0), (1, .int (-1)), (0, .ref (h 0))]) hx hb dX1_fewest_8 rfl hl (by decide) rfl (fun ls hl => ?_)
  refine gc_loop (2 ^ g) (fun (i : Nat) (H : Heap) (locs : List Loc) (ls : Array Slot) => ∃ (x : Int32), x = mFe K x1 x2 i ∧ va_P (dC, dI) vwCl (gmW h kc f1 f2 of ro fa 0 (nI g) (nI r) x1 x2) H ∧ va_D A (gmW h kc f1 f2 of ro fa 0 (nI g) (nI r) x1 x2) ∧ va_S A s.heap H locs ∧ lv_has ls 3 [(2, .int (nI i)), (1, .int x), (0, .ref (h 0))]) 0 (Nat.zero_le _) ⟨(-1), (by first | rfl | assumption | omega), hP, hD, hS, lv_sub hl [0, 1, 2] rfl⟩ ?_
  intro i H locs ls hi hI ihi
  obtain ⟨x, e_x, hP, hD, hS, hl⟩ := hI
  refine lv_iload_n hx hb dX1_fewest_9 rfl (lv_at hl 0 rfl) ?_
  refine lv_iconst (v := 1) hx hb dX1_fewest_10 (by decide) ?_
  refine lv_aload_n hx hb dX1_fewest_11 rfl (lv_at hl 2 rfl) ?_
  refine va_get (D := (dC, dI)) (ci := 1) (v := .int (nI g)) (C := RX1) (T := TX1) (N := 10) hx hb hts hin1 hown hK hP 0 rfl rfl 1 (by decide) (hts (.fieldLink RX1 36 "GuestChairsModel" "guests" "I") (by decide +kernel)) (fun _ h9 => h9) rfl dX1_fewest_12 ?_
  refine lv_ishl hx hb dX1_fewest_15 ?_
  refine gc_topi (y := nI (2 ^ g)) (gc_shl1 hg) ?_
  refine lv_icmp_ge (tgt := 52) hx hb dX1_fewest_16 (by decide) (fun c_16 => ?_) (fun c_16 => ?_)
  · skip
    have hEi : i = 2 ^ g := gc_ge c_16 (by omega) (by omega)
    refine lv_iload_n hx hb dX1_fewest_52 rfl (lv_at hl 1 rfl) ?_
    have hpost : x = mFe K x1 x2 (2 ^ g) := by rw [e_x, hEi]
    exact W.iret (v := x) hx hb hr (fun t ht hW => ⟨⟨x, (), rfl, hpost, ⟨by rw [ht]; exact hP, hD⟩⟩, hS.F ht⟩) hS.2.2 dX1_fewest_53
  · skip
    have hLi : i < 2 ^ g := gc_lt c_16 (by omega) (by omega)
    refine lv_aload_n hx hb dX1_fewest_19 rfl (lv_at hl 2 rfl) ?_
    refine lv_iload_n hx hb dX1_fewest_20 rfl (lv_at hl 0 rfl) ?_
    have hPc : va_P (dC, dI) vwCl (gmW h kc f1 f2 of ro fa 0 (nI g) (nI r) x1 x2) _ := hP.sub [0, 1, 2, 3, 4, 5] rfl
    have hKc : va_K (dC, dI) vwCl (gmT kc) s := hK.sub [0, 1, 2, 3, 4] rfl
    refine va_calli (va_runV (As := [.int (nI i)]) (rest := []) ⟨hx, hb, hml, hown, hts⟩ (c_X1_brokenBy l dC dI h kc f1 f2 of ro fa 0 g r x1 x2 K (nI i) (by first | assumption | omega) (by first | assumption | omega) (by first | assumption | omega)) (cwV 1 hts gX1_fewest_X1_brokenBy rfl rfl rfl (by decide +kernel) ⟨Nat.le_of_ble_eq_true rfl, Nat.le_of_ble_eq_true rfl⟩) ⟨gcPR_blind, va_recv hK hP (ci := 1) (q0 := 0) rfl rfl, fun U hU hW => ⟨rfl, by rw [hU]; exact hPc, va_K.moved hW.alike hKc⟩⟩ rfl rfl hl.1 rfl (lv_room (Nat.le_of_ble_eq_true rfl)) dX1_fewest_21 ⟨Nat.zero_le _, Nat.zero_le _⟩) hS (fun q _ h => h.elim) (fun q h => h.elim) (fun r1 u t H locs ht hvm hw hB hz1 hk1 hS => ?_)
    have hP := gc_keep hP hk1
    have hw : r1 = mBB K x1 x2 (nI i) := hw
    subst hw
    clear hw
    clear hB hz1 hk1 ht hvm
    clear hPc hKc
    refine lv_iconst (v := -1) hx hb dX1_fewest_24 (by decide) ?_
    refine lv_icmp_ne (tgt := 46) hx hb dX1_fewest_25 (by decide) (fun c_25 => ?_) (fun c_25 => ?_)
    · skip
      refine lv_iinc (v := nI (i + 1)) (lv' := [(2, .int (nI (i + 1))), (1, .int x), (0, .ref (h 0))]) hx hb dX1_fewest_46 hl (k := 0) rfl (nI_1 i) (by decide) rfl (fun ls hl => ?_)
      refine lv_goto (tgt := 9) hx hb dX1_fewest_49 (by decide) ?_
      exact ihi H _ ls (by omega) ⟨x, (by rw [mFe, ← e_x]; rw [if_neg (fun q => c_25 q.1)]), hP, hD, hS, lv_sub hl [0, 1, 2] rfl⟩
    · skip
      refine lv_iload_n hx hb dX1_fewest_28 rfl (lv_at hl 1 rfl) ?_
      refine lv_iconst (v := -1) hx hb dX1_fewest_29 (by decide) ?_
      refine lv_icmp_eq (tgt := 41) hx hb dX1_fewest_30 (by decide) (fun c_30 => ?_) (fun c_30 => ?_)
      · skip
        refine lv_iload_n hx hb dX1_fewest_41 rfl (lv_at hl 0 rfl) ?_
        refine va_calli (va_runS (As := [.int (nI i)]) (rest := []) ⟨hx, hb, hml, hown, hts⟩ (c_X1_size l (nI i)) (va_cwS 1 hts gX1_fewest_X1_size rfl rfl rfl (by decide +kernel) ⟨Nat.le_of_ble_eq_true rfl, Nat.le_of_ble_eq_true rfl⟩) ⟨fun a U g mk q => q, fun U hU hW => ⟨rfl, trivial⟩⟩ rfl rfl hl.1 rfl (lv_room (Nat.le_of_ble_eq_true rfl)) dX1_fewest_42 ⟨Nat.zero_le _, Nat.zero_le _⟩) hS (fun q _ h => h.elim) (fun q h => h.elim) (fun r2 u t H locs ht hvm hw hB hz1 hk1 hS => ?_)
        have hP := gc_keep hP hk1
        have hw : r2 = mSz (nI i) 10 := hw
        subst hw
        clear hw
        clear hB hz1 hk1 ht hvm
        refine lv_istore_n (lv' := [(1, .int (mSz (nI i) 10)), (2, .int (nI i)), (0, .ref (h 0))]) hx hb dX1_fewest_45 rfl hl (by decide) rfl (fun ls hl => ?_)
        refine lv_iinc (v := nI (i + 1)) (lv' := [(2, .int (nI (i + 1))), (1, .int (mSz (nI i) 10)), (0, .ref (h 0))]) hx hb dX1_fewest_46 hl (k := 1) rfl (nI_1 i) (by decide) rfl (fun ls hl => ?_)
        refine lv_goto (tgt := 9) hx hb dX1_fewest_49 (by decide) ?_
        exact ihi H _ ls (by omega) ⟨(mSz (nI i) 10), (by rw [mFe, ← e_x]; rw [if_pos ⟨c_25, Or.inl c_30⟩]), hP, hD, hS, lv_sub hl [0, 1, 2] rfl⟩
      · skip
        refine lv_iload_n hx hb dX1_fewest_33 rfl (lv_at hl 0 rfl) ?_
        refine va_calli (va_runS (As := [.int (nI i)]) (rest := []) ⟨hx, hb, hml, hown, hts⟩ (c_X1_size l (nI i)) (va_cwS 1 hts gX1_fewest_X1_size rfl rfl rfl (by decide +kernel) ⟨Nat.le_of_ble_eq_true rfl, Nat.le_of_ble_eq_true rfl⟩) ⟨fun a U g mk q => q, fun U hU hW => ⟨rfl, trivial⟩⟩ rfl rfl hl.1 rfl (lv_room (Nat.le_of_ble_eq_true rfl)) dX1_fewest_34 ⟨Nat.zero_le _, Nat.zero_le _⟩) hS (fun q _ h => h.elim) (fun q h => h.elim) (fun r3 u t H locs ht hvm hw hB hz1 hk1 hS => ?_)
        have hP := gc_keep hP hk1
        have hw : r3 = mSz (nI i) 10 := hw
        subst hw
        clear hw
        clear hB hz1 hk1 ht hvm
        refine lv_iload_n hx hb dX1_fewest_37 rfl (lv_at hl 1 rfl) ?_
        refine lv_icmp_ge (tgt := 46) hx hb dX1_fewest_38 (by decide) (fun c_38 => ?_) (fun c_38 => ?_)
        · skip
          refine lv_iinc (v := nI (i + 1)) (lv' := [(2, .int (nI (i + 1))), (1, .int x), (0, .ref (h 0))]) hx hb dX1_fewest_46 hl (k := 0) rfl (nI_1 i) (by decide) rfl (fun ls hl => ?_)
          refine lv_goto (tgt := 9) hx hb dX1_fewest_49 (by decide) ?_
          exact ihi H _ ls (by omega) ⟨x, (by rw [mFe, ← e_x]; rw [if_neg (fun q => q.2.elim c_30 (fun q => absurd (Int32.lt_of_lt_of_le q c_38) Int32.lt_irrefl))]), hP, hD, hS, lv_sub hl [0, 1, 2] rfl⟩
        · skip
          refine lv_iload_n hx hb dX1_fewest_41 rfl (lv_at hl 0 rfl) ?_
          refine va_calli (va_runS (As := [.int (nI i)]) (rest := []) ⟨hx, hb, hml, hown, hts⟩ (c_X1_size l (nI i)) (va_cwS 1 hts gX1_fewest_X1_size rfl rfl rfl (by decide +kernel) ⟨Nat.le_of_ble_eq_true rfl, Nat.le_of_ble_eq_true rfl⟩) ⟨fun a U g mk q => q, fun U hU hW => ⟨rfl, trivial⟩⟩ rfl rfl hl.1 rfl (lv_room (Nat.le_of_ble_eq_true rfl)) dX1_fewest_42 ⟨Nat.zero_le _, Nat.zero_le _⟩) hS (fun q _ h => h.elim) (fun q h => h.elim) (fun r4 u t H locs ht hvm hw hB hz1 hk1 hS => ?_)
          have hP := gc_keep hP hk1
          have hw : r4 = mSz (nI i) 10 := hw
          subst hw
          clear hw
          clear hB hz1 hk1 ht hvm
          refine lv_istore_n (lv' := [(1, .int (mSz (nI i) 10)), (2, .int (nI i)), (0, .ref (h 0))]) hx hb dX1_fewest_45 rfl hl (by decide) rfl (fun ls hl => ?_)
          refine lv_iinc (v := nI (i + 1)) (lv' := [(2, .int (nI (i + 1))), (1, .int (mSz (nI i) 10)), (0, .ref (h 0))]) hx hb dX1_fewest_46 hl (k := 1) rfl (nI_1 i) (by decide) rfl (fun ls hl => ?_)
          refine lv_goto (tgt := 9) hx hb dX1_fewest_49 (by decide) ?_
          exact ihi H _ ls (by omega) ⟨(mSz (nI i) 10), (by rw [mFe, ← e_x]; rw [if_pos ⟨c_25, Or.inr (Int32.not_le.mp c_38)⟩]), hP, hD, hS, lv_sub hl [0, 1, 2] rfl⟩
set_option maxHeartbeats 4000000 in
set_option maxRecDepth 100000 in
theorem c_X1_most (l : Launch) (dC : Nat → ClassId) (dI : Nat → Nat → Nat) (h : Nat → Nat) (kc : Nat → ClassId) (f1 : Nat → Int32) (f2 : Nat → Int32) (of : Nat → Int32) (ro : Nat → Int32) (fa : Nat → Int32) (th : Int32) (g : Nat) (r : Nat) (x1 : Int32) (x2 : Int32) (K : Bk) (sz : Nat) (hBk : mOK K g r f1 f2 of) (hg : g ≤ 10) (hr30 : r ≤ 30) : Met l yX1_most wsX1_most ({ frames := 2, cells := 0, slots := 0, locals := 43 }) (gcPM (dC, dI) [.ref (h 0)] (gmW h kc f1 f2 of ro fa th (nI g) (nI r) x1 x2) (gmT kc) sz) (va_Qi (fun (rv : Int32) (_u : Unit) => rv = mMo K x1 x2 (2 ^ g)) (fun _u t9 => va_P (dC, dI) vwCl (gmW h kc f1 f2 of ro fa 0 (nI g) (nI r) x1 x2) t9.heap ∧ va_D (va_A (gmW h kc f1 f2 of ro fa th (nI g) (nI r) x1 x2) sz) (gmW h kc f1 f2 of ro fa 0 (nI g) (nI r) x1 x2)) (va_A (gmW h kc f1 f2 of ro fa th (nI g) (nI r) x1 x2) sz)) 0 0 (va_A (gmW h kc f1 f2 of ro fa th (nI g) (nI r) x1 x2) sz) := by
  refine Met.ofW (cc := cX1_most) (maxL := 3) (ret := (some .int)) (by decide) rfl ?_
  intro p e s m args below meth c s₁ B hml hv
  obtain ⟨rfl, hsz, hP, hK, hD0⟩ := hv
  have hx := B.exec
  have hb := B.bytes
  have hr := B.returns
  have hts := atoms_spec (ws := wsX1_most) B.pre
  have hown : s.vm.findClass RX1 = some m.cls := findClass_of_methodNamed B.named
  have hlocks := B.notSynchronized
  subst hsz
  have hD := hD0.self (sz := s.heap.size)
  generalize hAe : va_A (gmW h kc f1 f2 of ro fa th (nI g) (nI r) x1 x2) s.heap.size = A at hD ⊢
  have hA : ∀ q : Nat, s.heap.size ≤ q → A q := fun q h => by rw [← hAe]; exact Or.inr h
  have hS : va_S A s.heap s.heap [] := va_S.rf
  have hP : va_P (dC, dI) vwCl (gmW h kc f1 f2 of ro fa th (nI g) (nI r) x1 x2) s.heap := hP
  have hin1 : ∀ w ∈ wsX10, w ∈ wsX1_most := by decide +kernel
  have hl := lv_entry [.ref (h 0)] (n := 3) (Nat.le_of_ble_eq_true rfl)
  rw [lg_entry_eq]
  generalize (lg_sl [.ref (h 0)] ++ List.replicate (3 - (lg_sl [.ref (h 0)]).length) Slot.unset).toArray = ls at hl ⊢
  have hl : lv_has ls 3 [(0, .ref (h 0))] := hl
  have hg2 : 2 ^ g ≤ 1024 := Nat.pow_le_pow_right (n := 2) (by decide) hg
  refine lv_aload_n hx hb dX1_most_0 rfl (lv_at hl 0 rfl) ?_
  refine lv_iconst (v := 0) hx hb dX1_most_1 (by decide) ?_
  refine va_put (D := (dC, dI)) (ci := 1) (v := .int 0) (ty := .int) (C := RX1) (T := TX1) (N := 10) hx hb hts hin1 tyX1 tyX1_ok nmX1 hown hK hP hD hS 0 rfl rfl 0 (by decide) (hts (.fieldLink RX1 33 "GuestChairsModel" "thrown" "I") (by decide +kernel)) (fun _ h9 => h9) rfl (by decide +kernel) rfl rfl (Nat.le_of_ble_eq_true rfl) dX1_most_2 (fun H locs hP hD hS => ?_)
  have hP : va_P (dC, dI) vwCl (gmW h kc f1 f2 of ro fa 0 (nI g) (nI r) x1 x2) H := hP
  have hD : va_D A (gmW h kc f1 f2 of ro fa 0 (nI g) (nI r) x1 x2) := hD
  refine lv_iconst (v := -1) hx hb dX1_most_5 (by decide) ?_
  refine lv_istore_n (lv' := [(1, .int (-1)), (0, .ref (h 0))]) hx hb dX1_most_6 rfl hl (by decide) rfl (fun ls hl => ?_)
  refine lv_iconst (v := 0) hx hb dX1_most_7 (by decide) ?_
  refine lv_istore_n (lv' := [(2, .int 0), (1, .int (-1)), (0, .ref (h 0))]) hx hb dX1_most_8 rfl hl (by decide) rfl (fun ls hl => ?_)
  refine gc_loop (2 ^ g) (fun (i : Nat) (H : Heap) (locs : List Loc) (ls : Array Slot) => ∃ (x : Int32), x = mMo K x1 x2 i ∧ va_P (dC, dI) vwCl (gmW h kc f1 f2 of ro fa 0 (nI g) (nI r) x1 x2) H ∧ va_D A (gmW h kc f1 f2 of ro fa 0 (nI g) (nI r) x1 x2) ∧ va_S A s.heap H locs ∧ lv_has ls 3 [(2, .int (nI i)), (1, .int x), (0, .ref (h 0))]) 0 (Nat.zero_le _) ⟨(-1), (by first | rfl | assumption | omega), hP, hD, hS, lv_sub hl [0, 1, 2] rfl⟩ ?_
  intro i H locs ls hi hI ihi
  obtain ⟨x, e_x, hP, hD, hS, hl⟩ := hI
  refine lv_iload_n hx hb dX1_most_9 rfl (lv_at hl 0 rfl) ?_
  refine lv_iconst (v := 1) hx hb dX1_most_10 (by decide) ?_
  refine lv_aload_n hx hb dX1_most_11 rfl (lv_at hl 2 rfl) ?_
  refine va_get (D := (dC, dI)) (ci := 1) (v := .int (nI g)) (C := RX1) (T := TX1) (N := 10) hx hb hts hin1 hown hK hP 0 rfl rfl 1 (by decide) (hts (.fieldLink RX1 36 "GuestChairsModel" "guests" "I") (by decide +kernel)) (fun _ h9 => h9) rfl dX1_most_12 ?_
  refine lv_ishl hx hb dX1_most_15 ?_
  refine gc_topi (y := nI (2 ^ g)) (gc_shl1 hg) ?_
  refine lv_icmp_ge (tgt := 43) hx hb dX1_most_16 (by decide) (fun c_16 => ?_) (fun c_16 => ?_)
  · skip
    have hEi : i = 2 ^ g := gc_ge c_16 (by omega) (by omega)
    refine lv_iload_n hx hb dX1_most_43 rfl (lv_at hl 1 rfl) ?_
    have hpost : x = mMo K x1 x2 (2 ^ g) := by rw [e_x, hEi]
    exact W.iret (v := x) hx hb hr (fun t ht hW => ⟨⟨x, (), rfl, hpost, ⟨by rw [ht]; exact hP, hD⟩⟩, hS.F ht⟩) hS.2.2 dX1_most_44
  · skip
    have hLi : i < 2 ^ g := gc_lt c_16 (by omega) (by omega)
    refine lv_aload_n hx hb dX1_most_19 rfl (lv_at hl 2 rfl) ?_
    refine lv_iload_n hx hb dX1_most_20 rfl (lv_at hl 0 rfl) ?_
    have hPc : va_P (dC, dI) vwCl (gmW h kc f1 f2 of ro fa 0 (nI g) (nI r) x1 x2) _ := hP.sub [0, 1, 2, 3, 4, 5] rfl
    have hKc : va_K (dC, dI) vwCl (gmT kc) s := hK.sub [0, 1, 2, 3, 4] rfl
    refine va_calli (va_runV (As := [.int (nI i)]) (rest := []) ⟨hx, hb, hml, hown, hts⟩ (c_X1_brokenBy l dC dI h kc f1 f2 of ro fa 0 g r x1 x2 K (nI i) (by first | assumption | omega) (by first | assumption | omega) (by first | assumption | omega)) (cwV 1 hts gX1_most_X1_brokenBy rfl rfl rfl (by decide +kernel) ⟨Nat.le_of_ble_eq_true rfl, Nat.le_of_ble_eq_true rfl⟩) ⟨gcPR_blind, va_recv hK hP (ci := 1) (q0 := 0) rfl rfl, fun U hU hW => ⟨rfl, by rw [hU]; exact hPc, va_K.moved hW.alike hKc⟩⟩ rfl rfl hl.1 rfl (lv_room (Nat.le_of_ble_eq_true rfl)) dX1_most_21 ⟨Nat.zero_le _, Nat.zero_le _⟩) hS (fun q _ h => h.elim) (fun q h => h.elim) (fun r1 u t H locs ht hvm hw hB hz1 hk1 hS => ?_)
    have hP := gc_keep hP hk1
    have hw : r1 = mBB K x1 x2 (nI i) := hw
    subst hw
    clear hw
    clear hB hz1 hk1 ht hvm
    clear hPc hKc
    refine lv_iconst (v := -1) hx hb dX1_most_24 (by decide) ?_
    refine lv_icmp_ne (tgt := 37) hx hb dX1_most_25 (by decide) (fun c_25 => ?_) (fun c_25 => ?_)
    · skip
      refine lv_iinc (v := nI (i + 1)) (lv' := [(2, .int (nI (i + 1))), (1, .int x), (0, .ref (h 0))]) hx hb dX1_most_37 hl (k := 0) rfl (nI_1 i) (by decide) rfl (fun ls hl => ?_)
      refine lv_goto (tgt := 9) hx hb dX1_most_40 (by decide) ?_
      exact ihi H _ ls (by omega) ⟨x, (by rw [mMo, ← e_x]; rw [if_neg c_25]), hP, hD, hS, lv_sub hl [0, 1, 2] rfl⟩
    · skip
      refine lv_iload_n hx hb dX1_most_28 rfl (lv_at hl 1 rfl) ?_
      refine lv_iload_n hx hb dX1_most_29 rfl (lv_at hl 0 rfl) ?_
      refine va_calli (va_runS (As := [.int (nI i)]) (rest := [.int x]) ⟨hx, hb, hml, hown, hts⟩ (c_X1_size l (nI i)) (va_cwS 1 hts gX1_most_X1_size rfl rfl rfl (by decide +kernel) ⟨Nat.le_of_ble_eq_true rfl, Nat.le_of_ble_eq_true rfl⟩) ⟨fun a U g mk q => q, fun U hU hW => ⟨rfl, trivial⟩⟩ rfl rfl hl.1 rfl (lv_room (Nat.le_of_ble_eq_true rfl)) dX1_most_30 ⟨Nat.zero_le _, Nat.zero_le _⟩) hS (fun q _ h => h.elim) (fun q h => h.elim) (fun r2 u t H locs ht hvm hw hB hz1 hk1 hS => ?_)
      have hP := gc_keep hP hk1
      have hw : r2 = mSz (nI i) 10 := hw
      subst hw
      clear hw
      clear hB hz1 hk1 ht hvm
      refine va_mmax hx hb (hml.trans hl.1.symm) hown (hts (.methodLink RX1 106 Lib.Math.max.name) (by decide +kernel)) (hts (.static Lib.Math.max.name) (by decide +kernel)) (hts (.initialized "java/lang/Math") (by decide +kernel)) (hts (.code Lib.Math.max.name Lib.Math.max.code 2 (some .int)) (by decide +kernel)) (Nat.le_of_ble_eq_true rfl) (Nat.le_of_ble_eq_true rfl) (Nat.zero_le _) (Nat.zero_le _) dX1_most_33 ?_
      refine lv_istore_n (lv' := [(1, .int (if x < mSz (nI i) 10 then mSz (nI i) 10 else x)), (2, .int (nI i)), (0, .ref (h 0))]) hx hb dX1_most_36 rfl hl (by decide) rfl (fun ls hl => ?_)
      refine lv_iinc (v := nI (i + 1)) (lv' := [(2, .int (nI (i + 1))), (1, .int (if x < mSz (nI i) 10 then mSz (nI i) 10 else x)), (0, .ref (h 0))]) hx hb dX1_most_37 hl (k := 1) rfl (nI_1 i) (by decide) rfl (fun ls hl => ?_)
      refine lv_goto (tgt := 9) hx hb dX1_most_40 (by decide) ?_
      exact ihi H _ ls (by omega) ⟨(if x < mSz (nI i) 10 then mSz (nI i) 10 else x), (by rw [mMo, ← e_x]; rw [if_pos c_25]), hP, hD, hS, lv_sub hl [0, 1, 2] rfl⟩
set_option maxHeartbeats 4000000 in
set_option maxRecDepth 100000 in
theorem c_X1_broken (l : Launch) (dC : Nat → ClassId) (dI : Nat → Nat → Nat) (h : Nat → Nat) (kc : Nat → ClassId) (f1 : Nat → Int32) (f2 : Nat → Int32) (of : Nat → Int32) (ro : Nat → Int32) (fa : Nat → Int32) (th : Int32) (g : Nat) (r : Nat) (x1 : Int32) (x2 : Int32) (K : Bk) (S : Nat) (sz : Nat) (hBk : mOK K g r f1 f2 of) (hg : g ≤ 10) (hr30 : r ≤ 30) (hSg : S < 2 ^ g) : Met l yX1_broken wsX1_broken ({ frames := 2, cells := 0, slots := 0, locals := 43 }) (gcPM (dC, dI) [.ref (h 0), .int (nI S)] (gmW h kc f1 f2 of ro fa th (nI g) (nI r) x1 x2) (gmT kc) sz) (va_Qi (fun (rv : Int32) (_u : Unit) => rv = mBB K x1 x2 (nI S)) (fun _u t9 => va_P (dC, dI) vwCl (gmW h kc f1 f2 of ro fa 0 (nI g) (nI r) x1 x2) t9.heap ∧ va_D (va_A (gmW h kc f1 f2 of ro fa th (nI g) (nI r) x1 x2) sz) (gmW h kc f1 f2 of ro fa 0 (nI g) (nI r) x1 x2)) (va_A (gmW h kc f1 f2 of ro fa th (nI g) (nI r) x1 x2) sz)) 0 0 (va_A (gmW h kc f1 f2 of ro fa th (nI g) (nI r) x1 x2) sz) := by
  refine Met.ofW (cc := cX1_broken) (maxL := 2) (ret := (some .int)) (by decide) rfl ?_
  intro p e s m args below meth c s₁ B hml hv
  obtain ⟨rfl, hsz, hP, hK, hD0⟩ := hv
  have hx := B.exec
  have hb := B.bytes
  have hr := B.returns
  have hts := atoms_spec (ws := wsX1_broken) B.pre
  have hown : s.vm.findClass RX1 = some m.cls := findClass_of_methodNamed B.named
  have hlocks := B.notSynchronized
  subst hsz
  have hD := hD0.self (sz := s.heap.size)
  generalize hAe : va_A (gmW h kc f1 f2 of ro fa th (nI g) (nI r) x1 x2) s.heap.size = A at hD ⊢
  have hA : ∀ q : Nat, s.heap.size ≤ q → A q := fun q h => by rw [← hAe]; exact Or.inr h
  have hS : va_S A s.heap s.heap [] := va_S.rf
  have hP : va_P (dC, dI) vwCl (gmW h kc f1 f2 of ro fa th (nI g) (nI r) x1 x2) s.heap := hP
  have hin1 : ∀ w ∈ wsX10, w ∈ wsX1_broken := by decide +kernel
  have hl := lv_entry [.ref (h 0), .int (nI S)] (n := 2) (Nat.le_of_ble_eq_true rfl)
  rw [lg_entry_eq]
  generalize (lg_sl [.ref (h 0), .int (nI S)] ++ List.replicate (2 - (lg_sl [.ref (h 0), .int (nI S)]).length) Slot.unset).toArray = ls at hl ⊢
  have hl : lv_has ls 2 [(0, .ref (h 0)), (1, .int (nI S))] := hl
  have hg2 : 2 ^ g ≤ 1024 := Nat.pow_le_pow_right (n := 2) (by decide) hg
  refine lv_aload_n hx hb dX1_broken_0 rfl (lv_at hl 0 rfl) ?_
  refine lv_iconst (v := 0) hx hb dX1_broken_1 (by decide) ?_
  refine va_put (D := (dC, dI)) (ci := 1) (v := .int 0) (ty := .int) (C := RX1) (T := TX1) (N := 10) hx hb hts hin1 tyX1 tyX1_ok nmX1 hown hK hP hD hS 0 rfl rfl 0 (by decide) (hts (.fieldLink RX1 33 "GuestChairsModel" "thrown" "I") (by decide +kernel)) (fun _ h9 => h9) rfl (by decide +kernel) rfl rfl (Nat.le_of_ble_eq_true rfl) dX1_broken_2 (fun H locs hP hD hS => ?_)
  have hP : va_P (dC, dI) vwCl (gmW h kc f1 f2 of ro fa 0 (nI g) (nI r) x1 x2) H := hP
  have hD : va_D A (gmW h kc f1 f2 of ro fa 0 (nI g) (nI r) x1 x2) := hD
  refine lv_iload_n hx hb dX1_broken_5 rfl (lv_at hl 1 rfl) ?_
  refine lv_iconst (v := 0) hx hb dX1_broken_6 (by decide) ?_
  refine lv_iconst (v := 1) hx hb dX1_broken_7 (by decide) ?_
  refine lv_aload_n hx hb dX1_broken_8 rfl (lv_at hl 0 rfl) ?_
  refine va_get (D := (dC, dI)) (ci := 1) (v := .int (nI g)) (C := RX1) (T := TX1) (N := 10) hx hb hts hin1 hown hK hP 0 rfl rfl 1 (by decide) (hts (.fieldLink RX1 36 "GuestChairsModel" "guests" "I") (by decide +kernel)) (fun _ h9 => h9) rfl dX1_broken_9 ?_
  refine lv_ishl hx hb dX1_broken_12 ?_
  refine gc_topi (y := nI (2 ^ g)) (gc_shl1 hg) ?_
  refine lv_iconst (v := 1) hx hb dX1_broken_13 (by decide) ?_
  refine lv_isub hx hb dX1_broken_14 ?_
  refine va_calli (va_runS (As := [.int (nI S), .int 0, .int (nI (2 ^ g) - 1)]) (rest := []) ⟨hx, hb, hml, hown, hts⟩ (c_X1_isIn l (nI S) 0 (nI (2 ^ g) - 1)) (va_cwS 3 hts gX1_broken_X1_isIn rfl rfl rfl (by decide +kernel) ⟨Nat.le_of_ble_eq_true rfl, Nat.le_of_ble_eq_true rfl⟩) ⟨fun a U g mk q => q, fun U hU hW => ⟨rfl, trivial⟩⟩ rfl rfl hl.1 rfl (lv_room (Nat.le_of_ble_eq_true rfl)) dX1_broken_15 ⟨Nat.zero_le _, Nat.zero_le _⟩) hS (fun q _ h => h.elim) (fun q h => h.elim) (fun r1 u t H locs ht hvm hw hB hz1 hk1 hS => ?_)
  have hP := gc_keep hP hk1
  have hw : r1 = gB (mIn (nI S) 0 (nI (2 ^ g) - 1)) := hw
  subst hw
  clear hw
  clear hB hz1 hk1 ht hvm
  refine lv_if_eq (tgt := 29) hx hb dX1_broken_18 (by decide) (fun c_18 => ?_) (fun c_18 => ?_)
  · skip
    have c_18 := gB_f c_18
    exact absurd (mIn_ok (j := S) (n := 2 ^ g) (by omega) (by omega)) (by rw [c_18]; decide)
  · skip
    have c_18 := gB_t c_18
    refine lv_aload_n hx hb dX1_broken_21 rfl (lv_at hl 0 rfl) ?_
    refine lv_iload_n hx hb dX1_broken_22 rfl (lv_at hl 1 rfl) ?_
    have hPc : va_P (dC, dI) vwCl (gmW h kc f1 f2 of ro fa 0 (nI g) (nI r) x1 x2) _ := hP.sub [0, 1, 2, 3, 4, 5] rfl
    have hKc : va_K (dC, dI) vwCl (gmT kc) s := hK.sub [0, 1, 2, 3, 4] rfl
    refine va_calli (va_runV (As := [.int (nI S)]) (rest := []) ⟨hx, hb, hml, hown, hts⟩ (c_X1_brokenBy l dC dI h kc f1 f2 of ro fa 0 g r x1 x2 K (nI S) (by first | assumption | omega) (by first | assumption | omega) (by first | assumption | omega)) (cwV 1 hts gX1_broken_X1_brokenBy rfl rfl rfl (by decide +kernel) ⟨Nat.le_of_ble_eq_true rfl, Nat.le_of_ble_eq_true rfl⟩) ⟨gcPR_blind, va_recv hK hP (ci := 1) (q0 := 0) rfl rfl, fun U hU hW => ⟨rfl, by rw [hU]; exact hPc, va_K.moved hW.alike hKc⟩⟩ rfl rfl hl.1 rfl (lv_room (Nat.le_of_ble_eq_true rfl)) dX1_broken_23 ⟨Nat.zero_le _, Nat.zero_le _⟩) hS (fun q _ h => h.elim) (fun q h => h.elim) (fun r2 u t H locs ht hvm hw hB hz1 hk1 hS => ?_)
    have hP := gc_keep hP hk1
    have hw : r2 = mBB K x1 x2 (nI S) := hw
    subst hw
    clear hw
    clear hB hz1 hk1 ht hvm
    clear hPc hKc
    refine lv_goto (tgt := 34) hx hb dX1_broken_26 (by decide) ?_
    have hpost : (mBB K x1 x2 (nI S)) = mBB K x1 x2 (nI S) := by first | rfl | assumption
    exact W.iret (v := mBB K x1 x2 (nI S)) hx hb hr (fun t ht hW => ⟨⟨mBB K x1 x2 (nI S), (), rfl, hpost, ⟨by rw [ht]; exact hP, hD⟩⟩, hS.F ht⟩) hS.2.2 dX1_broken_34
set_option maxHeartbeats 4000000 in
set_option maxRecDepth 100000 in
theorem c_X1_broken_no (l : Launch) (dC : Nat → ClassId) (dI : Nat → Nat → Nat) (h : Nat → Nat) (kc : Nat → ClassId) (f1 : Nat → Int32) (f2 : Nat → Int32) (of : Nat → Int32) (ro : Nat → Int32) (fa : Nat → Int32) (th : Int32) (g : Nat) (r : Nat) (x1 : Int32) (x2 : Int32) (v : Int32) (sz : Nat) (hg : g ≤ 10) (hno : ∀ j : Nat, j < 2 ^ g → v ≠ nI j) : Met l yX1_broken wsX1_broken ({ frames := 1, cells := 0, slots := 0, locals := 22 }) (gcPM (dC, dI) [.ref (h 0), .int v] (gmW h kc f1 f2 of ro fa th (nI g) (nI r) x1 x2) (gmT kc) sz) (va_Qi (fun (rv : Int32) (_u : Unit) => True) (fun _u t9 => va_P (dC, dI) vwCl (gmW h kc f1 f2 of ro fa 1 (nI g) (nI r) x1 x2) t9.heap ∧ va_D (va_A (gmW h kc f1 f2 of ro fa th (nI g) (nI r) x1 x2) sz) (gmW h kc f1 f2 of ro fa 1 (nI g) (nI r) x1 x2)) (va_A (gmW h kc f1 f2 of ro fa th (nI g) (nI r) x1 x2) sz)) 0 0 (va_A (gmW h kc f1 f2 of ro fa th (nI g) (nI r) x1 x2) sz) := by
  refine Met.ofW (cc := cX1_broken) (maxL := 2) (ret := (some .int)) (by decide) rfl ?_
  intro p e s m args below meth c s₁ B hml hv
  obtain ⟨rfl, hsz, hP, hK, hD0⟩ := hv
  have hx := B.exec
  have hb := B.bytes
  have hr := B.returns
  have hts := atoms_spec (ws := wsX1_broken) B.pre
  have hown : s.vm.findClass RX1 = some m.cls := findClass_of_methodNamed B.named
  have hlocks := B.notSynchronized
  subst hsz
  have hD := hD0.self (sz := s.heap.size)
  generalize hAe : va_A (gmW h kc f1 f2 of ro fa th (nI g) (nI r) x1 x2) s.heap.size = A at hD ⊢
  have hA : ∀ q : Nat, s.heap.size ≤ q → A q := fun q h => by rw [← hAe]; exact Or.inr h
  have hS : va_S A s.heap s.heap [] := va_S.rf
  have hP : va_P (dC, dI) vwCl (gmW h kc f1 f2 of ro fa th (nI g) (nI r) x1 x2) s.heap := hP
  have hin1 : ∀ w ∈ wsX10, w ∈ wsX1_broken := by decide +kernel
  have hl := lv_entry [.ref (h 0), .int v] (n := 2) (Nat.le_of_ble_eq_true rfl)
  rw [lg_entry_eq]
  generalize (lg_sl [.ref (h 0), .int v] ++ List.replicate (2 - (lg_sl [.ref (h 0), .int v]).length) Slot.unset).toArray = ls at hl ⊢
  have hl : lv_has ls 2 [(0, .ref (h 0)), (1, .int v)] := hl
  have hg2 : 2 ^ g ≤ 1024 := Nat.pow_le_pow_right (n := 2) (by decide) hg
  refine lv_aload_n hx hb dX1_broken_0 rfl (lv_at hl 0 rfl) ?_
  refine lv_iconst (v := 0) hx hb dX1_broken_1 (by decide) ?_
  refine va_put (D := (dC, dI)) (ci := 1) (v := .int 0) (ty := .int) (C := RX1) (T := TX1) (N := 10) hx hb hts hin1 tyX1 tyX1_ok nmX1 hown hK hP hD hS 0 rfl rfl 0 (by decide) (hts (.fieldLink RX1 33 "GuestChairsModel" "thrown" "I") (by decide +kernel)) (fun _ h9 => h9) rfl (by decide +kernel) rfl rfl (Nat.le_of_ble_eq_true rfl) dX1_broken_2 (fun H locs hP hD hS => ?_)
  have hP : va_P (dC, dI) vwCl (gmW h kc f1 f2 of ro fa 0 (nI g) (nI r) x1 x2) H := hP
  have hD : va_D A (gmW h kc f1 f2 of ro fa 0 (nI g) (nI r) x1 x2) := hD
  refine lv_iload_n hx hb dX1_broken_5 rfl (lv_at hl 1 rfl) ?_
  refine lv_iconst (v := 0) hx hb dX1_broken_6 (by decide) ?_
  refine lv_iconst (v := 1) hx hb dX1_broken_7 (by decide) ?_
  refine lv_aload_n hx hb dX1_broken_8 rfl (lv_at hl 0 rfl) ?_
  refine va_get (D := (dC, dI)) (ci := 1) (v := .int (nI g)) (C := RX1) (T := TX1) (N := 10) hx hb hts hin1 hown hK hP 0 rfl rfl 1 (by decide) (hts (.fieldLink RX1 36 "GuestChairsModel" "guests" "I") (by decide +kernel)) (fun _ h9 => h9) rfl dX1_broken_9 ?_
  refine lv_ishl hx hb dX1_broken_12 ?_
  refine gc_topi (y := nI (2 ^ g)) (gc_shl1 hg) ?_
  refine lv_iconst (v := 1) hx hb dX1_broken_13 (by decide) ?_
  refine lv_isub hx hb dX1_broken_14 ?_
  refine va_calli (va_runS (As := [.int v, .int 0, .int (nI (2 ^ g) - 1)]) (rest := []) ⟨hx, hb, hml, hown, hts⟩ (c_X1_isIn l v 0 (nI (2 ^ g) - 1)) (va_cwS 3 hts gX1_broken_X1_isIn rfl rfl rfl (by decide +kernel) ⟨Nat.le_of_ble_eq_true rfl, Nat.le_of_ble_eq_true rfl⟩) ⟨fun a U g mk q => q, fun U hU hW => ⟨rfl, trivial⟩⟩ rfl rfl hl.1 rfl (lv_room (Nat.le_of_ble_eq_true rfl)) dX1_broken_15 ⟨Nat.zero_le _, Nat.zero_le _⟩) hS (fun q _ h => h.elim) (fun q h => h.elim) (fun r1 u t H locs ht hvm hw hB hz1 hk1 hS => ?_)
  have hP := gc_keep hP hk1
  have hw : r1 = gB (mIn v 0 (nI (2 ^ g) - 1)) := hw
  subst hw
  clear hw
  clear hB hz1 hk1 ht hvm
  refine lv_if_eq (tgt := 29) hx hb dX1_broken_18 (by decide) (fun c_18 => ?_) (fun c_18 => ?_)
  · skip
    have c_18 := gB_f c_18
    refine lv_aload_n hx hb dX1_broken_29 rfl (lv_at hl 0 rfl) ?_
    refine lv_iconst (v := 1) hx hb dX1_broken_30 (by decide) ?_
    have hPc : va_P (dC, dI) vwCl (gmW h kc f1 f2 of ro fa 0 (nI g) (nI r) x1 x2) _ := hP.sub [0, 1, 2, 3, 4, 5] rfl
    have hKc : va_K (dC, dI) vwCl (gmT kc) s := hK.sub [0, 1, 2, 3, 4] rfl
    have hDc : va_D A (gmW h kc f1 f2 of ro fa 0 (nI g) (nI r) x1 x2) := hD.sub [0, 1, 2, 3, 4, 5] (by decide) rfl
    have hFc := va_free (wc := (gmW h kc f1 f2 of ro fa 0 (nI g) (nI r) x1 x2)) hD hS hA [0, 1, 2, 3, 4, 5] rfl
    refine va_calli (va_runV (As := [.int 1]) (rest := []) ⟨hx, hb, hml, hown, hts⟩ (c_X1_fail l dC dI h kc f1 f2 of ro fa 0 g r x1 x2 1 H.size) (cwV 1 hts gX1_broken_X1_fail rfl rfl rfl (by decide +kernel) ⟨Nat.le_of_ble_eq_true rfl, Nat.le_of_ble_eq_true rfl⟩) ⟨gcPM_blind, va_recv hK hP (ci := 1) (q0 := 0) rfl rfl, fun U hU hW => ⟨rfl, by rw [hU], by rw [hU]; exact hPc, va_K.moved hW.alike hKc, hDc.weaken (fun _ _ _ _ => trivial)⟩⟩ rfl rfl hl.1 rfl (lv_room (Nat.le_of_ble_eq_true rfl)) dX1_broken_31 ⟨Nat.zero_le _, Nat.zero_le _⟩) hS (fun q _ h => hFc q h) hFc (fun r2 u t H locs ht hvm hw hB hz1 hk1 hS => ?_)
    obtain ⟨hP1, hD1⟩ := hB
    rw [ht] at hP1
    obtain ⟨hP, hD⟩ := va_join (wr := []) (w1 := (gmW h kc f1 f2 of ro fa 1 (nI g) (nI r) x1 x2)) hP hD [0, 1, 2, 3, 4, 5] [] rfl rfl (by decide) (by decide) hk1 hFc hP1 hD1
    have hP : va_P (dC, dI) vwCl (gmW h kc f1 f2 of ro fa 1 (nI g) (nI r) x1 x2) H := hP.sub [0, 1, 2, 3, 4, 5] rfl
    have hD : va_D A (gmW h kc f1 f2 of ro fa 1 (nI g) (nI r) x1 x2) := hD.sub [0, 1, 2, 3, 4, 5] (by decide) rfl
    have hw : r2 = 0 := hw
    subst hw
    clear hw
    clear hz1 hk1 ht hvm hP1 hD1 hFc hDc
    clear hPc hKc
    have hpost : True := trivial
    exact W.iret (v := 0) hx hb hr (fun t ht hW => ⟨⟨0, (), rfl, hpost, ⟨by rw [ht]; exact hP, hD⟩⟩, hS.F ht⟩) hS.2.2 dX1_broken_34
  · skip
    have c_18 := gB_t c_18
    exact absurd c_18 (by rw [mIn_no (by omega) hno]; decide)
set_option maxHeartbeats 4000000 in
set_option maxRecDepth 100000 in
theorem c_X1_blame (l : Launch) (dC : Nat → ClassId) (dI : Nat → Nat → Nat) (h : Nat → Nat) (kc : Nat → ClassId) (f1 : Nat → Int32) (f2 : Nat → Int32) (of : Nat → Int32) (ro : Nat → Int32) (fa : Nat → Int32) (th : Int32) (g : Nat) (r : Nat) (x1 : Int32) (x2 : Int32) (K : Bk) (sz : Nat) (hBk : mOK K g r f1 f2 of) (hg : g ≤ 10) (hr30 : r ≤ 30) : Met l yX1_blame wsX1_blame ({ frames := 4, cells := 0, slots := 0, locals := 87 }) (gcPM (dC, dI) [.ref (h 0)] (gmW h kc f1 f2 of ro fa th (nI g) (nI r) x1 x2) (gmT kc) sz) (va_Qi (fun (rv : Int32) (_u : Unit) => rv = mBl K x1 x2 g r) (fun _u t9 => va_P (dC, dI) vwCl (gmW h kc f1 f2 of ro fa 0 (nI g) (nI r) x1 x2) t9.heap ∧ va_D (va_A (gmW h kc f1 f2 of ro fa th (nI g) (nI r) x1 x2) sz) (gmW h kc f1 f2 of ro fa 0 (nI g) (nI r) x1 x2)) (va_A (gmW h kc f1 f2 of ro fa th (nI g) (nI r) x1 x2) sz)) 0 0 (va_A (gmW h kc f1 f2 of ro fa th (nI g) (nI r) x1 x2) sz) := by
  refine Met.ofW (cc := cX1_blame) (maxL := 3) (ret := (some .int)) (by decide) rfl ?_
  intro p e s m args below meth c s₁ B hml hv
  obtain ⟨rfl, hsz, hP, hK, hD0⟩ := hv
  have hx := B.exec
  have hb := B.bytes
  have hr := B.returns
  have hts := atoms_spec (ws := wsX1_blame) B.pre
  have hown : s.vm.findClass RX1 = some m.cls := findClass_of_methodNamed B.named
  have hlocks := B.notSynchronized
  subst hsz
  have hD := hD0.self (sz := s.heap.size)
  generalize hAe : va_A (gmW h kc f1 f2 of ro fa th (nI g) (nI r) x1 x2) s.heap.size = A at hD ⊢
  have hA : ∀ q : Nat, s.heap.size ≤ q → A q := fun q h => by rw [← hAe]; exact Or.inr h
  have hS : va_S A s.heap s.heap [] := va_S.rf
  have hP : va_P (dC, dI) vwCl (gmW h kc f1 f2 of ro fa th (nI g) (nI r) x1 x2) s.heap := hP
  have hin1 : ∀ w ∈ wsX10, w ∈ wsX1_blame := by decide +kernel
  have hl := lv_entry [.ref (h 0)] (n := 3) (Nat.le_of_ble_eq_true rfl)
  rw [lg_entry_eq]
  generalize (lg_sl [.ref (h 0)] ++ List.replicate (3 - (lg_sl [.ref (h 0)]).length) Slot.unset).toArray = ls at hl ⊢
  have hl : lv_has ls 3 [(0, .ref (h 0))] := hl
  refine lv_aload_n hx hb dX1_blame_0 rfl (lv_at hl 0 rfl) ?_
  refine lv_iconst (v := 0) hx hb dX1_blame_1 (by decide) ?_
  refine va_put (D := (dC, dI)) (ci := 1) (v := .int 0) (ty := .int) (C := RX1) (T := TX1) (N := 10) hx hb hts hin1 tyX1 tyX1_ok nmX1 hown hK hP hD hS 0 rfl rfl 0 (by decide) (hts (.fieldLink RX1 33 "GuestChairsModel" "thrown" "I") (by decide +kernel)) (fun _ h9 => h9) rfl (by decide +kernel) rfl rfl (Nat.le_of_ble_eq_true rfl) dX1_blame_2 (fun H locs hP hD hS => ?_)
  have hP : va_P (dC, dI) vwCl (gmW h kc f1 f2 of ro fa 0 (nI g) (nI r) x1 x2) H := hP
  have hD : va_D A (gmW h kc f1 f2 of ro fa 0 (nI g) (nI r) x1 x2) := hD
  refine lv_aload_n hx hb dX1_blame_5 rfl (lv_at hl 0 rfl) ?_
  have hPc : va_P (dC, dI) vwCl (gmW h kc f1 f2 of ro fa 0 (nI g) (nI r) x1 x2) _ := hP.sub [0, 1, 2, 3, 4, 5] rfl
  have hKc : va_K (dC, dI) vwCl (gmT kc) s := hK.sub [0, 1, 2, 3, 4] rfl
  refine va_calli (va_runV (As := []) (rest := []) ⟨hx, hb, hml, hown, hts⟩ (c_X1_all l dC dI h kc f1 f2 of ro fa 0 g r x1 x2 K (by first | assumption | omega) (by first | assumption | omega) (by first | assumption | omega)) (cwV 0 hts gX1_blame_X1_all rfl rfl rfl (by decide +kernel) ⟨Nat.le_of_ble_eq_true rfl, Nat.le_of_ble_eq_true rfl⟩) ⟨gcPR_blind, va_recv hK hP (ci := 1) (q0 := 0) rfl rfl, fun U hU hW => ⟨rfl, by rw [hU]; exact hPc, va_K.moved hW.alike hKc⟩⟩ rfl rfl hl.1 rfl (lv_room (Nat.le_of_ble_eq_true rfl)) dX1_blame_6 ⟨Nat.zero_le _, Nat.zero_le _⟩) hS (fun q _ h => h.elim) (fun q h => h.elim) (fun r1 u t H locs ht hvm hw hB hz1 hk1 hS => ?_)
  have hP := gc_keep hP hk1
  have hw : r1 = mAll K x1 x2 g := hw
  subst hw
  clear hw
  clear hB hz1 hk1 ht hvm
  clear hPc hKc
  refine lv_if_le (tgt := 14) hx hb dX1_blame_9 (by decide) (fun c_9 => ?_) (fun c_9 => ?_)
  · skip
    refine lv_iconst (v := 0) hx hb dX1_blame_14 (by decide) ?_
    refine lv_istore_n (lv' := [(1, .int 0), (0, .ref (h 0))]) hx hb dX1_blame_15 rfl hl (by decide) rfl (fun ls hl => ?_)
    refine gc_loop (r) (fun (i : Nat) (H : Heap) (locs : List Loc) (ls : Array Slot) => (∀ j : Nat, j < i → mBp K x1 x2 g j = false) ∧ va_P (dC, dI) vwCl (gmW h kc f1 f2 of ro fa 0 (nI g) (nI r) x1 x2) H ∧ va_D A (gmW h kc f1 f2 of ro fa 0 (nI g) (nI r) x1 x2) ∧ va_S A s.heap H locs ∧ lv_has ls 3 [(1, .int (nI i)), (0, .ref (h 0))]) 0 (Nat.zero_le _) ⟨(fun j hj => absurd hj (Nat.not_lt_zero j)), hP, hD, hS, lv_sub hl [0, 1] rfl⟩ ?_
    intro i H locs ls hi hI ihi
    obtain ⟨hno, hP, hD, hS, hl⟩ := hI
    refine lv_iload_n hx hb dX1_blame_16 rfl (lv_at hl 0 rfl) ?_
    refine lv_aload_n hx hb dX1_blame_17 rfl (lv_at hl 1 rfl) ?_
    refine va_get (D := (dC, dI)) (ci := 1) (v := .int (nI r)) (C := RX1) (T := TX1) (N := 10) hx hb hts hin1 hown hK hP 0 rfl rfl 2 (by decide) (hts (.fieldLink RX1 51 "GuestChairsModel" "rules" "I") (by decide +kernel)) (fun _ h9 => h9) rfl dX1_blame_18 ?_
    refine lv_icmp_ge (tgt := 67) hx hb dX1_blame_21 (by decide) (fun c_21 => ?_) (fun c_21 => ?_)
    · skip
      have hEi : i = r := gc_ge c_21 (by omega) (by omega)
      refine lv_iconst (v := -1) hx hb dX1_blame_67 (by decide) ?_
      have hpost : ((-1) : Int32) = mBl K x1 x2 g r := by rw [mBl, if_neg (by simp [mPo, c_9])]; exact (gFst_no (by rw [← hEi]; exact hno)).symm
      exact W.iret (v := (-1)) hx hb hr (fun t ht hW => ⟨⟨(-1), (), rfl, hpost, ⟨by rw [ht]; exact hP, hD⟩⟩, hS.F ht⟩) hS.2.2 dX1_blame_68
    · skip
      have hLi : i < r := gc_lt c_21 (by omega) (by omega)
      refine lv_aload_n hx hb dX1_blame_24 rfl (lv_at hl 1 rfl) ?_
      refine va_get (D := (dC, dI)) (ci := 1) (v := .ref (h 3)) (C := RX1) (T := TX1) (N := 10) hx hb hts hin1 hown hK hP 0 rfl rfl 5 (by decide) (hts (.fieldLink RX1 16 "GuestChairsModel" "off" "[Z") (by decide +kernel)) (fun _ h9 => h9) rfl dX1_blame_25 ?_
      refine lv_iload_n hx hb dX1_blame_28 rfl (lv_at hl 0 rfl) ?_
      refine va_zald hx hb hK hP 3 2 rfl rfl (vp_in_nI (n := i) (by omega) (by decide)) dX1_blame_29 ?_
      rw [nI_clamp (n := i) (by omega)]
      refine gc_topi (y := gB (!K.2.2.2 i)) ((hBk.2 i hLi).2.2.2.2) ?_
      refine lv_if_eq (tgt := 36) hx hb dX1_blame_30 (by decide) (fun c_30 => ?_) (fun c_30 => ?_)
      · skip
        have c_30 := gB_f c_30
        have hon : K.2.2.2 i = true := by simpa using c_30
        refine lv_aload_n hx hb dX1_blame_36 rfl (lv_at hl 1 rfl) ?_
        refine va_get (D := (dC, dI)) (ci := 1) (v := .ref (h 3)) (C := RX1) (T := TX1) (N := 10) hx hb hts hin1 hown hK hP 0 rfl rfl 5 (by decide) (hts (.fieldLink RX1 16 "GuestChairsModel" "off" "[Z") (by decide +kernel)) (fun _ h9 => h9) rfl dX1_blame_37 ?_
        refine lv_iload_n hx hb dX1_blame_40 rfl (lv_at hl 0 rfl) ?_
        refine lv_iconst (v := 1) hx hb dX1_blame_41 (by decide) ?_
        refine va_zast hx hb hK hP hD hS 3 2 rfl rfl (vp_in_nI (n := i) (by omega) (by decide)) dX1_blame_42 (fun H locs hP hD hS => ?_)
        rw [nI_clamp (n := i) (by omega)] at hP hD
        rw [show vp_nar .boolean 1 = 1 from by decide] at hP hD
        have hP : va_P (dC, dI) vwCl (gmW h kc f1 f2 (upd of i 1) ro fa 0 (nI g) (nI r) x1 x2) H := hP
        have hD : va_D A (gmW h kc f1 f2 (upd of i 1) ro fa 0 (nI g) (nI r) x1 x2) := hD
        refine lv_aload_n hx hb dX1_blame_43 rfl (lv_at hl 1 rfl) ?_
        have hPc : va_P (dC, dI) vwCl (gmW h kc f1 f2 (upd of i 1) ro fa 0 (nI g) (nI r) x1 x2) _ := hP.sub [0, 1, 2, 3, 4, 5] rfl
        have hKc : va_K (dC, dI) vwCl (gmT kc) s := hK.sub [0, 1, 2, 3, 4] rfl
        refine va_calli (va_runV (As := []) (rest := []) ⟨hx, hb, hml, hown, hts⟩ (c_X1_all l dC dI h kc f1 f2 (upd of i 1) ro fa 0 g r x1 x2 (mKo K i) (mOK_off hBk i) (by first | assumption | omega) (by first | assumption | omega)) (cwV 0 hts gX1_blame_X1_all rfl rfl rfl (by decide +kernel) ⟨Nat.le_of_ble_eq_true rfl, Nat.le_of_ble_eq_true rfl⟩) ⟨gcPR_blind, va_recv hK hP (ci := 1) (q0 := 0) rfl rfl, fun U hU hW => ⟨rfl, by rw [hU]; exact hPc, va_K.moved hW.alike hKc⟩⟩ rfl rfl hl.1 rfl (lv_room (Nat.le_of_ble_eq_true rfl)) dX1_blame_44 ⟨Nat.zero_le _, Nat.zero_le _⟩) hS (fun q _ h => h.elim) (fun q h => h.elim) (fun r2 u t H locs ht hvm hw hB hz1 hk1 hS => ?_)
        have hP := gc_keep hP hk1
        have hw : r2 = mAll (mKo K i) x1 x2 g := hw
        subst hw
        clear hw
        clear hB hz1 hk1 ht hvm
        clear hPc hKc
        refine lv_istore_n (lv' := [(2, .int (mAll (mKo K i) x1 x2 g)), (1, .int (nI i)), (0, .ref (h 0))]) hx hb dX1_blame_47 rfl hl (by decide) rfl (fun ls hl => ?_)
        refine lv_aload_n hx hb dX1_blame_48 rfl (lv_at hl 2 rfl) ?_
        refine va_get (D := (dC, dI)) (ci := 1) (v := .ref (h 3)) (C := RX1) (T := TX1) (N := 10) hx hb hts hin1 hown hK hP 0 rfl rfl 5 (by decide) (hts (.fieldLink RX1 16 "GuestChairsModel" "off" "[Z") (by decide +kernel)) (fun _ h9 => h9) rfl dX1_blame_49 ?_
        refine lv_iload_n hx hb dX1_blame_52 rfl (lv_at hl 1 rfl) ?_
        refine lv_iconst (v := 0) hx hb dX1_blame_53 (by decide) ?_
        refine va_zast hx hb hK hP hD hS 3 2 rfl rfl (vp_in_nI (n := i) (by omega) (by decide)) dX1_blame_54 (fun H locs hP hD hS => ?_)
        rw [nI_clamp (n := i) (by omega)] at hP hD
        rw [show vp_nar .boolean 0 = 0 from by decide] at hP hD
        have hP : va_P (dC, dI) vwCl (gmW h kc f1 f2 (upd (upd of i 1) i 0) ro fa 0 (nI g) (nI r) x1 x2) H := hP
        have hD : va_D A (gmW h kc f1 f2 (upd (upd of i 1) i 0) ro fa 0 (nI g) (nI r) x1 x2) := hD
        rw [show (upd (upd of i 1) i 0) = of from mOf_back hBk hLi hon] at hP hD
        refine lv_iload_n hx hb dX1_blame_55 rfl (lv_at hl 0 rfl) ?_
        refine lv_if_le (tgt := 61) hx hb dX1_blame_56 (by decide) (fun c_56 => ?_) (fun c_56 => ?_)
        · skip
          refine lv_iinc (v := nI (i + 1)) (lv' := [(1, .int (nI (i + 1))), (2, .int (mAll (mKo K i) x1 x2 g)), (0, .ref (h 0))]) hx hb dX1_blame_61 hl (k := 1) rfl (nI_1 i) (by decide) rfl (fun ls hl => ?_)
          refine lv_goto (tgt := 16) hx hb dX1_blame_64 (by decide) ?_
          exact ihi H _ ls (by omega) ⟨(lt_s hno (by simp [mBp, mPo, hon, c_9, c_30, c_56])), hP, hD, hS, lv_sub hl [0, 2] rfl⟩
        · skip
          refine lv_iload_n hx hb dX1_blame_59 rfl (lv_at hl 1 rfl) ?_
          have hpost : (nI i) = mBl K x1 x2 g r := by rw [mBl, if_neg (by simp [mPo, c_9])]; exact (gFst_hit (by omega) (by simp [mBp, mPo, hon, c_9, c_30, c_56]) hno hLi).symm
          exact W.iret (v := nI i) hx hb hr (fun t ht hW => ⟨⟨nI i, (), rfl, hpost, ⟨by rw [ht]; exact hP, hD⟩⟩, hS.F ht⟩) hS.2.2 dX1_blame_60
      · skip
        have c_30 := gB_t c_30
        have hon : K.2.2.2 i = false := by simpa using c_30
        refine lv_goto (tgt := 61) hx hb dX1_blame_33 (by decide) ?_
        refine lv_iinc (v := nI (i + 1)) (lv' := [(1, .int (nI (i + 1))), (0, .ref (h 0))]) hx hb dX1_blame_61 hl (k := 0) rfl (nI_1 i) (by decide) rfl (fun ls hl => ?_)
        refine lv_goto (tgt := 16) hx hb dX1_blame_64 (by decide) ?_
        exact ihi H _ ls (by omega) ⟨(lt_s hno (by simp [mBp, mPo, hon, c_9, c_30])), hP, hD, hS, lv_sub hl [0, 1] rfl⟩
  · skip
    refine lv_iconst (v := -1) hx hb dX1_blame_12 (by decide) ?_
    have hpost : ((-1) : Int32) = mBl K x1 x2 g r := by rw [mBl, if_pos (by simp [mPo, c_9])]
    exact W.iret (v := (-1)) hx hb hr (fun t ht hW => ⟨⟨(-1), (), rfl, hpost, ⟨by rw [ht]; exact hP, hD⟩⟩, hS.F ht⟩) hS.2.2 dX1_blame_13
set_option maxHeartbeats 4000000 in
set_option maxRecDepth 100000 in
theorem c_X1_tightens (l : Launch) (dC : Nat → ClassId) (dI : Nat → Nat → Nat) (h : Nat → Nat) (kc : Nat → ClassId) (f1 : Nat → Int32) (f2 : Nat → Int32) (of : Nat → Int32) (ro : Nat → Int32) (fa : Nat → Int32) (th : Int32) (g : Nat) (r : Nat) (K : Bk) (wa : Nat) (wb : Nat) (sz : Nat) (hBk : mOK K g r f1 f2 of) (hg : g ≤ 10) (hr30 : r ≤ 30) (ha : wa < 2 * g) (hb2 : wb < 2 * g) : Met l yX1_tightens wsX1_tightens ({ frames := 4, cells := 0, slots := 0, locals := 87 }) (gcPM (dC, dI) [.ref (h 0), .int (nI wa), .int (nI wb)] (gmW h kc f1 f2 of ro fa th (nI g) (nI r) (-1) (-1)) (gmT kc) sz) (va_Qi (fun (rv : Int32) (_u : Unit) => rv = mAll K (-1) (-1) g - mAll K (nI wa) (nI wb) g) (fun _u t9 => va_P (dC, dI) vwCl (gmW h kc f1 f2 of ro fa 0 (nI g) (nI r) (-1) (-1)) t9.heap ∧ va_D (va_A (gmW h kc f1 f2 of ro fa th (nI g) (nI r) (-1) (-1)) sz) (gmW h kc f1 f2 of ro fa 0 (nI g) (nI r) (-1) (-1))) (va_A (gmW h kc f1 f2 of ro fa th (nI g) (nI r) (-1) (-1)) sz)) 0 0 (va_A (gmW h kc f1 f2 of ro fa th (nI g) (nI r) (-1) (-1)) sz) := by
  refine Met.ofW (cc := cX1_tightens) (maxL := 5) (ret := (some .int)) (by decide) rfl ?_
  intro p e s m args below meth c s₁ B hml hv
  obtain ⟨rfl, hsz, hP, hK, hD0⟩ := hv
  have hx := B.exec
  have hb := B.bytes
  have hr := B.returns
  have hts := atoms_spec (ws := wsX1_tightens) B.pre
  have hown : s.vm.findClass RX1 = some m.cls := findClass_of_methodNamed B.named
  have hlocks := B.notSynchronized
  subst hsz
  have hD := hD0.self (sz := s.heap.size)
  generalize hAe : va_A (gmW h kc f1 f2 of ro fa th (nI g) (nI r) (-1) (-1)) s.heap.size = A at hD ⊢
  have hA : ∀ q : Nat, s.heap.size ≤ q → A q := fun q h => by rw [← hAe]; exact Or.inr h
  have hS : va_S A s.heap s.heap [] := va_S.rf
  have hP : va_P (dC, dI) vwCl (gmW h kc f1 f2 of ro fa th (nI g) (nI r) (-1) (-1)) s.heap := hP
  have hin1 : ∀ w ∈ wsX10, w ∈ wsX1_tightens := by decide +kernel
  have hl := lv_entry [.ref (h 0), .int (nI wa), .int (nI wb)] (n := 5) (Nat.le_of_ble_eq_true rfl)
  rw [lg_entry_eq]
  generalize (lg_sl [.ref (h 0), .int (nI wa), .int (nI wb)] ++ List.replicate (5 - (lg_sl [.ref (h 0), .int (nI wa), .int (nI wb)]).length) Slot.unset).toArray = ls at hl ⊢
  have hl : lv_has ls 5 [(0, .ref (h 0)), (1, .int (nI wa)), (2, .int (nI wb))] := hl
  refine lv_aload_n hx hb dX1_tightens_0 rfl (lv_at hl 0 rfl) ?_
  refine lv_iconst (v := 0) hx hb dX1_tightens_1 (by decide) ?_
  refine va_put (D := (dC, dI)) (ci := 1) (v := .int 0) (ty := .int) (C := RX1) (T := TX1) (N := 10) hx hb hts hin1 tyX1 tyX1_ok nmX1 hown hK hP hD hS 0 rfl rfl 0 (by decide) (hts (.fieldLink RX1 33 "GuestChairsModel" "thrown" "I") (by decide +kernel)) (fun _ h9 => h9) rfl (by decide +kernel) rfl rfl (Nat.le_of_ble_eq_true rfl) dX1_tightens_2 (fun H locs hP hD hS => ?_)
  have hP : va_P (dC, dI) vwCl (gmW h kc f1 f2 of ro fa 0 (nI g) (nI r) (-1) (-1)) H := hP
  have hD : va_D A (gmW h kc f1 f2 of ro fa 0 (nI g) (nI r) (-1) (-1)) := hD
  refine lv_aload_n hx hb dX1_tightens_5 rfl (lv_at hl 0 rfl) ?_
  refine lv_iload_n hx hb dX1_tightens_6 rfl (lv_at hl 1 rfl) ?_
  have hPc : va_P (dC, dI) vwCl (gmW h kc f1 f2 of ro fa 0 (nI g) (nI r) (-1) (-1)) _ := hP.sub [0, 1, 2, 3, 4, 5] rfl
  have hKc : va_K (dC, dI) vwCl (gmT kc) s := hK.sub [0, 1, 2, 3, 4] rfl
  refine va_calli (va_runV (As := [.int (nI wa)]) (rest := []) ⟨hx, hb, hml, hown, hts⟩ (c_X1_isWish l dC dI h kc f1 f2 of ro fa 0 g r (-1) (-1) (nI wa)) (cwV 1 hts gX1_tightens_X1_isWish rfl rfl rfl (by decide +kernel) ⟨Nat.le_of_ble_eq_true rfl, Nat.le_of_ble_eq_true rfl⟩) ⟨gcPR_blind, va_recv hK hP (ci := 1) (q0 := 0) rfl rfl, fun U hU hW => ⟨rfl, by rw [hU]; exact hPc, va_K.moved hW.alike hKc⟩⟩ rfl rfl hl.1 rfl (lv_room (Nat.le_of_ble_eq_true rfl)) dX1_tightens_7 ⟨Nat.zero_le _, Nat.zero_le _⟩) hS (fun q _ h => h.elim) (fun q h => h.elim) (fun r1 u t H locs ht hvm hw hB hz1 hk1 hS => ?_)
  have hP := gc_keep hP hk1
  have hw : r1 = gB (mIn (nI wa) 0 (nI (2 * g) - 1)) := hw
  subst hw
  clear hw
  clear hB hz1 hk1 ht hvm
  clear hPc hKc
  refine lv_if_eq (tgt := 21) hx hb dX1_tightens_10 (by decide) (fun c_10 => ?_) (fun c_10 => ?_)
  · skip
    have c_10 := gB_f c_10
    exact absurd (mIn_ok (j := wa) (n := 2 * g) (by omega) (by omega)) (by rw [c_10]; decide)
  · skip
    have c_10 := gB_t c_10
    refine lv_aload_n hx hb dX1_tightens_13 rfl (lv_at hl 0 rfl) ?_
    refine lv_iload_n hx hb dX1_tightens_14 rfl (lv_at hl 2 rfl) ?_
    have hPc : va_P (dC, dI) vwCl (gmW h kc f1 f2 of ro fa 0 (nI g) (nI r) (-1) (-1)) _ := hP.sub [0, 1, 2, 3, 4, 5] rfl
    have hKc : va_K (dC, dI) vwCl (gmT kc) s := hK.sub [0, 1, 2, 3, 4] rfl
    refine va_calli (va_runV (As := [.int (nI wb)]) (rest := []) ⟨hx, hb, hml, hown, hts⟩ (c_X1_isWish l dC dI h kc f1 f2 of ro fa 0 g r (-1) (-1) (nI wb)) (cwV 1 hts gX1_tightens_X1_isWish rfl rfl rfl (by decide +kernel) ⟨Nat.le_of_ble_eq_true rfl, Nat.le_of_ble_eq_true rfl⟩) ⟨gcPR_blind, va_recv hK hP (ci := 1) (q0 := 0) rfl rfl, fun U hU hW => ⟨rfl, by rw [hU]; exact hPc, va_K.moved hW.alike hKc⟩⟩ rfl rfl hl.1 rfl (lv_room (Nat.le_of_ble_eq_true rfl)) dX1_tightens_15 ⟨Nat.zero_le _, Nat.zero_le _⟩) hS (fun q _ h => h.elim) (fun q h => h.elim) (fun r2 u t H locs ht hvm hw hB hz1 hk1 hS => ?_)
    have hP := gc_keep hP hk1
    have hw : r2 = gB (mIn (nI wb) 0 (nI (2 * g) - 1)) := hw
    subst hw
    clear hw
    clear hB hz1 hk1 ht hvm
    clear hPc hKc
    refine lv_if_ne (tgt := 27) hx hb dX1_tightens_18 (by decide) (fun c_18 => ?_) (fun c_18 => ?_)
    · skip
      have c_18 := gB_t c_18
      refine lv_aload_n hx hb dX1_tightens_27 rfl (lv_at hl 0 rfl) ?_
      have hPc : va_P (dC, dI) vwCl (gmW h kc f1 f2 of ro fa 0 (nI g) (nI r) (-1) (-1)) _ := hP.sub [0, 1, 2, 3, 4, 5] rfl
      have hKc : va_K (dC, dI) vwCl (gmT kc) s := hK.sub [0, 1, 2, 3, 4] rfl
      refine va_calli (va_runV (As := []) (rest := []) ⟨hx, hb, hml, hown, hts⟩ (c_X1_all l dC dI h kc f1 f2 of ro fa 0 g r (-1) (-1) K (by first | assumption | omega) (by first | assumption | omega) (by first | assumption | omega)) (cwV 0 hts gX1_tightens_X1_all rfl rfl rfl (by decide +kernel) ⟨Nat.le_of_ble_eq_true rfl, Nat.le_of_ble_eq_true rfl⟩) ⟨gcPR_blind, va_recv hK hP (ci := 1) (q0 := 0) rfl rfl, fun U hU hW => ⟨rfl, by rw [hU]; exact hPc, va_K.moved hW.alike hKc⟩⟩ rfl rfl hl.1 rfl (lv_room (Nat.le_of_ble_eq_true rfl)) dX1_tightens_28 ⟨Nat.zero_le _, Nat.zero_le _⟩) hS (fun q _ h => h.elim) (fun q h => h.elim) (fun r3 u t H locs ht hvm hw hB hz1 hk1 hS => ?_)
      have hP := gc_keep hP hk1
      have hw : r3 = mAll K (-1) (-1) g := hw
      subst hw
      clear hw
      clear hB hz1 hk1 ht hvm
      clear hPc hKc
      refine lv_istore_n (lv' := [(3, .int (mAll K (-1) (-1) g)), (0, .ref (h 0)), (1, .int (nI wa)), (2, .int (nI wb))]) hx hb dX1_tightens_31 rfl hl (by decide) rfl (fun ls hl => ?_)
      refine lv_aload_n hx hb dX1_tightens_32 rfl (lv_at hl 1 rfl) ?_
      refine lv_iload_n hx hb dX1_tightens_33 rfl (lv_at hl 2 rfl) ?_
      refine va_put (D := (dC, dI)) (ci := 1) (v := .int (nI wa)) (ty := .int) (C := RX1) (T := TX1) (N := 10) hx hb hts hin1 tyX1 tyX1_ok nmX1 hown hK hP hD hS 0 rfl rfl 6 (by decide) (hts (.fieldLink RX1 20 "GuestChairsModel" "asIfFirst" "I") (by decide +kernel)) (fun _ h9 => h9) rfl (by decide +kernel) rfl rfl (Nat.le_of_ble_eq_true rfl) dX1_tightens_34 (fun H locs hP hD hS => ?_)
      have hP : va_P (dC, dI) vwCl (gmW h kc f1 f2 of ro fa 0 (nI g) (nI r) (nI wa) (-1)) H := hP
      have hD : va_D A (gmW h kc f1 f2 of ro fa 0 (nI g) (nI r) (nI wa) (-1)) := hD
      refine lv_aload_n hx hb dX1_tightens_37 rfl (lv_at hl 1 rfl) ?_
      refine lv_iload_n hx hb dX1_tightens_38 rfl (lv_at hl 3 rfl) ?_
      refine va_put (D := (dC, dI)) (ci := 1) (v := .int (nI wb)) (ty := .int) (C := RX1) (T := TX1) (N := 10) hx hb hts hin1 tyX1 tyX1_ok nmX1 hown hK hP hD hS 0 rfl rfl 7 (by decide) (hts (.fieldLink RX1 24 "GuestChairsModel" "asIfSecond" "I") (by decide +kernel)) (fun _ h9 => h9) rfl (by decide +kernel) rfl rfl (Nat.le_of_ble_eq_true rfl) dX1_tightens_39 (fun H locs hP hD hS => ?_)
      have hP : va_P (dC, dI) vwCl (gmW h kc f1 f2 of ro fa 0 (nI g) (nI r) (nI wa) (nI wb)) H := hP
      have hD : va_D A (gmW h kc f1 f2 of ro fa 0 (nI g) (nI r) (nI wa) (nI wb)) := hD
      refine lv_aload_n hx hb dX1_tightens_42 rfl (lv_at hl 1 rfl) ?_
      have hPc : va_P (dC, dI) vwCl (gmW h kc f1 f2 of ro fa 0 (nI g) (nI r) (nI wa) (nI wb)) _ := hP.sub [0, 1, 2, 3, 4, 5] rfl
      have hKc : va_K (dC, dI) vwCl (gmT kc) s := hK.sub [0, 1, 2, 3, 4] rfl
      refine va_calli (va_runV (As := []) (rest := []) ⟨hx, hb, hml, hown, hts⟩ (c_X1_all l dC dI h kc f1 f2 of ro fa 0 g r (nI wa) (nI wb) K (by first | assumption | omega) (by first | assumption | omega) (by first | assumption | omega)) (cwV 0 hts gX1_tightens_X1_all rfl rfl rfl (by decide +kernel) ⟨Nat.le_of_ble_eq_true rfl, Nat.le_of_ble_eq_true rfl⟩) ⟨gcPR_blind, va_recv hK hP (ci := 1) (q0 := 0) rfl rfl, fun U hU hW => ⟨rfl, by rw [hU]; exact hPc, va_K.moved hW.alike hKc⟩⟩ rfl rfl hl.1 rfl (lv_room (Nat.le_of_ble_eq_true rfl)) dX1_tightens_43 ⟨Nat.zero_le _, Nat.zero_le _⟩) hS (fun q _ h => h.elim) (fun q h => h.elim) (fun r4 u t H locs ht hvm hw hB hz1 hk1 hS => ?_)
      have hP := gc_keep hP hk1
      have hw : r4 = mAll K (nI wa) (nI wb) g := hw
      subst hw
      clear hw
      clear hB hz1 hk1 ht hvm
      clear hPc hKc
      refine lv_istore (lv' := [(4, .int (mAll K (nI wa) (nI wb) g)), (3, .int (mAll K (-1) (-1) g)), (0, .ref (h 0)), (1, .int (nI wa)), (2, .int (nI wb))]) hx hb dX1_tightens_46 hl (by decide) rfl (fun ls hl => ?_)
      refine lv_aload_n hx hb dX1_tightens_48 rfl (lv_at hl 2 rfl) ?_
      refine lv_iconst (v := -1) hx hb dX1_tightens_49 (by decide) ?_
      refine va_put (D := (dC, dI)) (ci := 1) (v := .int (-1)) (ty := .int) (C := RX1) (T := TX1) (N := 10) hx hb hts hin1 tyX1 tyX1_ok nmX1 hown hK hP hD hS 0 rfl rfl 6 (by decide) (hts (.fieldLink RX1 20 "GuestChairsModel" "asIfFirst" "I") (by decide +kernel)) (fun _ h9 => h9) rfl (by decide +kernel) rfl rfl (Nat.le_of_ble_eq_true rfl) dX1_tightens_50 (fun H locs hP hD hS => ?_)
      have hP : va_P (dC, dI) vwCl (gmW h kc f1 f2 of ro fa 0 (nI g) (nI r) (-1) (nI wb)) H := hP
      have hD : va_D A (gmW h kc f1 f2 of ro fa 0 (nI g) (nI r) (-1) (nI wb)) := hD
      refine lv_aload_n hx hb dX1_tightens_53 rfl (lv_at hl 2 rfl) ?_
      refine lv_iconst (v := -1) hx hb dX1_tightens_54 (by decide) ?_
      refine va_put (D := (dC, dI)) (ci := 1) (v := .int (-1)) (ty := .int) (C := RX1) (T := TX1) (N := 10) hx hb hts hin1 tyX1 tyX1_ok nmX1 hown hK hP hD hS 0 rfl rfl 7 (by decide) (hts (.fieldLink RX1 24 "GuestChairsModel" "asIfSecond" "I") (by decide +kernel)) (fun _ h9 => h9) rfl (by decide +kernel) rfl rfl (Nat.le_of_ble_eq_true rfl) dX1_tightens_55 (fun H locs hP hD hS => ?_)
      have hP : va_P (dC, dI) vwCl (gmW h kc f1 f2 of ro fa 0 (nI g) (nI r) (-1) (-1)) H := hP
      have hD : va_D A (gmW h kc f1 f2 of ro fa 0 (nI g) (nI r) (-1) (-1)) := hD
      refine lv_iload_n hx hb dX1_tightens_58 rfl (lv_at hl 1 rfl) ?_
      refine lv_iload hx hb dX1_tightens_59 (lv_at hl 0 rfl) ?_
      refine lv_isub hx hb dX1_tightens_61 ?_
      have hpost : (mAll K (-1) (-1) g - mAll K (nI wa) (nI wb) g) = mAll K (-1) (-1) g - mAll K (nI wa) (nI wb) g := by first | rfl | assumption
      exact W.iret (v := (mAll K (-1) (-1) g - mAll K (nI wa) (nI wb) g)) hx hb hr (fun t ht hW => ⟨⟨(mAll K (-1) (-1) g - mAll K (nI wa) (nI wb) g), (), rfl, hpost, ⟨by rw [ht]; exact hP, hD⟩⟩, hS.F ht⟩) hS.2.2 dX1_tightens_62
    · skip
      have c_18 := gB_f c_18
      exact absurd (mIn_ok (j := wb) (n := 2 * g) (by omega) (by omega)) (by rw [c_18]; decide)
set_option maxHeartbeats 4000000 in
set_option maxRecDepth 100000 in
theorem c_X1_tightens_no (l : Launch) (dC : Nat → ClassId) (dI : Nat → Nat → Nat) (h : Nat → Nat) (kc : Nat → ClassId) (f1 : Nat → Int32) (f2 : Nat → Int32) (of : Nat → Int32) (ro : Nat → Int32) (fa : Nat → Int32) (th : Int32) (g : Nat) (r : Nat) (x1 : Int32) (x2 : Int32) (v1 : Int32) (v2 : Int32) (sz : Nat) (hg : g ≤ 10) (hno : (∀ j : Nat, j < 2 * g → v1 ≠ nI j) ∨ ∀ j : Nat, j < 2 * g → v2 ≠ nI j) : Met l yX1_tightens wsX1_tightens ({ frames := 2, cells := 0, slots := 0, locals := 43 }) (gcPM (dC, dI) [.ref (h 0), .int v1, .int v2] (gmW h kc f1 f2 of ro fa th (nI g) (nI r) x1 x2) (gmT kc) sz) (va_Qi (fun (rv : Int32) (_u : Unit) => True) (fun _u t9 => va_P (dC, dI) vwCl (gmW h kc f1 f2 of ro fa 1 (nI g) (nI r) x1 x2) t9.heap ∧ va_D (va_A (gmW h kc f1 f2 of ro fa th (nI g) (nI r) x1 x2) sz) (gmW h kc f1 f2 of ro fa 1 (nI g) (nI r) x1 x2)) (va_A (gmW h kc f1 f2 of ro fa th (nI g) (nI r) x1 x2) sz)) 0 0 (va_A (gmW h kc f1 f2 of ro fa th (nI g) (nI r) x1 x2) sz) := by
  refine Met.ofW (cc := cX1_tightens) (maxL := 5) (ret := (some .int)) (by decide) rfl ?_
  intro p e s m args below meth c s₁ B hml hv
  obtain ⟨rfl, hsz, hP, hK, hD0⟩ := hv
  have hx := B.exec
  have hb := B.bytes
  have hr := B.returns
  have hts := atoms_spec (ws := wsX1_tightens) B.pre
  have hown : s.vm.findClass RX1 = some m.cls := findClass_of_methodNamed B.named
  have hlocks := B.notSynchronized
  subst hsz
  have hD := hD0.self (sz := s.heap.size)
  generalize hAe : va_A (gmW h kc f1 f2 of ro fa th (nI g) (nI r) x1 x2) s.heap.size = A at hD ⊢
  have hA : ∀ q : Nat, s.heap.size ≤ q → A q := fun q h => by rw [← hAe]; exact Or.inr h
  have hS : va_S A s.heap s.heap [] := va_S.rf
  have hP : va_P (dC, dI) vwCl (gmW h kc f1 f2 of ro fa th (nI g) (nI r) x1 x2) s.heap := hP
  have hin1 : ∀ w ∈ wsX10, w ∈ wsX1_tightens := by decide +kernel
  have hl := lv_entry [.ref (h 0), .int v1, .int v2] (n := 5) (Nat.le_of_ble_eq_true rfl)
  rw [lg_entry_eq]
  generalize (lg_sl [.ref (h 0), .int v1, .int v2] ++ List.replicate (5 - (lg_sl [.ref (h 0), .int v1, .int v2]).length) Slot.unset).toArray = ls at hl ⊢
  have hl : lv_has ls 5 [(0, .ref (h 0)), (1, .int v1), (2, .int v2)] := hl
  refine lv_aload_n hx hb dX1_tightens_0 rfl (lv_at hl 0 rfl) ?_
  refine lv_iconst (v := 0) hx hb dX1_tightens_1 (by decide) ?_
  refine va_put (D := (dC, dI)) (ci := 1) (v := .int 0) (ty := .int) (C := RX1) (T := TX1) (N := 10) hx hb hts hin1 tyX1 tyX1_ok nmX1 hown hK hP hD hS 0 rfl rfl 0 (by decide) (hts (.fieldLink RX1 33 "GuestChairsModel" "thrown" "I") (by decide +kernel)) (fun _ h9 => h9) rfl (by decide +kernel) rfl rfl (Nat.le_of_ble_eq_true rfl) dX1_tightens_2 (fun H locs hP hD hS => ?_)
  have hP : va_P (dC, dI) vwCl (gmW h kc f1 f2 of ro fa 0 (nI g) (nI r) x1 x2) H := hP
  have hD : va_D A (gmW h kc f1 f2 of ro fa 0 (nI g) (nI r) x1 x2) := hD
  refine lv_aload_n hx hb dX1_tightens_5 rfl (lv_at hl 0 rfl) ?_
  refine lv_iload_n hx hb dX1_tightens_6 rfl (lv_at hl 1 rfl) ?_
  have hPc : va_P (dC, dI) vwCl (gmW h kc f1 f2 of ro fa 0 (nI g) (nI r) x1 x2) _ := hP.sub [0, 1, 2, 3, 4, 5] rfl
  have hKc : va_K (dC, dI) vwCl (gmT kc) s := hK.sub [0, 1, 2, 3, 4] rfl
  refine va_calli (va_runV (As := [.int v1]) (rest := []) ⟨hx, hb, hml, hown, hts⟩ (c_X1_isWish l dC dI h kc f1 f2 of ro fa 0 g r x1 x2 v1) (cwV 1 hts gX1_tightens_X1_isWish rfl rfl rfl (by decide +kernel) ⟨Nat.le_of_ble_eq_true rfl, Nat.le_of_ble_eq_true rfl⟩) ⟨gcPR_blind, va_recv hK hP (ci := 1) (q0 := 0) rfl rfl, fun U hU hW => ⟨rfl, by rw [hU]; exact hPc, va_K.moved hW.alike hKc⟩⟩ rfl rfl hl.1 rfl (lv_room (Nat.le_of_ble_eq_true rfl)) dX1_tightens_7 ⟨Nat.zero_le _, Nat.zero_le _⟩) hS (fun q _ h => h.elim) (fun q h => h.elim) (fun r1 u t H locs ht hvm hw hB hz1 hk1 hS => ?_)
  have hP := gc_keep hP hk1
  have hw : r1 = gB (mIn v1 0 (nI (2 * g) - 1)) := hw
  subst hw
  clear hw
  clear hB hz1 hk1 ht hvm
  clear hPc hKc
  refine lv_if_eq (tgt := 21) hx hb dX1_tightens_10 (by decide) (fun c_10 => ?_) (fun c_10 => ?_)
  · skip
    have c_10 := gB_f c_10
    refine lv_aload_n hx hb dX1_tightens_21 rfl (lv_at hl 0 rfl) ?_
    refine lv_iconst (v := 1) hx hb dX1_tightens_22 (by decide) ?_
    have hPc : va_P (dC, dI) vwCl (gmW h kc f1 f2 of ro fa 0 (nI g) (nI r) x1 x2) _ := hP.sub [0, 1, 2, 3, 4, 5] rfl
    have hKc : va_K (dC, dI) vwCl (gmT kc) s := hK.sub [0, 1, 2, 3, 4] rfl
    have hDc : va_D A (gmW h kc f1 f2 of ro fa 0 (nI g) (nI r) x1 x2) := hD.sub [0, 1, 2, 3, 4, 5] (by decide) rfl
    have hFc := va_free (wc := (gmW h kc f1 f2 of ro fa 0 (nI g) (nI r) x1 x2)) hD hS hA [0, 1, 2, 3, 4, 5] rfl
    refine va_calli (va_runV (As := [.int 1]) (rest := []) ⟨hx, hb, hml, hown, hts⟩ (c_X1_fail l dC dI h kc f1 f2 of ro fa 0 g r x1 x2 1 H.size) (cwV 1 hts gX1_tightens_X1_fail rfl rfl rfl (by decide +kernel) ⟨Nat.le_of_ble_eq_true rfl, Nat.le_of_ble_eq_true rfl⟩) ⟨gcPM_blind, va_recv hK hP (ci := 1) (q0 := 0) rfl rfl, fun U hU hW => ⟨rfl, by rw [hU], by rw [hU]; exact hPc, va_K.moved hW.alike hKc, hDc.weaken (fun _ _ _ _ => trivial)⟩⟩ rfl rfl hl.1 rfl (lv_room (Nat.le_of_ble_eq_true rfl)) dX1_tightens_23 ⟨Nat.zero_le _, Nat.zero_le _⟩) hS (fun q _ h => hFc q h) hFc (fun r2 u t H locs ht hvm hw hB hz1 hk1 hS => ?_)
    obtain ⟨hP1, hD1⟩ := hB
    rw [ht] at hP1
    obtain ⟨hP, hD⟩ := va_join (wr := []) (w1 := (gmW h kc f1 f2 of ro fa 1 (nI g) (nI r) x1 x2)) hP hD [0, 1, 2, 3, 4, 5] [] rfl rfl (by decide) (by decide) hk1 hFc hP1 hD1
    have hP : va_P (dC, dI) vwCl (gmW h kc f1 f2 of ro fa 1 (nI g) (nI r) x1 x2) H := hP.sub [0, 1, 2, 3, 4, 5] rfl
    have hD : va_D A (gmW h kc f1 f2 of ro fa 1 (nI g) (nI r) x1 x2) := hD.sub [0, 1, 2, 3, 4, 5] (by decide) rfl
    have hw : r2 = 0 := hw
    subst hw
    clear hw
    clear hz1 hk1 ht hvm hP1 hD1 hFc hDc
    clear hPc hKc
    have hpost : True := trivial
    exact W.iret (v := 0) hx hb hr (fun t ht hW => ⟨⟨0, (), rfl, hpost, ⟨by rw [ht]; exact hP, hD⟩⟩, hS.F ht⟩) hS.2.2 dX1_tightens_26
  · skip
    have c_10 := gB_t c_10
    refine lv_aload_n hx hb dX1_tightens_13 rfl (lv_at hl 0 rfl) ?_
    refine lv_iload_n hx hb dX1_tightens_14 rfl (lv_at hl 2 rfl) ?_
    have hPc : va_P (dC, dI) vwCl (gmW h kc f1 f2 of ro fa 0 (nI g) (nI r) x1 x2) _ := hP.sub [0, 1, 2, 3, 4, 5] rfl
    have hKc : va_K (dC, dI) vwCl (gmT kc) s := hK.sub [0, 1, 2, 3, 4] rfl
    refine va_calli (va_runV (As := [.int v2]) (rest := []) ⟨hx, hb, hml, hown, hts⟩ (c_X1_isWish l dC dI h kc f1 f2 of ro fa 0 g r x1 x2 v2) (cwV 1 hts gX1_tightens_X1_isWish rfl rfl rfl (by decide +kernel) ⟨Nat.le_of_ble_eq_true rfl, Nat.le_of_ble_eq_true rfl⟩) ⟨gcPR_blind, va_recv hK hP (ci := 1) (q0 := 0) rfl rfl, fun U hU hW => ⟨rfl, by rw [hU]; exact hPc, va_K.moved hW.alike hKc⟩⟩ rfl rfl hl.1 rfl (lv_room (Nat.le_of_ble_eq_true rfl)) dX1_tightens_15 ⟨Nat.zero_le _, Nat.zero_le _⟩) hS (fun q _ h => h.elim) (fun q h => h.elim) (fun r3 u t H locs ht hvm hw hB hz1 hk1 hS => ?_)
    have hP := gc_keep hP hk1
    have hw : r3 = gB (mIn v2 0 (nI (2 * g) - 1)) := hw
    subst hw
    clear hw
    clear hB hz1 hk1 ht hvm
    clear hPc hKc
    refine lv_if_ne (tgt := 27) hx hb dX1_tightens_18 (by decide) (fun c_18 => ?_) (fun c_18 => ?_)
    · skip
      have c_18 := gB_t c_18
      rcases hno with q | q <;> exact absurd (mIn_no (by omega) q) (by first | (rw [c_10]; decide) | (rw [c_18]; decide))
    · skip
      have c_18 := gB_f c_18
      refine lv_aload_n hx hb dX1_tightens_21 rfl (lv_at hl 0 rfl) ?_
      refine lv_iconst (v := 1) hx hb dX1_tightens_22 (by decide) ?_
      have hPc : va_P (dC, dI) vwCl (gmW h kc f1 f2 of ro fa 0 (nI g) (nI r) x1 x2) _ := hP.sub [0, 1, 2, 3, 4, 5] rfl
      have hKc : va_K (dC, dI) vwCl (gmT kc) s := hK.sub [0, 1, 2, 3, 4] rfl
      have hDc : va_D A (gmW h kc f1 f2 of ro fa 0 (nI g) (nI r) x1 x2) := hD.sub [0, 1, 2, 3, 4, 5] (by decide) rfl
      have hFc := va_free (wc := (gmW h kc f1 f2 of ro fa 0 (nI g) (nI r) x1 x2)) hD hS hA [0, 1, 2, 3, 4, 5] rfl
      refine va_calli (va_runV (As := [.int 1]) (rest := []) ⟨hx, hb, hml, hown, hts⟩ (c_X1_fail l dC dI h kc f1 f2 of ro fa 0 g r x1 x2 1 H.size) (cwV 1 hts gX1_tightens_X1_fail rfl rfl rfl (by decide +kernel) ⟨Nat.le_of_ble_eq_true rfl, Nat.le_of_ble_eq_true rfl⟩) ⟨gcPM_blind, va_recv hK hP (ci := 1) (q0 := 0) rfl rfl, fun U hU hW => ⟨rfl, by rw [hU], by rw [hU]; exact hPc, va_K.moved hW.alike hKc, hDc.weaken (fun _ _ _ _ => trivial)⟩⟩ rfl rfl hl.1 rfl (lv_room (Nat.le_of_ble_eq_true rfl)) dX1_tightens_23 ⟨Nat.zero_le _, Nat.zero_le _⟩) hS (fun q _ h => hFc q h) hFc (fun r4 u t H locs ht hvm hw hB hz1 hk1 hS => ?_)
      obtain ⟨hP1, hD1⟩ := hB
      rw [ht] at hP1
      obtain ⟨hP, hD⟩ := va_join (wr := []) (w1 := (gmW h kc f1 f2 of ro fa 1 (nI g) (nI r) x1 x2)) hP hD [0, 1, 2, 3, 4, 5] [] rfl rfl (by decide) (by decide) hk1 hFc hP1 hD1
      have hP : va_P (dC, dI) vwCl (gmW h kc f1 f2 of ro fa 1 (nI g) (nI r) x1 x2) H := hP.sub [0, 1, 2, 3, 4, 5] rfl
      have hD : va_D A (gmW h kc f1 f2 of ro fa 1 (nI g) (nI r) x1 x2) := hD.sub [0, 1, 2, 3, 4, 5] (by decide) rfl
      have hw : r4 = 0 := hw
      subst hw
      clear hw
      clear hz1 hk1 ht hvm hP1 hD1 hFc hDc
      clear hPc hKc
      have hpost : True := trivial
      exact W.iret (v := 0) hx hb hr (fun t ht hW => ⟨⟨0, (), rfl, hpost, ⟨by rw [ht]; exact hP, hD⟩⟩, hS.F ht⟩) hS.2.2 dX1_tightens_26
set_option maxHeartbeats 4000000 in
set_option maxRecDepth 100000 in
theorem c_X1_steps (l : Launch) (dC : Nat → ClassId) (dI : Nat → Nat → Nat) (h : Nat → Nat) (kc : Nat → ClassId) (f1 : Nat → Int32) (f2 : Nat → Int32) (of : Nat → Int32) (ro : Nat → Int32) (fa : Nat → Int32) (th : Int32) (g : Nat) (r : Nat) (x1 : Int32) (x2 : Int32) (K : Bk) (wa : Nat) (wb : Nat) (sz : Nat) (hBk : mOK K g r f1 f2 of) (hg : g ≤ 10) (hr30 : r ≤ 30) (ha : wa < 2 * g) (hb2 : wb < 2 * g) : Met l yX1_steps wsX1_steps ({ frames := 2, cells := 0, slots := 0, locals := 48 }) (gcPM (dC, dI) [.ref (h 0), .int (nI wa), .int (nI wb)] (gmW h kc f1 f2 of ro fa th (nI g) (nI r) x1 x2) (gmT kc) sz) (va_Qi (fun (rv : Int32) (u : (Nat → Int32) × (Nat → Int32)) => (match u with | (ro2, fa2) => rv = di K wa wb ∧ ((fo K wa wb = true ∧ ∃ n, n < 20 ∧ di K wa wb = nI n ∧ rk K n wa wb) ∨ (fo K wa wb = false ∧ di K wa wb = -1)))) (fun u t9 => va_P (dC, dI) vwCl (match u with | (ro2, fa2) => (gmW h kc f1 f2 of ro2 fa2 0 (nI g) (nI r) x1 x2)) t9.heap ∧ va_D (va_A (gmW h kc f1 f2 of ro fa th (nI g) (nI r) x1 x2) sz) (match u with | (ro2, fa2) => (gmW h kc f1 f2 of ro2 fa2 0 (nI g) (nI r) x1 x2))) (va_A (gmW h kc f1 f2 of ro fa th (nI g) (nI r) x1 x2) sz)) 0 0 (va_A (gmW h kc f1 f2 of ro fa th (nI g) (nI r) x1 x2) sz) := by
  refine Met.ofW (cc := cX1_steps) (maxL := 3) (ret := (some .int)) (by decide) rfl ?_
  intro p e s m args below meth c s₁ B hml hv
  obtain ⟨rfl, hsz, hP, hK, hD0⟩ := hv
  have hx := B.exec
  have hb := B.bytes
  have hr := B.returns
  have hts := atoms_spec (ws := wsX1_steps) B.pre
  have hown : s.vm.findClass RX1 = some m.cls := findClass_of_methodNamed B.named
  have hlocks := B.notSynchronized
  subst hsz
  have hD := hD0.self (sz := s.heap.size)
  generalize hAe : va_A (gmW h kc f1 f2 of ro fa th (nI g) (nI r) x1 x2) s.heap.size = A at hD ⊢
  have hA : ∀ q : Nat, s.heap.size ≤ q → A q := fun q h => by rw [← hAe]; exact Or.inr h
  have hS : va_S A s.heap s.heap [] := va_S.rf
  have hP : va_P (dC, dI) vwCl (gmW h kc f1 f2 of ro fa th (nI g) (nI r) x1 x2) s.heap := hP
  have hin1 : ∀ w ∈ wsX10, w ∈ wsX1_steps := by decide +kernel
  have hl := lv_entry [.ref (h 0), .int (nI wa), .int (nI wb)] (n := 3) (Nat.le_of_ble_eq_true rfl)
  rw [lg_entry_eq]
  generalize (lg_sl [.ref (h 0), .int (nI wa), .int (nI wb)] ++ List.replicate (3 - (lg_sl [.ref (h 0), .int (nI wa), .int (nI wb)]).length) Slot.unset).toArray = ls at hl ⊢
  have hl : lv_has ls 3 [(0, .ref (h 0)), (1, .int (nI wa)), (2, .int (nI wb))] := hl
  refine lv_aload_n hx hb dX1_steps_0 rfl (lv_at hl 0 rfl) ?_
  refine lv_iconst (v := 0) hx hb dX1_steps_1 (by decide) ?_
  refine va_put (D := (dC, dI)) (ci := 1) (v := .int 0) (ty := .int) (C := RX1) (T := TX1) (N := 10) hx hb hts hin1 tyX1 tyX1_ok nmX1 hown hK hP hD hS 0 rfl rfl 0 (by decide) (hts (.fieldLink RX1 33 "GuestChairsModel" "thrown" "I") (by decide +kernel)) (fun _ h9 => h9) rfl (by decide +kernel) rfl rfl (Nat.le_of_ble_eq_true rfl) dX1_steps_2 (fun H locs hP hD hS => ?_)
  have hP : va_P (dC, dI) vwCl (gmW h kc f1 f2 of ro fa 0 (nI g) (nI r) x1 x2) H := hP
  have hD : va_D A (gmW h kc f1 f2 of ro fa 0 (nI g) (nI r) x1 x2) := hD
  refine lv_aload_n hx hb dX1_steps_5 rfl (lv_at hl 0 rfl) ?_
  refine lv_iload_n hx hb dX1_steps_6 rfl (lv_at hl 1 rfl) ?_
  have hPc : va_P (dC, dI) vwCl (gmW h kc f1 f2 of ro fa 0 (nI g) (nI r) x1 x2) _ := hP.sub [0, 1, 2, 3, 4, 5] rfl
  have hKc : va_K (dC, dI) vwCl (gmT kc) s := hK.sub [0, 1, 2, 3, 4] rfl
  refine va_calli (va_runV (As := [.int (nI wa)]) (rest := []) ⟨hx, hb, hml, hown, hts⟩ (c_X1_isWish l dC dI h kc f1 f2 of ro fa 0 g r x1 x2 (nI wa)) (cwV 1 hts gX1_steps_X1_isWish rfl rfl rfl (by decide +kernel) ⟨Nat.le_of_ble_eq_true rfl, Nat.le_of_ble_eq_true rfl⟩) ⟨gcPR_blind, va_recv hK hP (ci := 1) (q0 := 0) rfl rfl, fun U hU hW => ⟨rfl, by rw [hU]; exact hPc, va_K.moved hW.alike hKc⟩⟩ rfl rfl hl.1 rfl (lv_room (Nat.le_of_ble_eq_true rfl)) dX1_steps_7 ⟨Nat.zero_le _, Nat.zero_le _⟩) hS (fun q _ h => h.elim) (fun q h => h.elim) (fun r1 u t H locs ht hvm hw hB hz1 hk1 hS => ?_)
  have hP := gc_keep hP hk1
  have hw : r1 = gB (mIn (nI wa) 0 (nI (2 * g) - 1)) := hw
  subst hw
  clear hw
  clear hB hz1 hk1 ht hvm
  clear hPc hKc
  refine lv_if_eq (tgt := 21) hx hb dX1_steps_10 (by decide) (fun c_10 => ?_) (fun c_10 => ?_)
  · skip
    have c_10 := gB_f c_10
    exact absurd (mIn_ok (j := wa) (n := 2 * g) (by omega) (by omega)) (by rw [c_10]; decide)
  · skip
    have c_10 := gB_t c_10
    refine lv_aload_n hx hb dX1_steps_13 rfl (lv_at hl 0 rfl) ?_
    refine lv_iload_n hx hb dX1_steps_14 rfl (lv_at hl 2 rfl) ?_
    have hPc : va_P (dC, dI) vwCl (gmW h kc f1 f2 of ro fa 0 (nI g) (nI r) x1 x2) _ := hP.sub [0, 1, 2, 3, 4, 5] rfl
    have hKc : va_K (dC, dI) vwCl (gmT kc) s := hK.sub [0, 1, 2, 3, 4] rfl
    refine va_calli (va_runV (As := [.int (nI wb)]) (rest := []) ⟨hx, hb, hml, hown, hts⟩ (c_X1_isWish l dC dI h kc f1 f2 of ro fa 0 g r x1 x2 (nI wb)) (cwV 1 hts gX1_steps_X1_isWish rfl rfl rfl (by decide +kernel) ⟨Nat.le_of_ble_eq_true rfl, Nat.le_of_ble_eq_true rfl⟩) ⟨gcPR_blind, va_recv hK hP (ci := 1) (q0 := 0) rfl rfl, fun U hU hW => ⟨rfl, by rw [hU]; exact hPc, va_K.moved hW.alike hKc⟩⟩ rfl rfl hl.1 rfl (lv_room (Nat.le_of_ble_eq_true rfl)) dX1_steps_15 ⟨Nat.zero_le _, Nat.zero_le _⟩) hS (fun q _ h => h.elim) (fun q h => h.elim) (fun r2 u t H locs ht hvm hw hB hz1 hk1 hS => ?_)
    have hP := gc_keep hP hk1
    have hw : r2 = gB (mIn (nI wb) 0 (nI (2 * g) - 1)) := hw
    subst hw
    clear hw
    clear hB hz1 hk1 ht hvm
    clear hPc hKc
    refine lv_if_ne (tgt := 27) hx hb dX1_steps_18 (by decide) (fun c_18 => ?_) (fun c_18 => ?_)
    · skip
      have c_18 := gB_t c_18
      refine lv_aload_n hx hb dX1_steps_27 rfl (lv_at hl 0 rfl) ?_
      refine lv_iload_n hx hb dX1_steps_28 rfl (lv_at hl 1 rfl) ?_
      have hPc : va_P (dC, dI) vwCl (gmW h kc f1 f2 of ro fa 0 (nI g) (nI r) x1 x2) _ := hP.sub [0, 1, 2, 3, 4, 5] rfl
      have hKc : va_K (dC, dI) vwCl (gmT kc) s := hK.sub [0, 1, 2, 3, 4] rfl
      have hDc : va_D A (gmW h kc f1 f2 of ro fa 0 (nI g) (nI r) x1 x2) := hD.sub [0, 1, 2, 3, 4, 5] (by decide) rfl
      have hFc := va_free (wc := (gmW h kc f1 f2 of ro fa 0 (nI g) (nI r) x1 x2)) hD hS hA [0, 1, 2, 3, 4, 5] rfl
      refine va_calli (va_runV (As := [.int (nI wa)]) (rest := []) ⟨hx, hb, hml, hown, hts⟩ (c_X1_spread l dC dI h kc f1 f2 of ro fa 0 g r x1 x2 K wa H.size (by first | assumption | omega) (by first | assumption | omega) (by first | assumption | omega) (by first | assumption | omega)) (cwV 1 hts gX1_steps_X1_spread rfl rfl rfl (by decide +kernel) ⟨Nat.le_of_ble_eq_true rfl, Nat.le_of_ble_eq_true rfl⟩) ⟨gcPM_blind, va_recv hK hP (ci := 1) (q0 := 0) rfl rfl, fun U hU hW => ⟨rfl, by rw [hU], by rw [hU]; exact hPc, va_K.moved hW.alike hKc, hDc.weaken (fun _ _ _ _ => trivial)⟩⟩ rfl rfl hl.1 rfl (lv_room (Nat.le_of_ble_eq_true rfl)) dX1_steps_29 ⟨Nat.zero_le _, Nat.zero_le _⟩) hS (fun q _ h => hFc q h) hFc (fun r3 u t H locs ht hvm hw hB hz1 hk1 hS => ?_)
      obtain ⟨ro24, fa25⟩ := u
      obtain ⟨hP1, hD1⟩ := hB
      rw [ht] at hP1
      obtain ⟨hP, hD⟩ := va_join (wr := []) (w1 := (gmW h kc f1 f2 of ro24 fa25 0 (nI g) (nI r) x1 x2)) hP hD [0, 1, 2, 3, 4, 5] [] rfl rfl (by decide) (by decide) hk1 hFc hP1 hD1
      have hP : va_P (dC, dI) vwCl (gmW h kc f1 f2 of ro24 fa25 0 (nI g) (nI r) x1 x2) H := hP.sub [0, 1, 2, 3, 4, 5] rfl
      have hD : va_D A (gmW h kc f1 f2 of ro24 fa25 0 (nI g) (nI r) x1 x2) := hD.sub [0, 1, 2, 3, 4, 5] (by decide) rfl
      have hw_29 : r3 = nI (fb_ct (fun v => fo K wa v) 20) ∧ (∀ v, v < 20 → fa25 v = di K wa v) ∧ ∀ v, v < 20 → (fo K wa v = true ∧ ∃ n, n < 20 ∧ di K wa v = nI n ∧ rk K n wa v) ∨ (fo K wa v = false ∧ di K wa v = -1) := hw
      clear hz1 hk1 ht hvm hP1 hD1 hFc hDc
      clear hPc hKc
      refine lv_pop hx hb dX1_steps_32 rfl ?_
      refine lv_aload_n hx hb dX1_steps_33 rfl (lv_at hl 0 rfl) ?_
      refine va_get (D := (dC, dI)) (ci := 1) (v := .ref (h 5)) (C := RX1) (T := TX1) (N := 10) hx hb hts hin1 hown hK hP 0 rfl rfl 9 (by decide) (hts (.fieldLink RX1 30 "GuestChairsModel" "far" "[I") (by decide +kernel)) (fun _ h9 => h9) rfl dX1_steps_34 ?_
      refine lv_iload_n hx hb dX1_steps_37 rfl (lv_at hl 2 rfl) ?_
      refine va_iald hx hb hK hP 5 4 rfl rfl (vp_in_nI (n := wb) (by omega) (by decide)) dX1_steps_38 ?_
      rw [nI_clamp (n := wb) (by omega)]
      have hpost : (fa25 wb) = di K wa wb ∧ ((fo K wa wb = true ∧ ∃ n, n < 20 ∧ di K wa wb = nI n ∧ rk K n wa wb) ∨ (fo K wa wb = false ∧ di K wa wb = -1)) := ⟨hw_29.2.1 wb (by omega), hw_29.2.2 wb (by omega)⟩
      exact W.iret (v := fa25 wb) hx hb hr (fun t ht hW => ⟨⟨fa25 wb, (ro24, fa25), rfl, hpost, ⟨by rw [ht]; exact hP, hD⟩⟩, hS.F ht⟩) hS.2.2 dX1_steps_39
    · skip
      have c_18 := gB_f c_18
      exact absurd (mIn_ok (j := wb) (n := 2 * g) (by omega) (by omega)) (by rw [c_18]; decide)
set_option maxHeartbeats 4000000 in
set_option maxRecDepth 100000 in
theorem c_X1_steps_no (l : Launch) (dC : Nat → ClassId) (dI : Nat → Nat → Nat) (h : Nat → Nat) (kc : Nat → ClassId) (f1 : Nat → Int32) (f2 : Nat → Int32) (of : Nat → Int32) (ro : Nat → Int32) (fa : Nat → Int32) (th : Int32) (g : Nat) (r : Nat) (x1 : Int32) (x2 : Int32) (v1 : Int32) (v2 : Int32) (sz : Nat) (hg : g ≤ 10) (hno : (∀ j : Nat, j < 2 * g → v1 ≠ nI j) ∨ ∀ j : Nat, j < 2 * g → v2 ≠ nI j) : Met l yX1_steps wsX1_steps ({ frames := 2, cells := 0, slots := 0, locals := 43 }) (gcPM (dC, dI) [.ref (h 0), .int v1, .int v2] (gmW h kc f1 f2 of ro fa th (nI g) (nI r) x1 x2) (gmT kc) sz) (va_Qi (fun (rv : Int32) (_u : Unit) => True) (fun _u t9 => va_P (dC, dI) vwCl (gmW h kc f1 f2 of ro fa 1 (nI g) (nI r) x1 x2) t9.heap ∧ va_D (va_A (gmW h kc f1 f2 of ro fa th (nI g) (nI r) x1 x2) sz) (gmW h kc f1 f2 of ro fa 1 (nI g) (nI r) x1 x2)) (va_A (gmW h kc f1 f2 of ro fa th (nI g) (nI r) x1 x2) sz)) 0 0 (va_A (gmW h kc f1 f2 of ro fa th (nI g) (nI r) x1 x2) sz) := by
  refine Met.ofW (cc := cX1_steps) (maxL := 3) (ret := (some .int)) (by decide) rfl ?_
  intro p e s m args below meth c s₁ B hml hv
  obtain ⟨rfl, hsz, hP, hK, hD0⟩ := hv
  have hx := B.exec
  have hb := B.bytes
  have hr := B.returns
  have hts := atoms_spec (ws := wsX1_steps) B.pre
  have hown : s.vm.findClass RX1 = some m.cls := findClass_of_methodNamed B.named
  have hlocks := B.notSynchronized
  subst hsz
  have hD := hD0.self (sz := s.heap.size)
  generalize hAe : va_A (gmW h kc f1 f2 of ro fa th (nI g) (nI r) x1 x2) s.heap.size = A at hD ⊢
  have hA : ∀ q : Nat, s.heap.size ≤ q → A q := fun q h => by rw [← hAe]; exact Or.inr h
  have hS : va_S A s.heap s.heap [] := va_S.rf
  have hP : va_P (dC, dI) vwCl (gmW h kc f1 f2 of ro fa th (nI g) (nI r) x1 x2) s.heap := hP
  have hin1 : ∀ w ∈ wsX10, w ∈ wsX1_steps := by decide +kernel
  have hl := lv_entry [.ref (h 0), .int v1, .int v2] (n := 3) (Nat.le_of_ble_eq_true rfl)
  rw [lg_entry_eq]
  generalize (lg_sl [.ref (h 0), .int v1, .int v2] ++ List.replicate (3 - (lg_sl [.ref (h 0), .int v1, .int v2]).length) Slot.unset).toArray = ls at hl ⊢
  have hl : lv_has ls 3 [(0, .ref (h 0)), (1, .int v1), (2, .int v2)] := hl
  refine lv_aload_n hx hb dX1_steps_0 rfl (lv_at hl 0 rfl) ?_
  refine lv_iconst (v := 0) hx hb dX1_steps_1 (by decide) ?_
  refine va_put (D := (dC, dI)) (ci := 1) (v := .int 0) (ty := .int) (C := RX1) (T := TX1) (N := 10) hx hb hts hin1 tyX1 tyX1_ok nmX1 hown hK hP hD hS 0 rfl rfl 0 (by decide) (hts (.fieldLink RX1 33 "GuestChairsModel" "thrown" "I") (by decide +kernel)) (fun _ h9 => h9) rfl (by decide +kernel) rfl rfl (Nat.le_of_ble_eq_true rfl) dX1_steps_2 (fun H locs hP hD hS => ?_)
  have hP : va_P (dC, dI) vwCl (gmW h kc f1 f2 of ro fa 0 (nI g) (nI r) x1 x2) H := hP
  have hD : va_D A (gmW h kc f1 f2 of ro fa 0 (nI g) (nI r) x1 x2) := hD
  refine lv_aload_n hx hb dX1_steps_5 rfl (lv_at hl 0 rfl) ?_
  refine lv_iload_n hx hb dX1_steps_6 rfl (lv_at hl 1 rfl) ?_
  have hPc : va_P (dC, dI) vwCl (gmW h kc f1 f2 of ro fa 0 (nI g) (nI r) x1 x2) _ := hP.sub [0, 1, 2, 3, 4, 5] rfl
  have hKc : va_K (dC, dI) vwCl (gmT kc) s := hK.sub [0, 1, 2, 3, 4] rfl
  refine va_calli (va_runV (As := [.int v1]) (rest := []) ⟨hx, hb, hml, hown, hts⟩ (c_X1_isWish l dC dI h kc f1 f2 of ro fa 0 g r x1 x2 v1) (cwV 1 hts gX1_steps_X1_isWish rfl rfl rfl (by decide +kernel) ⟨Nat.le_of_ble_eq_true rfl, Nat.le_of_ble_eq_true rfl⟩) ⟨gcPR_blind, va_recv hK hP (ci := 1) (q0 := 0) rfl rfl, fun U hU hW => ⟨rfl, by rw [hU]; exact hPc, va_K.moved hW.alike hKc⟩⟩ rfl rfl hl.1 rfl (lv_room (Nat.le_of_ble_eq_true rfl)) dX1_steps_7 ⟨Nat.zero_le _, Nat.zero_le _⟩) hS (fun q _ h => h.elim) (fun q h => h.elim) (fun r1 u t H locs ht hvm hw hB hz1 hk1 hS => ?_)
  have hP := gc_keep hP hk1
  have hw : r1 = gB (mIn v1 0 (nI (2 * g) - 1)) := hw
  subst hw
  clear hw
  clear hB hz1 hk1 ht hvm
  clear hPc hKc
  refine lv_if_eq (tgt := 21) hx hb dX1_steps_10 (by decide) (fun c_10 => ?_) (fun c_10 => ?_)
  · skip
    have c_10 := gB_f c_10
    refine lv_aload_n hx hb dX1_steps_21 rfl (lv_at hl 0 rfl) ?_
    refine lv_iconst (v := 1) hx hb dX1_steps_22 (by decide) ?_
    have hPc : va_P (dC, dI) vwCl (gmW h kc f1 f2 of ro fa 0 (nI g) (nI r) x1 x2) _ := hP.sub [0, 1, 2, 3, 4, 5] rfl
    have hKc : va_K (dC, dI) vwCl (gmT kc) s := hK.sub [0, 1, 2, 3, 4] rfl
    have hDc : va_D A (gmW h kc f1 f2 of ro fa 0 (nI g) (nI r) x1 x2) := hD.sub [0, 1, 2, 3, 4, 5] (by decide) rfl
    have hFc := va_free (wc := (gmW h kc f1 f2 of ro fa 0 (nI g) (nI r) x1 x2)) hD hS hA [0, 1, 2, 3, 4, 5] rfl
    refine va_calli (va_runV (As := [.int 1]) (rest := []) ⟨hx, hb, hml, hown, hts⟩ (c_X1_fail l dC dI h kc f1 f2 of ro fa 0 g r x1 x2 1 H.size) (cwV 1 hts gX1_steps_X1_fail rfl rfl rfl (by decide +kernel) ⟨Nat.le_of_ble_eq_true rfl, Nat.le_of_ble_eq_true rfl⟩) ⟨gcPM_blind, va_recv hK hP (ci := 1) (q0 := 0) rfl rfl, fun U hU hW => ⟨rfl, by rw [hU], by rw [hU]; exact hPc, va_K.moved hW.alike hKc, hDc.weaken (fun _ _ _ _ => trivial)⟩⟩ rfl rfl hl.1 rfl (lv_room (Nat.le_of_ble_eq_true rfl)) dX1_steps_23 ⟨Nat.zero_le _, Nat.zero_le _⟩) hS (fun q _ h => hFc q h) hFc (fun r2 u t H locs ht hvm hw hB hz1 hk1 hS => ?_)
    obtain ⟨hP1, hD1⟩ := hB
    rw [ht] at hP1
    obtain ⟨hP, hD⟩ := va_join (wr := []) (w1 := (gmW h kc f1 f2 of ro fa 1 (nI g) (nI r) x1 x2)) hP hD [0, 1, 2, 3, 4, 5] [] rfl rfl (by decide) (by decide) hk1 hFc hP1 hD1
    have hP : va_P (dC, dI) vwCl (gmW h kc f1 f2 of ro fa 1 (nI g) (nI r) x1 x2) H := hP.sub [0, 1, 2, 3, 4, 5] rfl
    have hD : va_D A (gmW h kc f1 f2 of ro fa 1 (nI g) (nI r) x1 x2) := hD.sub [0, 1, 2, 3, 4, 5] (by decide) rfl
    have hw : r2 = 0 := hw
    subst hw
    clear hw
    clear hz1 hk1 ht hvm hP1 hD1 hFc hDc
    clear hPc hKc
    have hpost : True := trivial
    exact W.iret (v := 0) hx hb hr (fun t ht hW => ⟨⟨0, (), rfl, hpost, ⟨by rw [ht]; exact hP, hD⟩⟩, hS.F ht⟩) hS.2.2 dX1_steps_26
  · skip
    have c_10 := gB_t c_10
    refine lv_aload_n hx hb dX1_steps_13 rfl (lv_at hl 0 rfl) ?_
    refine lv_iload_n hx hb dX1_steps_14 rfl (lv_at hl 2 rfl) ?_
    have hPc : va_P (dC, dI) vwCl (gmW h kc f1 f2 of ro fa 0 (nI g) (nI r) x1 x2) _ := hP.sub [0, 1, 2, 3, 4, 5] rfl
    have hKc : va_K (dC, dI) vwCl (gmT kc) s := hK.sub [0, 1, 2, 3, 4] rfl
    refine va_calli (va_runV (As := [.int v2]) (rest := []) ⟨hx, hb, hml, hown, hts⟩ (c_X1_isWish l dC dI h kc f1 f2 of ro fa 0 g r x1 x2 v2) (cwV 1 hts gX1_steps_X1_isWish rfl rfl rfl (by decide +kernel) ⟨Nat.le_of_ble_eq_true rfl, Nat.le_of_ble_eq_true rfl⟩) ⟨gcPR_blind, va_recv hK hP (ci := 1) (q0 := 0) rfl rfl, fun U hU hW => ⟨rfl, by rw [hU]; exact hPc, va_K.moved hW.alike hKc⟩⟩ rfl rfl hl.1 rfl (lv_room (Nat.le_of_ble_eq_true rfl)) dX1_steps_15 ⟨Nat.zero_le _, Nat.zero_le _⟩) hS (fun q _ h => h.elim) (fun q h => h.elim) (fun r3 u t H locs ht hvm hw hB hz1 hk1 hS => ?_)
    have hP := gc_keep hP hk1
    have hw : r3 = gB (mIn v2 0 (nI (2 * g) - 1)) := hw
    subst hw
    clear hw
    clear hB hz1 hk1 ht hvm
    clear hPc hKc
    refine lv_if_ne (tgt := 27) hx hb dX1_steps_18 (by decide) (fun c_18 => ?_) (fun c_18 => ?_)
    · skip
      have c_18 := gB_t c_18
      rcases hno with q | q <;> exact absurd (mIn_no (by omega) q) (by first | (rw [c_10]; decide) | (rw [c_18]; decide))
    · skip
      have c_18 := gB_f c_18
      refine lv_aload_n hx hb dX1_steps_21 rfl (lv_at hl 0 rfl) ?_
      refine lv_iconst (v := 1) hx hb dX1_steps_22 (by decide) ?_
      have hPc : va_P (dC, dI) vwCl (gmW h kc f1 f2 of ro fa 0 (nI g) (nI r) x1 x2) _ := hP.sub [0, 1, 2, 3, 4, 5] rfl
      have hKc : va_K (dC, dI) vwCl (gmT kc) s := hK.sub [0, 1, 2, 3, 4] rfl
      have hDc : va_D A (gmW h kc f1 f2 of ro fa 0 (nI g) (nI r) x1 x2) := hD.sub [0, 1, 2, 3, 4, 5] (by decide) rfl
      have hFc := va_free (wc := (gmW h kc f1 f2 of ro fa 0 (nI g) (nI r) x1 x2)) hD hS hA [0, 1, 2, 3, 4, 5] rfl
      refine va_calli (va_runV (As := [.int 1]) (rest := []) ⟨hx, hb, hml, hown, hts⟩ (c_X1_fail l dC dI h kc f1 f2 of ro fa 0 g r x1 x2 1 H.size) (cwV 1 hts gX1_steps_X1_fail rfl rfl rfl (by decide +kernel) ⟨Nat.le_of_ble_eq_true rfl, Nat.le_of_ble_eq_true rfl⟩) ⟨gcPM_blind, va_recv hK hP (ci := 1) (q0 := 0) rfl rfl, fun U hU hW => ⟨rfl, by rw [hU], by rw [hU]; exact hPc, va_K.moved hW.alike hKc, hDc.weaken (fun _ _ _ _ => trivial)⟩⟩ rfl rfl hl.1 rfl (lv_room (Nat.le_of_ble_eq_true rfl)) dX1_steps_23 ⟨Nat.zero_le _, Nat.zero_le _⟩) hS (fun q _ h => hFc q h) hFc (fun r4 u t H locs ht hvm hw hB hz1 hk1 hS => ?_)
      obtain ⟨hP1, hD1⟩ := hB
      rw [ht] at hP1
      obtain ⟨hP, hD⟩ := va_join (wr := []) (w1 := (gmW h kc f1 f2 of ro fa 1 (nI g) (nI r) x1 x2)) hP hD [0, 1, 2, 3, 4, 5] [] rfl rfl (by decide) (by decide) hk1 hFc hP1 hD1
      have hP : va_P (dC, dI) vwCl (gmW h kc f1 f2 of ro fa 1 (nI g) (nI r) x1 x2) H := hP.sub [0, 1, 2, 3, 4, 5] rfl
      have hD : va_D A (gmW h kc f1 f2 of ro fa 1 (nI g) (nI r) x1 x2) := hD.sub [0, 1, 2, 3, 4, 5] (by decide) rfl
      have hw : r4 = 0 := hw
      subst hw
      clear hw
      clear hz1 hk1 ht hvm hP1 hD1 hFc hDc
      clear hPc hKc
      have hpost : True := trivial
      exact W.iret (v := 0) hx hb hr (fun t ht hW => ⟨⟨0, (), rfl, hpost, ⟨by rw [ht]; exact hP, hD⟩⟩, hS.F ht⟩) hS.2.2 dX1_steps_26
set_option maxHeartbeats 4000000 in
set_option maxRecDepth 100000 in
theorem c_X1_follows (l : Launch) (dC : Nat → ClassId) (dI : Nat → Nat → Nat) (h : Nat → Nat) (kc : Nat → ClassId) (f1 : Nat → Int32) (f2 : Nat → Int32) (of : Nat → Int32) (ro : Nat → Int32) (fa : Nat → Int32) (th : Int32) (g : Nat) (r : Nat) (x1 : Int32) (x2 : Int32) (K : Bk) (wa : Nat) (wb : Nat) (sz : Nat) (hBk : mOK K g r f1 f2 of) (hg : g ≤ 10) (hr30 : r ≤ 30) (ha : wa < 2 * g) (hb2 : wb < 2 * g) : Met l yX1_follows wsX1_follows ({ frames := 3, cells := 0, slots := 0, locals := 70 }) (gcPM (dC, dI) [.ref (h 0), .int (nI wa), .int (nI wb)] (gmW h kc f1 f2 of ro fa th (nI g) (nI r) x1 x2) (gmT kc) sz) (va_Qi (fun (rv : Int32) (u : (Nat → Int32) × (Nat → Int32)) => (match u with | (ro2, fa2) => rv = gB (fo K wa wb))) (fun u t9 => va_P (dC, dI) vwCl (match u with | (ro2, fa2) => (gmW h kc f1 f2 of ro2 fa2 0 (nI g) (nI r) x1 x2)) t9.heap ∧ va_D (va_A (gmW h kc f1 f2 of ro fa th (nI g) (nI r) x1 x2) sz) (match u with | (ro2, fa2) => (gmW h kc f1 f2 of ro2 fa2 0 (nI g) (nI r) x1 x2))) (va_A (gmW h kc f1 f2 of ro fa th (nI g) (nI r) x1 x2) sz)) 0 0 (va_A (gmW h kc f1 f2 of ro fa th (nI g) (nI r) x1 x2) sz) := by
  refine Met.ofW (cc := cX1_follows) (maxL := 3) (ret := (some .boolean)) (by decide) rfl ?_
  intro p e s m args below meth c s₁ B hml hv
  obtain ⟨rfl, hsz, hP, hK, hD0⟩ := hv
  have hx := B.exec
  have hb := B.bytes
  have hr := B.returns
  have hts := atoms_spec (ws := wsX1_follows) B.pre
  have hown : s.vm.findClass RX1 = some m.cls := findClass_of_methodNamed B.named
  have hlocks := B.notSynchronized
  subst hsz
  have hD := hD0.self (sz := s.heap.size)
  generalize hAe : va_A (gmW h kc f1 f2 of ro fa th (nI g) (nI r) x1 x2) s.heap.size = A at hD ⊢
  have hA : ∀ q : Nat, s.heap.size ≤ q → A q := fun q h => by rw [← hAe]; exact Or.inr h
  have hS : va_S A s.heap s.heap [] := va_S.rf
  have hP : va_P (dC, dI) vwCl (gmW h kc f1 f2 of ro fa th (nI g) (nI r) x1 x2) s.heap := hP
  have hin1 : ∀ w ∈ wsX10, w ∈ wsX1_follows := by decide +kernel
  have hl := lv_entry [.ref (h 0), .int (nI wa), .int (nI wb)] (n := 3) (Nat.le_of_ble_eq_true rfl)
  rw [lg_entry_eq]
  generalize (lg_sl [.ref (h 0), .int (nI wa), .int (nI wb)] ++ List.replicate (3 - (lg_sl [.ref (h 0), .int (nI wa), .int (nI wb)]).length) Slot.unset).toArray = ls at hl ⊢
  have hl : lv_has ls 3 [(0, .ref (h 0)), (1, .int (nI wa)), (2, .int (nI wb))] := hl
  refine lv_aload_n hx hb dX1_follows_0 rfl (lv_at hl 0 rfl) ?_
  refine lv_aload_n hx hb dX1_follows_1 rfl (lv_at hl 0 rfl) ?_
  refine lv_iload_n hx hb dX1_follows_2 rfl (lv_at hl 1 rfl) ?_
  have hPc : va_P (dC, dI) vwCl (gmW h kc f1 f2 of ro fa th (nI g) (nI r) x1 x2) _ := hP.sub [0, 1, 2, 3, 4, 5] rfl
  have hKc : va_K (dC, dI) vwCl (gmT kc) s := hK.sub [0, 1, 2, 3, 4] rfl
  refine va_calli (va_runV (As := [.int (nI wa)]) (rest := [.ref (h 0)]) ⟨hx, hb, hml, hown, hts⟩ (c_X1_isWish l dC dI h kc f1 f2 of ro fa th g r x1 x2 (nI wa)) (cwV 1 hts gX1_follows_X1_isWish rfl rfl rfl (by decide +kernel) ⟨Nat.le_of_ble_eq_true rfl, Nat.le_of_ble_eq_true rfl⟩) ⟨gcPR_blind, va_recv hK hP (ci := 1) (q0 := 0) rfl rfl, fun U hU hW => ⟨rfl, by rw [hU]; exact hPc, va_K.moved hW.alike hKc⟩⟩ rfl rfl hl.1 rfl (lv_room (Nat.le_of_ble_eq_true rfl)) dX1_follows_3 ⟨Nat.zero_le _, Nat.zero_le _⟩) hS (fun q _ h => h.elim) (fun q h => h.elim) (fun r1 u t H locs ht hvm hw hB hz1 hk1 hS => ?_)
  have hP := gc_keep hP hk1
  have hw : r1 = gB (mIn (nI wa) 0 (nI (2 * g) - 1)) := hw
  subst hw
  clear hw
  clear hB hz1 hk1 ht hvm
  clear hPc hKc
  refine lv_if_eq (tgt := 21) hx hb dX1_follows_6 (by decide) (fun c_6 => ?_) (fun c_6 => ?_)
  · skip
    have c_6 := gB_f c_6
    exact absurd (mIn_ok (j := wa) (n := 2 * g) (by omega) (by omega)) (by rw [c_6]; decide)
  · skip
    have c_6 := gB_t c_6
    refine lv_aload_n hx hb dX1_follows_9 rfl (lv_at hl 0 rfl) ?_
    refine lv_iload_n hx hb dX1_follows_10 rfl (lv_at hl 2 rfl) ?_
    have hPc : va_P (dC, dI) vwCl (gmW h kc f1 f2 of ro fa th (nI g) (nI r) x1 x2) _ := hP.sub [0, 1, 2, 3, 4, 5] rfl
    have hKc : va_K (dC, dI) vwCl (gmT kc) s := hK.sub [0, 1, 2, 3, 4] rfl
    refine va_calli (va_runV (As := [.int (nI wb)]) (rest := [.ref (h 0)]) ⟨hx, hb, hml, hown, hts⟩ (c_X1_isWish l dC dI h kc f1 f2 of ro fa th g r x1 x2 (nI wb)) (cwV 1 hts gX1_follows_X1_isWish rfl rfl rfl (by decide +kernel) ⟨Nat.le_of_ble_eq_true rfl, Nat.le_of_ble_eq_true rfl⟩) ⟨gcPR_blind, va_recv hK hP (ci := 1) (q0 := 0) rfl rfl, fun U hU hW => ⟨rfl, by rw [hU]; exact hPc, va_K.moved hW.alike hKc⟩⟩ rfl rfl hl.1 rfl (lv_room (Nat.le_of_ble_eq_true rfl)) dX1_follows_11 ⟨Nat.zero_le _, Nat.zero_le _⟩) hS (fun q _ h => h.elim) (fun q h => h.elim) (fun r2 u t H locs ht hvm hw hB hz1 hk1 hS => ?_)
    have hP := gc_keep hP hk1
    have hw : r2 = gB (mIn (nI wb) 0 (nI (2 * g) - 1)) := hw
    subst hw
    clear hw
    clear hB hz1 hk1 ht hvm
    clear hPc hKc
    refine lv_if_eq (tgt := 21) hx hb dX1_follows_14 (by decide) (fun c_14 => ?_) (fun c_14 => ?_)
    · skip
      have c_14 := gB_f c_14
      exact absurd (mIn_ok (j := wb) (n := 2 * g) (by omega) (by omega)) (by rw [c_14]; decide)
    · skip
      have c_14 := gB_t c_14
      refine lv_iconst (v := 0) hx hb dX1_follows_17 (by decide) ?_
      refine lv_goto (tgt := 22) hx hb dX1_follows_18 (by decide) ?_
      refine va_put (D := (dC, dI)) (ci := 1) (v := .int 0) (ty := .int) (C := RX1) (T := TX1) (N := 10) hx hb hts hin1 tyX1 tyX1_ok nmX1 hown hK hP hD hS 0 rfl rfl 0 (by decide) (hts (.fieldLink RX1 33 "GuestChairsModel" "thrown" "I") (by decide +kernel)) (fun _ h9 => h9) rfl (by decide +kernel) rfl rfl (Nat.le_of_ble_eq_true rfl) dX1_follows_22 (fun H locs hP hD hS => ?_)
      have hP : va_P (dC, dI) vwCl (gmW h kc f1 f2 of ro fa 0 (nI g) (nI r) x1 x2) H := hP
      have hD : va_D A (gmW h kc f1 f2 of ro fa 0 (nI g) (nI r) x1 x2) := hD
      refine lv_aload_n hx hb dX1_follows_25 rfl (lv_at hl 0 rfl) ?_
      refine va_get (D := (dC, dI)) (ci := 1) (v := .int 0) (C := RX1) (T := TX1) (N := 10) hx hb hts hin1 hown hK hP 0 rfl rfl 0 (by decide) (hts (.fieldLink RX1 33 "GuestChairsModel" "thrown" "I") (by decide +kernel)) (fun _ h9 => h9) rfl dX1_follows_26 ?_
      refine lv_if_ne (tgt := 45) hx hb dX1_follows_29 (by decide) (fun c_29 => ?_) (fun c_29 => ?_)
      · skip
        exact absurd (by decide) c_29
      · skip
        refine lv_aload_n hx hb dX1_follows_32 rfl (lv_at hl 0 rfl) ?_
        refine lv_iload_n hx hb dX1_follows_33 rfl (lv_at hl 1 rfl) ?_
        refine lv_iload_n hx hb dX1_follows_34 rfl (lv_at hl 2 rfl) ?_
        have hPc : va_P (dC, dI) vwCl (gmW h kc f1 f2 of ro fa 0 (nI g) (nI r) x1 x2) _ := hP.sub [0, 1, 2, 3, 4, 5] rfl
        have hKc : va_K (dC, dI) vwCl (gmT kc) s := hK.sub [0, 1, 2, 3, 4] rfl
        have hDc : va_D A (gmW h kc f1 f2 of ro fa 0 (nI g) (nI r) x1 x2) := hD.sub [0, 1, 2, 3, 4, 5] (by decide) rfl
        have hFc := va_free (wc := (gmW h kc f1 f2 of ro fa 0 (nI g) (nI r) x1 x2)) hD hS hA [0, 1, 2, 3, 4, 5] rfl
        refine va_calli (va_runV (As := [.int (nI wa), .int (nI wb)]) (rest := []) ⟨hx, hb, hml, hown, hts⟩ (c_X1_leads l dC dI h kc f1 f2 of ro fa 0 g r x1 x2 K wa wb H.size (by first | assumption | omega) (by first | assumption | omega) (by first | assumption | omega) (by first | assumption | omega) (by first | assumption | omega)) (cwV 2 hts gX1_follows_X1_leads rfl rfl rfl (by decide +kernel) ⟨Nat.le_of_ble_eq_true rfl, Nat.le_of_ble_eq_true rfl⟩) ⟨gcPM_blind, va_recv hK hP (ci := 1) (q0 := 0) rfl rfl, fun U hU hW => ⟨rfl, by rw [hU], by rw [hU]; exact hPc, va_K.moved hW.alike hKc, hDc.weaken (fun _ _ _ _ => trivial)⟩⟩ rfl rfl hl.1 rfl (lv_room (Nat.le_of_ble_eq_true rfl)) dX1_follows_35 ⟨Nat.zero_le _, Nat.zero_le _⟩) hS (fun q _ h => hFc q h) hFc (fun r3 u t H locs ht hvm hw hB hz1 hk1 hS => ?_)
        obtain ⟨ro24, fa25⟩ := u
        obtain ⟨hP1, hD1⟩ := hB
        rw [ht] at hP1
        obtain ⟨hP, hD⟩ := va_join (wr := []) (w1 := (gmW h kc f1 f2 of ro24 fa25 0 (nI g) (nI r) x1 x2)) hP hD [0, 1, 2, 3, 4, 5] [] rfl rfl (by decide) (by decide) hk1 hFc hP1 hD1
        have hP : va_P (dC, dI) vwCl (gmW h kc f1 f2 of ro24 fa25 0 (nI g) (nI r) x1 x2) H := hP.sub [0, 1, 2, 3, 4, 5] rfl
        have hD : va_D A (gmW h kc f1 f2 of ro24 fa25 0 (nI g) (nI r) x1 x2) := hD.sub [0, 1, 2, 3, 4, 5] (by decide) rfl
        have hw : r3 = gB (fo K wa wb) := hw
        subst hw
        clear hw
        clear hz1 hk1 ht hvm hP1 hD1 hFc hDc
        clear hPc hKc
        refine lv_if_eq (tgt := 45) hx hb dX1_follows_38 (by decide) (fun c_38 => ?_) (fun c_38 => ?_)
        · skip
          have c_38 := gB_f c_38
          refine lv_iconst (v := 0) hx hb dX1_follows_45 (by decide) ?_
          have hpost : (0 : Int32) = gB (fo K wa wb) := by simp [gB, c_6, c_14, c_38]
          exact W.zret (ty := .boolean) (v := 0) hx hb hr (by first | rfl | decide | exact gB_nar _) (fun t ht hW => ⟨⟨0, (ro24, fa25), rfl, hpost, ⟨by rw [ht]; exact hP, hD⟩⟩, hS.F ht⟩) hS.2.2 dX1_follows_46
        · skip
          have c_38 := gB_t c_38
          refine lv_iconst (v := 1) hx hb dX1_follows_41 (by decide) ?_
          refine lv_goto (tgt := 46) hx hb dX1_follows_42 (by decide) ?_
          have hpost : (1 : Int32) = gB (fo K wa wb) := by simp [gB, c_6, c_14, c_38]
          exact W.zret (ty := .boolean) (v := 1) hx hb hr (by first | rfl | decide | exact gB_nar _) (fun t ht hW => ⟨⟨1, (ro24, fa25), rfl, hpost, ⟨by rw [ht]; exact hP, hD⟩⟩, hS.F ht⟩) hS.2.2 dX1_follows_46
set_option maxHeartbeats 4000000 in
set_option maxRecDepth 100000 in
theorem c_X1_follows_no (l : Launch) (dC : Nat → ClassId) (dI : Nat → Nat → Nat) (h : Nat → Nat) (kc : Nat → ClassId) (f1 : Nat → Int32) (f2 : Nat → Int32) (of : Nat → Int32) (ro : Nat → Int32) (fa : Nat → Int32) (th : Int32) (g : Nat) (r : Nat) (x1 : Int32) (x2 : Int32) (v1 : Int32) (v2 : Int32) (sz : Nat) (hg : g ≤ 10) (hno : (∀ j : Nat, j < 2 * g → v1 ≠ nI j) ∨ ∀ j : Nat, j < 2 * g → v2 ≠ nI j) : Met l yX1_follows wsX1_follows ({ frames := 2, cells := 0, slots := 0, locals := 43 }) (gcPM (dC, dI) [.ref (h 0), .int v1, .int v2] (gmW h kc f1 f2 of ro fa th (nI g) (nI r) x1 x2) (gmT kc) sz) (va_Qi (fun (rv : Int32) (_u : Unit) => True) (fun _u t9 => va_P (dC, dI) vwCl (gmW h kc f1 f2 of ro fa 1 (nI g) (nI r) x1 x2) t9.heap ∧ va_D (va_A (gmW h kc f1 f2 of ro fa th (nI g) (nI r) x1 x2) sz) (gmW h kc f1 f2 of ro fa 1 (nI g) (nI r) x1 x2)) (va_A (gmW h kc f1 f2 of ro fa th (nI g) (nI r) x1 x2) sz)) 0 0 (va_A (gmW h kc f1 f2 of ro fa th (nI g) (nI r) x1 x2) sz) := by
  refine Met.ofW (cc := cX1_follows) (maxL := 3) (ret := (some .boolean)) (by decide) rfl ?_
  intro p e s m args below meth c s₁ B hml hv
  obtain ⟨rfl, hsz, hP, hK, hD0⟩ := hv
  have hx := B.exec
  have hb := B.bytes
  have hr := B.returns
  have hts := atoms_spec (ws := wsX1_follows) B.pre
  have hown : s.vm.findClass RX1 = some m.cls := findClass_of_methodNamed B.named
  have hlocks := B.notSynchronized
  subst hsz
  have hD := hD0.self (sz := s.heap.size)
  generalize hAe : va_A (gmW h kc f1 f2 of ro fa th (nI g) (nI r) x1 x2) s.heap.size = A at hD ⊢
  have hA : ∀ q : Nat, s.heap.size ≤ q → A q := fun q h => by rw [← hAe]; exact Or.inr h
  have hS : va_S A s.heap s.heap [] := va_S.rf
  have hP : va_P (dC, dI) vwCl (gmW h kc f1 f2 of ro fa th (nI g) (nI r) x1 x2) s.heap := hP
  have hin1 : ∀ w ∈ wsX10, w ∈ wsX1_follows := by decide +kernel
  have hl := lv_entry [.ref (h 0), .int v1, .int v2] (n := 3) (Nat.le_of_ble_eq_true rfl)
  rw [lg_entry_eq]
  generalize (lg_sl [.ref (h 0), .int v1, .int v2] ++ List.replicate (3 - (lg_sl [.ref (h 0), .int v1, .int v2]).length) Slot.unset).toArray = ls at hl ⊢
  have hl : lv_has ls 3 [(0, .ref (h 0)), (1, .int v1), (2, .int v2)] := hl
  refine lv_aload_n hx hb dX1_follows_0 rfl (lv_at hl 0 rfl) ?_
  refine lv_aload_n hx hb dX1_follows_1 rfl (lv_at hl 0 rfl) ?_
  refine lv_iload_n hx hb dX1_follows_2 rfl (lv_at hl 1 rfl) ?_
  have hPc : va_P (dC, dI) vwCl (gmW h kc f1 f2 of ro fa th (nI g) (nI r) x1 x2) _ := hP.sub [0, 1, 2, 3, 4, 5] rfl
  have hKc : va_K (dC, dI) vwCl (gmT kc) s := hK.sub [0, 1, 2, 3, 4] rfl
  refine va_calli (va_runV (As := [.int v1]) (rest := [.ref (h 0)]) ⟨hx, hb, hml, hown, hts⟩ (c_X1_isWish l dC dI h kc f1 f2 of ro fa th g r x1 x2 v1) (cwV 1 hts gX1_follows_X1_isWish rfl rfl rfl (by decide +kernel) ⟨Nat.le_of_ble_eq_true rfl, Nat.le_of_ble_eq_true rfl⟩) ⟨gcPR_blind, va_recv hK hP (ci := 1) (q0 := 0) rfl rfl, fun U hU hW => ⟨rfl, by rw [hU]; exact hPc, va_K.moved hW.alike hKc⟩⟩ rfl rfl hl.1 rfl (lv_room (Nat.le_of_ble_eq_true rfl)) dX1_follows_3 ⟨Nat.zero_le _, Nat.zero_le _⟩) hS (fun q _ h => h.elim) (fun q h => h.elim) (fun r1 u t H locs ht hvm hw hB hz1 hk1 hS => ?_)
  have hP := gc_keep hP hk1
  have hw : r1 = gB (mIn v1 0 (nI (2 * g) - 1)) := hw
  subst hw
  clear hw
  clear hB hz1 hk1 ht hvm
  clear hPc hKc
  refine lv_if_eq (tgt := 21) hx hb dX1_follows_6 (by decide) (fun c_6 => ?_) (fun c_6 => ?_)
  · skip
    have c_6 := gB_f c_6
    refine lv_iconst (v := 1) hx hb dX1_follows_21 (by decide) ?_
    refine va_put (D := (dC, dI)) (ci := 1) (v := .int 1) (ty := .int) (C := RX1) (T := TX1) (N := 10) hx hb hts hin1 tyX1 tyX1_ok nmX1 hown hK hP hD hS 0 rfl rfl 0 (by decide) (hts (.fieldLink RX1 33 "GuestChairsModel" "thrown" "I") (by decide +kernel)) (fun _ h9 => h9) rfl (by decide +kernel) rfl rfl (Nat.le_of_ble_eq_true rfl) dX1_follows_22 (fun H locs hP hD hS => ?_)
    have hP : va_P (dC, dI) vwCl (gmW h kc f1 f2 of ro fa 1 (nI g) (nI r) x1 x2) H := hP
    have hD : va_D A (gmW h kc f1 f2 of ro fa 1 (nI g) (nI r) x1 x2) := hD
    refine lv_aload_n hx hb dX1_follows_25 rfl (lv_at hl 0 rfl) ?_
    refine va_get (D := (dC, dI)) (ci := 1) (v := .int 1) (C := RX1) (T := TX1) (N := 10) hx hb hts hin1 hown hK hP 0 rfl rfl 0 (by decide) (hts (.fieldLink RX1 33 "GuestChairsModel" "thrown" "I") (by decide +kernel)) (fun _ h9 => h9) rfl dX1_follows_26 ?_
    refine lv_if_ne (tgt := 45) hx hb dX1_follows_29 (by decide) (fun c_29 => ?_) (fun c_29 => ?_)
    · skip
      refine lv_iconst (v := 0) hx hb dX1_follows_45 (by decide) ?_
      have hpost : True := trivial
      exact W.zret (ty := .boolean) (v := 0) hx hb hr (by first | rfl | decide | exact gB_nar _) (fun t ht hW => ⟨⟨0, (), rfl, hpost, ⟨by rw [ht]; exact hP, hD⟩⟩, hS.F ht⟩) hS.2.2 dX1_follows_46
    · skip
      exact absurd c_29 (by decide)
  · skip
    have c_6 := gB_t c_6
    refine lv_aload_n hx hb dX1_follows_9 rfl (lv_at hl 0 rfl) ?_
    refine lv_iload_n hx hb dX1_follows_10 rfl (lv_at hl 2 rfl) ?_
    have hPc : va_P (dC, dI) vwCl (gmW h kc f1 f2 of ro fa th (nI g) (nI r) x1 x2) _ := hP.sub [0, 1, 2, 3, 4, 5] rfl
    have hKc : va_K (dC, dI) vwCl (gmT kc) s := hK.sub [0, 1, 2, 3, 4] rfl
    refine va_calli (va_runV (As := [.int v2]) (rest := [.ref (h 0)]) ⟨hx, hb, hml, hown, hts⟩ (c_X1_isWish l dC dI h kc f1 f2 of ro fa th g r x1 x2 v2) (cwV 1 hts gX1_follows_X1_isWish rfl rfl rfl (by decide +kernel) ⟨Nat.le_of_ble_eq_true rfl, Nat.le_of_ble_eq_true rfl⟩) ⟨gcPR_blind, va_recv hK hP (ci := 1) (q0 := 0) rfl rfl, fun U hU hW => ⟨rfl, by rw [hU]; exact hPc, va_K.moved hW.alike hKc⟩⟩ rfl rfl hl.1 rfl (lv_room (Nat.le_of_ble_eq_true rfl)) dX1_follows_11 ⟨Nat.zero_le _, Nat.zero_le _⟩) hS (fun q _ h => h.elim) (fun q h => h.elim) (fun r2 u t H locs ht hvm hw hB hz1 hk1 hS => ?_)
    have hP := gc_keep hP hk1
    have hw : r2 = gB (mIn v2 0 (nI (2 * g) - 1)) := hw
    subst hw
    clear hw
    clear hB hz1 hk1 ht hvm
    clear hPc hKc
    refine lv_if_eq (tgt := 21) hx hb dX1_follows_14 (by decide) (fun c_14 => ?_) (fun c_14 => ?_)
    · skip
      have c_14 := gB_f c_14
      refine lv_iconst (v := 1) hx hb dX1_follows_21 (by decide) ?_
      refine va_put (D := (dC, dI)) (ci := 1) (v := .int 1) (ty := .int) (C := RX1) (T := TX1) (N := 10) hx hb hts hin1 tyX1 tyX1_ok nmX1 hown hK hP hD hS 0 rfl rfl 0 (by decide) (hts (.fieldLink RX1 33 "GuestChairsModel" "thrown" "I") (by decide +kernel)) (fun _ h9 => h9) rfl (by decide +kernel) rfl rfl (Nat.le_of_ble_eq_true rfl) dX1_follows_22 (fun H locs hP hD hS => ?_)
      have hP : va_P (dC, dI) vwCl (gmW h kc f1 f2 of ro fa 1 (nI g) (nI r) x1 x2) H := hP
      have hD : va_D A (gmW h kc f1 f2 of ro fa 1 (nI g) (nI r) x1 x2) := hD
      refine lv_aload_n hx hb dX1_follows_25 rfl (lv_at hl 0 rfl) ?_
      refine va_get (D := (dC, dI)) (ci := 1) (v := .int 1) (C := RX1) (T := TX1) (N := 10) hx hb hts hin1 hown hK hP 0 rfl rfl 0 (by decide) (hts (.fieldLink RX1 33 "GuestChairsModel" "thrown" "I") (by decide +kernel)) (fun _ h9 => h9) rfl dX1_follows_26 ?_
      refine lv_if_ne (tgt := 45) hx hb dX1_follows_29 (by decide) (fun c_29 => ?_) (fun c_29 => ?_)
      · skip
        refine lv_iconst (v := 0) hx hb dX1_follows_45 (by decide) ?_
        have hpost : True := trivial
        exact W.zret (ty := .boolean) (v := 0) hx hb hr (by first | rfl | decide | exact gB_nar _) (fun t ht hW => ⟨⟨0, (), rfl, hpost, ⟨by rw [ht]; exact hP, hD⟩⟩, hS.F ht⟩) hS.2.2 dX1_follows_46
      · skip
        exact absurd c_29 (by decide)
    · skip
      have c_14 := gB_t c_14
      rcases hno with q | q <;> exact absurd (mIn_no (by omega) q) (by first | (rw [c_6]; decide) | (rw [c_14]; decide))
set_option maxHeartbeats 4000000 in
set_option maxRecDepth 100000 in
theorem c_X1_reach (l : Launch) (dC : Nat → ClassId) (dI : Nat → Nat → Nat) (h : Nat → Nat) (kc : Nat → ClassId) (f1 : Nat → Int32) (f2 : Nat → Int32) (of : Nat → Int32) (ro : Nat → Int32) (fa : Nat → Int32) (th : Int32) (g : Nat) (r : Nat) (x1 : Int32) (x2 : Int32) (K : Bk) (wa : Nat) (sz : Nat) (hBk : mOK K g r f1 f2 of) (hg : g ≤ 10) (hr30 : r ≤ 30) (ha : wa < 2 * g) : Met l yX1_reach wsX1_reach ({ frames := 3, cells := 0, slots := 0, locals := 71 }) (gcPM (dC, dI) [.ref (h 0), .int (nI wa)] (gmW h kc f1 f2 of ro fa th (nI g) (nI r) x1 x2) (gmT kc) sz) (va_Qi (fun (rv : Int32) (u : (Nat → Int32) × (Nat → Int32)) => (match u with | (ro2, fa2) => rv = mRe K wa (2 * g))) (fun u t9 => va_P (dC, dI) vwCl (match u with | (ro2, fa2) => (gmW h kc f1 f2 of ro2 fa2 0 (nI g) (nI r) x1 x2)) t9.heap ∧ va_D (va_A (gmW h kc f1 f2 of ro fa th (nI g) (nI r) x1 x2) sz) (match u with | (ro2, fa2) => (gmW h kc f1 f2 of ro2 fa2 0 (nI g) (nI r) x1 x2))) (va_A (gmW h kc f1 f2 of ro fa th (nI g) (nI r) x1 x2) sz)) 0 0 (va_A (gmW h kc f1 f2 of ro fa th (nI g) (nI r) x1 x2) sz) := by
  refine Met.ofW (cc := cX1_reach) (maxL := 2) (ret := (some .int)) (by decide) rfl ?_
  intro p e s m args below meth c s₁ B hml hv
  obtain ⟨rfl, hsz, hP, hK, hD0⟩ := hv
  have hx := B.exec
  have hb := B.bytes
  have hr := B.returns
  have hts := atoms_spec (ws := wsX1_reach) B.pre
  have hown : s.vm.findClass RX1 = some m.cls := findClass_of_methodNamed B.named
  have hlocks := B.notSynchronized
  subst hsz
  have hD := hD0.self (sz := s.heap.size)
  generalize hAe : va_A (gmW h kc f1 f2 of ro fa th (nI g) (nI r) x1 x2) s.heap.size = A at hD ⊢
  have hA : ∀ q : Nat, s.heap.size ≤ q → A q := fun q h => by rw [← hAe]; exact Or.inr h
  have hS : va_S A s.heap s.heap [] := va_S.rf
  have hP : va_P (dC, dI) vwCl (gmW h kc f1 f2 of ro fa th (nI g) (nI r) x1 x2) s.heap := hP
  have hin1 : ∀ w ∈ wsX10, w ∈ wsX1_reach := by decide +kernel
  have hl := lv_entry [.ref (h 0), .int (nI wa)] (n := 2) (Nat.le_of_ble_eq_true rfl)
  rw [lg_entry_eq]
  generalize (lg_sl [.ref (h 0), .int (nI wa)] ++ List.replicate (2 - (lg_sl [.ref (h 0), .int (nI wa)]).length) Slot.unset).toArray = ls at hl ⊢
  have hl : lv_has ls 2 [(0, .ref (h 0)), (1, .int (nI wa))] := hl
  refine lv_aload_n hx hb dX1_reach_0 rfl (lv_at hl 0 rfl) ?_
  refine lv_iconst (v := 0) hx hb dX1_reach_1 (by decide) ?_
  refine va_put (D := (dC, dI)) (ci := 1) (v := .int 0) (ty := .int) (C := RX1) (T := TX1) (N := 10) hx hb hts hin1 tyX1 tyX1_ok nmX1 hown hK hP hD hS 0 rfl rfl 0 (by decide) (hts (.fieldLink RX1 33 "GuestChairsModel" "thrown" "I") (by decide +kernel)) (fun _ h9 => h9) rfl (by decide +kernel) rfl rfl (Nat.le_of_ble_eq_true rfl) dX1_reach_2 (fun H locs hP hD hS => ?_)
  have hP : va_P (dC, dI) vwCl (gmW h kc f1 f2 of ro fa 0 (nI g) (nI r) x1 x2) H := hP
  have hD : va_D A (gmW h kc f1 f2 of ro fa 0 (nI g) (nI r) x1 x2) := hD
  refine lv_aload_n hx hb dX1_reach_5 rfl (lv_at hl 0 rfl) ?_
  refine lv_iload_n hx hb dX1_reach_6 rfl (lv_at hl 1 rfl) ?_
  have hPc : va_P (dC, dI) vwCl (gmW h kc f1 f2 of ro fa 0 (nI g) (nI r) x1 x2) _ := hP.sub [0, 1, 2, 3, 4, 5] rfl
  have hKc : va_K (dC, dI) vwCl (gmT kc) s := hK.sub [0, 1, 2, 3, 4] rfl
  refine va_calli (va_runV (As := [.int (nI wa)]) (rest := []) ⟨hx, hb, hml, hown, hts⟩ (c_X1_isWish l dC dI h kc f1 f2 of ro fa 0 g r x1 x2 (nI wa)) (cwV 1 hts gX1_reach_X1_isWish rfl rfl rfl (by decide +kernel) ⟨Nat.le_of_ble_eq_true rfl, Nat.le_of_ble_eq_true rfl⟩) ⟨gcPR_blind, va_recv hK hP (ci := 1) (q0 := 0) rfl rfl, fun U hU hW => ⟨rfl, by rw [hU]; exact hPc, va_K.moved hW.alike hKc⟩⟩ rfl rfl hl.1 rfl (lv_room (Nat.le_of_ble_eq_true rfl)) dX1_reach_7 ⟨Nat.zero_le _, Nat.zero_le _⟩) hS (fun q _ h => h.elim) (fun q h => h.elim) (fun r1 u t H locs ht hvm hw hB hz1 hk1 hS => ?_)
  have hP := gc_keep hP hk1
  have hw : r1 = gB (mIn (nI wa) 0 (nI (2 * g) - 1)) := hw
  subst hw
  clear hw
  clear hB hz1 hk1 ht hvm
  clear hPc hKc
  refine lv_if_eq (tgt := 21) hx hb dX1_reach_10 (by decide) (fun c_10 => ?_) (fun c_10 => ?_)
  · skip
    have c_10 := gB_f c_10
    exact absurd (mIn_ok (j := wa) (n := 2 * g) (by omega) (by omega)) (by rw [c_10]; decide)
  · skip
    have c_10 := gB_t c_10
    refine lv_aload_n hx hb dX1_reach_13 rfl (lv_at hl 0 rfl) ?_
    refine lv_iload_n hx hb dX1_reach_14 rfl (lv_at hl 1 rfl) ?_
    have hPc : va_P (dC, dI) vwCl (gmW h kc f1 f2 of ro fa 0 (nI g) (nI r) x1 x2) _ := hP.sub [0, 1, 2, 3, 4, 5] rfl
    have hKc : va_K (dC, dI) vwCl (gmT kc) s := hK.sub [0, 1, 2, 3, 4] rfl
    have hDc : va_D A (gmW h kc f1 f2 of ro fa 0 (nI g) (nI r) x1 x2) := hD.sub [0, 1, 2, 3, 4, 5] (by decide) rfl
    have hFc := va_free (wc := (gmW h kc f1 f2 of ro fa 0 (nI g) (nI r) x1 x2)) hD hS hA [0, 1, 2, 3, 4, 5] rfl
    refine va_calli (va_runV (As := [.int (nI wa)]) (rest := []) ⟨hx, hb, hml, hown, hts⟩ (c_X1_reachOf l dC dI h kc f1 f2 of ro fa 0 g r x1 x2 K wa H.size (by first | assumption | omega) (by first | assumption | omega) (by first | assumption | omega) (by first | assumption | omega)) (cwV 1 hts gX1_reach_X1_reachOf rfl rfl rfl (by decide +kernel) ⟨Nat.le_of_ble_eq_true rfl, Nat.le_of_ble_eq_true rfl⟩) ⟨gcPM_blind, va_recv hK hP (ci := 1) (q0 := 0) rfl rfl, fun U hU hW => ⟨rfl, by rw [hU], by rw [hU]; exact hPc, va_K.moved hW.alike hKc, hDc.weaken (fun _ _ _ _ => trivial)⟩⟩ rfl rfl hl.1 rfl (lv_room (Nat.le_of_ble_eq_true rfl)) dX1_reach_15 ⟨Nat.zero_le _, Nat.zero_le _⟩) hS (fun q _ h => hFc q h) hFc (fun r2 u t H locs ht hvm hw hB hz1 hk1 hS => ?_)
    obtain ⟨ro23, fa24⟩ := u
    obtain ⟨hP1, hD1⟩ := hB
    rw [ht] at hP1
    obtain ⟨hP, hD⟩ := va_join (wr := []) (w1 := (gmW h kc f1 f2 of ro23 fa24 0 (nI g) (nI r) x1 x2)) hP hD [0, 1, 2, 3, 4, 5] [] rfl rfl (by decide) (by decide) hk1 hFc hP1 hD1
    have hP : va_P (dC, dI) vwCl (gmW h kc f1 f2 of ro23 fa24 0 (nI g) (nI r) x1 x2) H := hP.sub [0, 1, 2, 3, 4, 5] rfl
    have hD : va_D A (gmW h kc f1 f2 of ro23 fa24 0 (nI g) (nI r) x1 x2) := hD.sub [0, 1, 2, 3, 4, 5] (by decide) rfl
    have hw : r2 = mRe K wa (2 * g) := hw
    subst hw
    clear hw
    clear hz1 hk1 ht hvm hP1 hD1 hFc hDc
    clear hPc hKc
    refine lv_goto (tgt := 26) hx hb dX1_reach_18 (by decide) ?_
    have hpost : (mRe K wa (2 * g)) = mRe K wa (2 * g) := by first | rfl | assumption
    exact W.iret (v := mRe K wa (2 * g)) hx hb hr (fun t ht hW => ⟨⟨mRe K wa (2 * g), (ro23, fa24), rfl, hpost, ⟨by rw [ht]; exact hP, hD⟩⟩, hS.F ht⟩) hS.2.2 dX1_reach_26
set_option maxHeartbeats 4000000 in
set_option maxRecDepth 100000 in
theorem c_X1_reach_no (l : Launch) (dC : Nat → ClassId) (dI : Nat → Nat → Nat) (h : Nat → Nat) (kc : Nat → ClassId) (f1 : Nat → Int32) (f2 : Nat → Int32) (of : Nat → Int32) (ro : Nat → Int32) (fa : Nat → Int32) (th : Int32) (g : Nat) (r : Nat) (x1 : Int32) (x2 : Int32) (v : Int32) (sz : Nat) (hg : g ≤ 10) (hno : ∀ j : Nat, j < 2 * g → v ≠ nI j) : Met l yX1_reach wsX1_reach ({ frames := 2, cells := 0, slots := 0, locals := 43 }) (gcPM (dC, dI) [.ref (h 0), .int v] (gmW h kc f1 f2 of ro fa th (nI g) (nI r) x1 x2) (gmT kc) sz) (va_Qi (fun (rv : Int32) (_u : Unit) => True) (fun _u t9 => va_P (dC, dI) vwCl (gmW h kc f1 f2 of ro fa 1 (nI g) (nI r) x1 x2) t9.heap ∧ va_D (va_A (gmW h kc f1 f2 of ro fa th (nI g) (nI r) x1 x2) sz) (gmW h kc f1 f2 of ro fa 1 (nI g) (nI r) x1 x2)) (va_A (gmW h kc f1 f2 of ro fa th (nI g) (nI r) x1 x2) sz)) 0 0 (va_A (gmW h kc f1 f2 of ro fa th (nI g) (nI r) x1 x2) sz) := by
  refine Met.ofW (cc := cX1_reach) (maxL := 2) (ret := (some .int)) (by decide) rfl ?_
  intro p e s m args below meth c s₁ B hml hv
  obtain ⟨rfl, hsz, hP, hK, hD0⟩ := hv
  have hx := B.exec
  have hb := B.bytes
  have hr := B.returns
  have hts := atoms_spec (ws := wsX1_reach) B.pre
  have hown : s.vm.findClass RX1 = some m.cls := findClass_of_methodNamed B.named
  have hlocks := B.notSynchronized
  subst hsz
  have hD := hD0.self (sz := s.heap.size)
  generalize hAe : va_A (gmW h kc f1 f2 of ro fa th (nI g) (nI r) x1 x2) s.heap.size = A at hD ⊢
  have hA : ∀ q : Nat, s.heap.size ≤ q → A q := fun q h => by rw [← hAe]; exact Or.inr h
  have hS : va_S A s.heap s.heap [] := va_S.rf
  have hP : va_P (dC, dI) vwCl (gmW h kc f1 f2 of ro fa th (nI g) (nI r) x1 x2) s.heap := hP
  have hin1 : ∀ w ∈ wsX10, w ∈ wsX1_reach := by decide +kernel
  have hl := lv_entry [.ref (h 0), .int v] (n := 2) (Nat.le_of_ble_eq_true rfl)
  rw [lg_entry_eq]
  generalize (lg_sl [.ref (h 0), .int v] ++ List.replicate (2 - (lg_sl [.ref (h 0), .int v]).length) Slot.unset).toArray = ls at hl ⊢
  have hl : lv_has ls 2 [(0, .ref (h 0)), (1, .int v)] := hl
  refine lv_aload_n hx hb dX1_reach_0 rfl (lv_at hl 0 rfl) ?_
  refine lv_iconst (v := 0) hx hb dX1_reach_1 (by decide) ?_
  refine va_put (D := (dC, dI)) (ci := 1) (v := .int 0) (ty := .int) (C := RX1) (T := TX1) (N := 10) hx hb hts hin1 tyX1 tyX1_ok nmX1 hown hK hP hD hS 0 rfl rfl 0 (by decide) (hts (.fieldLink RX1 33 "GuestChairsModel" "thrown" "I") (by decide +kernel)) (fun _ h9 => h9) rfl (by decide +kernel) rfl rfl (Nat.le_of_ble_eq_true rfl) dX1_reach_2 (fun H locs hP hD hS => ?_)
  have hP : va_P (dC, dI) vwCl (gmW h kc f1 f2 of ro fa 0 (nI g) (nI r) x1 x2) H := hP
  have hD : va_D A (gmW h kc f1 f2 of ro fa 0 (nI g) (nI r) x1 x2) := hD
  refine lv_aload_n hx hb dX1_reach_5 rfl (lv_at hl 0 rfl) ?_
  refine lv_iload_n hx hb dX1_reach_6 rfl (lv_at hl 1 rfl) ?_
  have hPc : va_P (dC, dI) vwCl (gmW h kc f1 f2 of ro fa 0 (nI g) (nI r) x1 x2) _ := hP.sub [0, 1, 2, 3, 4, 5] rfl
  have hKc : va_K (dC, dI) vwCl (gmT kc) s := hK.sub [0, 1, 2, 3, 4] rfl
  refine va_calli (va_runV (As := [.int v]) (rest := []) ⟨hx, hb, hml, hown, hts⟩ (c_X1_isWish l dC dI h kc f1 f2 of ro fa 0 g r x1 x2 v) (cwV 1 hts gX1_reach_X1_isWish rfl rfl rfl (by decide +kernel) ⟨Nat.le_of_ble_eq_true rfl, Nat.le_of_ble_eq_true rfl⟩) ⟨gcPR_blind, va_recv hK hP (ci := 1) (q0 := 0) rfl rfl, fun U hU hW => ⟨rfl, by rw [hU]; exact hPc, va_K.moved hW.alike hKc⟩⟩ rfl rfl hl.1 rfl (lv_room (Nat.le_of_ble_eq_true rfl)) dX1_reach_7 ⟨Nat.zero_le _, Nat.zero_le _⟩) hS (fun q _ h => h.elim) (fun q h => h.elim) (fun r1 u t H locs ht hvm hw hB hz1 hk1 hS => ?_)
  have hP := gc_keep hP hk1
  have hw : r1 = gB (mIn v 0 (nI (2 * g) - 1)) := hw
  subst hw
  clear hw
  clear hB hz1 hk1 ht hvm
  clear hPc hKc
  refine lv_if_eq (tgt := 21) hx hb dX1_reach_10 (by decide) (fun c_10 => ?_) (fun c_10 => ?_)
  · skip
    have c_10 := gB_f c_10
    refine lv_aload_n hx hb dX1_reach_21 rfl (lv_at hl 0 rfl) ?_
    refine lv_iconst (v := 1) hx hb dX1_reach_22 (by decide) ?_
    have hPc : va_P (dC, dI) vwCl (gmW h kc f1 f2 of ro fa 0 (nI g) (nI r) x1 x2) _ := hP.sub [0, 1, 2, 3, 4, 5] rfl
    have hKc : va_K (dC, dI) vwCl (gmT kc) s := hK.sub [0, 1, 2, 3, 4] rfl
    have hDc : va_D A (gmW h kc f1 f2 of ro fa 0 (nI g) (nI r) x1 x2) := hD.sub [0, 1, 2, 3, 4, 5] (by decide) rfl
    have hFc := va_free (wc := (gmW h kc f1 f2 of ro fa 0 (nI g) (nI r) x1 x2)) hD hS hA [0, 1, 2, 3, 4, 5] rfl
    refine va_calli (va_runV (As := [.int 1]) (rest := []) ⟨hx, hb, hml, hown, hts⟩ (c_X1_fail l dC dI h kc f1 f2 of ro fa 0 g r x1 x2 1 H.size) (cwV 1 hts gX1_reach_X1_fail rfl rfl rfl (by decide +kernel) ⟨Nat.le_of_ble_eq_true rfl, Nat.le_of_ble_eq_true rfl⟩) ⟨gcPM_blind, va_recv hK hP (ci := 1) (q0 := 0) rfl rfl, fun U hU hW => ⟨rfl, by rw [hU], by rw [hU]; exact hPc, va_K.moved hW.alike hKc, hDc.weaken (fun _ _ _ _ => trivial)⟩⟩ rfl rfl hl.1 rfl (lv_room (Nat.le_of_ble_eq_true rfl)) dX1_reach_23 ⟨Nat.zero_le _, Nat.zero_le _⟩) hS (fun q _ h => hFc q h) hFc (fun r2 u t H locs ht hvm hw hB hz1 hk1 hS => ?_)
    obtain ⟨hP1, hD1⟩ := hB
    rw [ht] at hP1
    obtain ⟨hP, hD⟩ := va_join (wr := []) (w1 := (gmW h kc f1 f2 of ro fa 1 (nI g) (nI r) x1 x2)) hP hD [0, 1, 2, 3, 4, 5] [] rfl rfl (by decide) (by decide) hk1 hFc hP1 hD1
    have hP : va_P (dC, dI) vwCl (gmW h kc f1 f2 of ro fa 1 (nI g) (nI r) x1 x2) H := hP.sub [0, 1, 2, 3, 4, 5] rfl
    have hD : va_D A (gmW h kc f1 f2 of ro fa 1 (nI g) (nI r) x1 x2) := hD.sub [0, 1, 2, 3, 4, 5] (by decide) rfl
    have hw : r2 = 0 := hw
    subst hw
    clear hw
    clear hz1 hk1 ht hvm hP1 hD1 hFc hDc
    clear hPc hKc
    have hpost : True := trivial
    exact W.iret (v := 0) hx hb hr (fun t ht hW => ⟨⟨0, (), rfl, hpost, ⟨by rw [ht]; exact hP, hD⟩⟩, hS.F ht⟩) hS.2.2 dX1_reach_26
  · skip
    have c_10 := gB_t c_10
    exact absurd c_10 (by rw [mIn_no (by omega) hno]; decide)
set_option maxHeartbeats 4000000 in
set_option maxRecDepth 100000 in
theorem c_X1_invite (l : Launch) (dC : Nat → ClassId) (dI : Nat → Nat → Nat) (h : Nat → Nat) (kc : Nat → ClassId) (f1 : Nat → Int32) (f2 : Nat → Int32) (of : Nat → Int32) (ro : Nat → Int32) (fa : Nat → Int32) (th : Int32) (g : Nat) (r : Nat) (x1 : Int32) (x2 : Int32) (sz : Nat) (hg9 : g < 10) : Met l yX1_invite wsX1_invite ({ frames := 0, cells := 0, slots := 0, locals := 0 }) (gcPM (dC, dI) [.ref (h 0)] (gmW h kc f1 f2 of ro fa th (nI g) (nI r) x1 x2) (gmT kc) sz) (va_Qi (fun (rv : Int32) (_u : Unit) => rv = nI g) (fun _u t9 => va_P (dC, dI) vwCl (gmW h kc f1 f2 of ro fa 0 (nI (g + 1)) (nI r) x1 x2) t9.heap ∧ va_D (va_A (gmW h kc f1 f2 of ro fa th (nI g) (nI r) x1 x2) sz) (gmW h kc f1 f2 of ro fa 0 (nI (g + 1)) (nI r) x1 x2)) (va_A (gmW h kc f1 f2 of ro fa th (nI g) (nI r) x1 x2) sz)) 0 0 (va_A (gmW h kc f1 f2 of ro fa th (nI g) (nI r) x1 x2) sz) := by
  refine Met.ofW (cc := cX1_invite) (maxL := 1) (ret := (some .int)) (by decide) rfl ?_
  intro p e s m args below meth c s₁ B hml hv
  obtain ⟨rfl, hsz, hP, hK, hD0⟩ := hv
  have hx := B.exec
  have hb := B.bytes
  have hr := B.returns
  have hts := atoms_spec (ws := wsX1_invite) B.pre
  have hown : s.vm.findClass RX1 = some m.cls := findClass_of_methodNamed B.named
  have hlocks := B.notSynchronized
  subst hsz
  have hD := hD0.self (sz := s.heap.size)
  generalize hAe : va_A (gmW h kc f1 f2 of ro fa th (nI g) (nI r) x1 x2) s.heap.size = A at hD ⊢
  have hA : ∀ q : Nat, s.heap.size ≤ q → A q := fun q h => by rw [← hAe]; exact Or.inr h
  have hS : va_S A s.heap s.heap [] := va_S.rf
  have hP : va_P (dC, dI) vwCl (gmW h kc f1 f2 of ro fa th (nI g) (nI r) x1 x2) s.heap := hP
  have hin1 : ∀ w ∈ wsX10, w ∈ wsX1_invite := by decide +kernel
  have hl := lv_entry [.ref (h 0)] (n := 1) (Nat.le_of_ble_eq_true rfl)
  rw [lg_entry_eq]
  generalize (lg_sl [.ref (h 0)] ++ List.replicate (1 - (lg_sl [.ref (h 0)]).length) Slot.unset).toArray = ls at hl ⊢
  have hl : lv_has ls 1 [(0, .ref (h 0))] := hl
  refine lv_aload_n hx hb dX1_invite_0 rfl (lv_at hl 0 rfl) ?_
  refine lv_iconst (v := 0) hx hb dX1_invite_1 (by decide) ?_
  refine va_put (D := (dC, dI)) (ci := 1) (v := .int 0) (ty := .int) (C := RX1) (T := TX1) (N := 10) hx hb hts hin1 tyX1 tyX1_ok nmX1 hown hK hP hD hS 0 rfl rfl 0 (by decide) (hts (.fieldLink RX1 33 "GuestChairsModel" "thrown" "I") (by decide +kernel)) (fun _ h9 => h9) rfl (by decide +kernel) rfl rfl (Nat.le_of_ble_eq_true rfl) dX1_invite_2 (fun H locs hP hD hS => ?_)
  have hP : va_P (dC, dI) vwCl (gmW h kc f1 f2 of ro fa 0 (nI g) (nI r) x1 x2) H := hP
  have hD : va_D A (gmW h kc f1 f2 of ro fa 0 (nI g) (nI r) x1 x2) := hD
  refine lv_aload_n hx hb dX1_invite_5 rfl (lv_at hl 0 rfl) ?_
  refine va_get (D := (dC, dI)) (ci := 1) (v := .int (nI g)) (C := RX1) (T := TX1) (N := 10) hx hb hts hin1 hown hK hP 0 rfl rfl 1 (by decide) (hts (.fieldLink RX1 36 "GuestChairsModel" "guests" "I") (by decide +kernel)) (fun _ h9 => h9) rfl dX1_invite_6 ?_
  refine lv_bipush (v := 10) hx hb dX1_invite_9 (by decide) ?_
  refine lv_icmp_ne (tgt := 20) hx hb dX1_invite_11 (by decide) (fun c_11 => ?_) (fun c_11 => ?_)
  · skip
    refine lv_aload_n hx hb dX1_invite_20 rfl (lv_at hl 0 rfl) ?_
    refine lv_dup hx hb dX1_invite_21 rfl ?_
    refine va_get (D := (dC, dI)) (ci := 1) (v := .int (nI g)) (C := RX1) (T := TX1) (N := 10) hx hb hts hin1 hown hK hP 0 rfl rfl 1 (by decide) (hts (.fieldLink RX1 36 "GuestChairsModel" "guests" "I") (by decide +kernel)) (fun _ h9 => h9) rfl dX1_invite_22 ?_
    refine lv_iconst (v := 1) hx hb dX1_invite_25 (by decide) ?_
    refine lv_iadd hx hb dX1_invite_26 ?_
    refine gc_topi (y := nI (g + 1)) (nI_1 g) ?_
    refine va_put (D := (dC, dI)) (ci := 1) (v := .int (nI (g + 1))) (ty := .int) (C := RX1) (T := TX1) (N := 10) hx hb hts hin1 tyX1 tyX1_ok nmX1 hown hK hP hD hS 0 rfl rfl 1 (by decide) (hts (.fieldLink RX1 36 "GuestChairsModel" "guests" "I") (by decide +kernel)) (fun _ h9 => h9) rfl (by decide +kernel) rfl rfl (Nat.le_of_ble_eq_true rfl) dX1_invite_27 (fun H locs hP hD hS => ?_)
    have hP : va_P (dC, dI) vwCl (gmW h kc f1 f2 of ro fa 0 (nI (g + 1)) (nI r) x1 x2) H := hP
    have hD : va_D A (gmW h kc f1 f2 of ro fa 0 (nI (g + 1)) (nI r) x1 x2) := hD
    refine lv_aload_n hx hb dX1_invite_30 rfl (lv_at hl 0 rfl) ?_
    refine va_get (D := (dC, dI)) (ci := 1) (v := .int (nI (g + 1))) (C := RX1) (T := TX1) (N := 10) hx hb hts hin1 hown hK hP 0 rfl rfl 1 (by decide) (hts (.fieldLink RX1 36 "GuestChairsModel" "guests" "I") (by decide +kernel)) (fun _ h9 => h9) rfl dX1_invite_31 ?_
    refine lv_iconst (v := 1) hx hb dX1_invite_34 (by decide) ?_
    refine lv_isub hx hb dX1_invite_35 ?_
    refine gc_topi (y := nI g) (nI_pred g) ?_
    have hpost : (nI g) = nI g := by first | rfl | assumption
    exact W.iret (v := nI g) hx hb hr (fun t ht hW => ⟨⟨nI g, (), rfl, hpost, ⟨by rw [ht]; exact hP, hD⟩⟩, hS.F ht⟩) hS.2.2 dX1_invite_36
  · skip
    exact absurd ((nI_eq (b := 10) (by omega) (by omega)).mp c_11) (by omega)
set_option maxHeartbeats 4000000 in
set_option maxRecDepth 100000 in
theorem c_X1_invite_no (l : Launch) (dC : Nat → ClassId) (dI : Nat → Nat → Nat) (h : Nat → Nat) (kc : Nat → ClassId) (f1 : Nat → Int32) (f2 : Nat → Int32) (of : Nat → Int32) (ro : Nat → Int32) (fa : Nat → Int32) (th : Int32) (g : Nat) (r : Nat) (x1 : Int32) (x2 : Int32) (sz : Nat) (hg9 : g = 10) : Met l yX1_invite wsX1_invite ({ frames := 1, cells := 0, slots := 0, locals := 21 }) (gcPM (dC, dI) [.ref (h 0)] (gmW h kc f1 f2 of ro fa th (nI g) (nI r) x1 x2) (gmT kc) sz) (va_Qi (fun (rv : Int32) (_u : Unit) => True) (fun _u t9 => va_P (dC, dI) vwCl (gmW h kc f1 f2 of ro fa 1 (nI g) (nI r) x1 x2) t9.heap ∧ va_D (va_A (gmW h kc f1 f2 of ro fa th (nI g) (nI r) x1 x2) sz) (gmW h kc f1 f2 of ro fa 1 (nI g) (nI r) x1 x2)) (va_A (gmW h kc f1 f2 of ro fa th (nI g) (nI r) x1 x2) sz)) 0 0 (va_A (gmW h kc f1 f2 of ro fa th (nI g) (nI r) x1 x2) sz) := by
  refine Met.ofW (cc := cX1_invite) (maxL := 1) (ret := (some .int)) (by decide) rfl ?_
  intro p e s m args below meth c s₁ B hml hv
  obtain ⟨rfl, hsz, hP, hK, hD0⟩ := hv
  have hx := B.exec
  have hb := B.bytes
  have hr := B.returns
  have hts := atoms_spec (ws := wsX1_invite) B.pre
  have hown : s.vm.findClass RX1 = some m.cls := findClass_of_methodNamed B.named
  have hlocks := B.notSynchronized
  subst hsz
  have hD := hD0.self (sz := s.heap.size)
  generalize hAe : va_A (gmW h kc f1 f2 of ro fa th (nI g) (nI r) x1 x2) s.heap.size = A at hD ⊢
  have hA : ∀ q : Nat, s.heap.size ≤ q → A q := fun q h => by rw [← hAe]; exact Or.inr h
  have hS : va_S A s.heap s.heap [] := va_S.rf
  have hP : va_P (dC, dI) vwCl (gmW h kc f1 f2 of ro fa th (nI g) (nI r) x1 x2) s.heap := hP
  have hin1 : ∀ w ∈ wsX10, w ∈ wsX1_invite := by decide +kernel
  have hl := lv_entry [.ref (h 0)] (n := 1) (Nat.le_of_ble_eq_true rfl)
  rw [lg_entry_eq]
  generalize (lg_sl [.ref (h 0)] ++ List.replicate (1 - (lg_sl [.ref (h 0)]).length) Slot.unset).toArray = ls at hl ⊢
  have hl : lv_has ls 1 [(0, .ref (h 0))] := hl
  refine lv_aload_n hx hb dX1_invite_0 rfl (lv_at hl 0 rfl) ?_
  refine lv_iconst (v := 0) hx hb dX1_invite_1 (by decide) ?_
  refine va_put (D := (dC, dI)) (ci := 1) (v := .int 0) (ty := .int) (C := RX1) (T := TX1) (N := 10) hx hb hts hin1 tyX1 tyX1_ok nmX1 hown hK hP hD hS 0 rfl rfl 0 (by decide) (hts (.fieldLink RX1 33 "GuestChairsModel" "thrown" "I") (by decide +kernel)) (fun _ h9 => h9) rfl (by decide +kernel) rfl rfl (Nat.le_of_ble_eq_true rfl) dX1_invite_2 (fun H locs hP hD hS => ?_)
  have hP : va_P (dC, dI) vwCl (gmW h kc f1 f2 of ro fa 0 (nI g) (nI r) x1 x2) H := hP
  have hD : va_D A (gmW h kc f1 f2 of ro fa 0 (nI g) (nI r) x1 x2) := hD
  refine lv_aload_n hx hb dX1_invite_5 rfl (lv_at hl 0 rfl) ?_
  refine va_get (D := (dC, dI)) (ci := 1) (v := .int (nI g)) (C := RX1) (T := TX1) (N := 10) hx hb hts hin1 hown hK hP 0 rfl rfl 1 (by decide) (hts (.fieldLink RX1 36 "GuestChairsModel" "guests" "I") (by decide +kernel)) (fun _ h9 => h9) rfl dX1_invite_6 ?_
  refine lv_bipush (v := 10) hx hb dX1_invite_9 (by decide) ?_
  refine lv_icmp_ne (tgt := 20) hx hb dX1_invite_11 (by decide) (fun c_11 => ?_) (fun c_11 => ?_)
  · skip
    exact absurd (by rw [hg9]; rfl) c_11
  · skip
    refine lv_aload_n hx hb dX1_invite_14 rfl (lv_at hl 0 rfl) ?_
    refine lv_iconst (v := 1) hx hb dX1_invite_15 (by decide) ?_
    have hPc : va_P (dC, dI) vwCl (gmW h kc f1 f2 of ro fa 0 (nI g) (nI r) x1 x2) _ := hP.sub [0, 1, 2, 3, 4, 5] rfl
    have hKc : va_K (dC, dI) vwCl (gmT kc) s := hK.sub [0, 1, 2, 3, 4] rfl
    have hDc : va_D A (gmW h kc f1 f2 of ro fa 0 (nI g) (nI r) x1 x2) := hD.sub [0, 1, 2, 3, 4, 5] (by decide) rfl
    have hFc := va_free (wc := (gmW h kc f1 f2 of ro fa 0 (nI g) (nI r) x1 x2)) hD hS hA [0, 1, 2, 3, 4, 5] rfl
    refine va_calli (va_runV (As := [.int 1]) (rest := []) ⟨hx, hb, hml, hown, hts⟩ (c_X1_fail l dC dI h kc f1 f2 of ro fa 0 g r x1 x2 1 H.size) (cwV 1 hts gX1_invite_X1_fail rfl rfl rfl (by decide +kernel) ⟨Nat.le_of_ble_eq_true rfl, Nat.le_of_ble_eq_true rfl⟩) ⟨gcPM_blind, va_recv hK hP (ci := 1) (q0 := 0) rfl rfl, fun U hU hW => ⟨rfl, by rw [hU], by rw [hU]; exact hPc, va_K.moved hW.alike hKc, hDc.weaken (fun _ _ _ _ => trivial)⟩⟩ rfl rfl hl.1 rfl (lv_room (Nat.le_of_ble_eq_true rfl)) dX1_invite_16 ⟨Nat.zero_le _, Nat.zero_le _⟩) hS (fun q _ h => hFc q h) hFc (fun r1 u t H locs ht hvm hw hB hz1 hk1 hS => ?_)
    obtain ⟨hP1, hD1⟩ := hB
    rw [ht] at hP1
    obtain ⟨hP, hD⟩ := va_join (wr := []) (w1 := (gmW h kc f1 f2 of ro fa 1 (nI g) (nI r) x1 x2)) hP hD [0, 1, 2, 3, 4, 5] [] rfl rfl (by decide) (by decide) hk1 hFc hP1 hD1
    have hP : va_P (dC, dI) vwCl (gmW h kc f1 f2 of ro fa 1 (nI g) (nI r) x1 x2) H := hP.sub [0, 1, 2, 3, 4, 5] rfl
    have hD : va_D A (gmW h kc f1 f2 of ro fa 1 (nI g) (nI r) x1 x2) := hD.sub [0, 1, 2, 3, 4, 5] (by decide) rfl
    have hw : r1 = 0 := hw
    subst hw
    clear hw
    clear hz1 hk1 ht hvm hP1 hD1 hFc hDc
    clear hPc hKc
    have hpost : True := trivial
    exact W.iret (v := 0) hx hb hr (fun t ht hW => ⟨⟨0, (), rfl, hpost, ⟨by rw [ht]; exact hP, hD⟩⟩, hS.F ht⟩) hS.2.2 dX1_invite_19
set_option maxHeartbeats 4000000 in
set_option maxRecDepth 100000 in
theorem c_X1_rule (l : Launch) (dC : Nat → ClassId) (dI : Nat → Nat → Nat) (h : Nat → Nat) (kc : Nat → ClassId) (f1 : Nat → Int32) (f2 : Nat → Int32) (of : Nat → Int32) (ro : Nat → Int32) (fa : Nat → Int32) (th : Int32) (g : Nat) (r : Nat) (x1 : Int32) (x2 : Int32) (wa : Nat) (wb : Nat) (sz : Nat) (hg : g ≤ 10) (hr9 : r < 30) (ha : wa < 2 * g) (hb2 : wb < 2 * g) (hne : ¬ wa = wb) : Met l yX1_rule wsX1_rule ({ frames := 2, cells := 0, slots := 0, locals := 43 }) (gcPM (dC, dI) [.ref (h 0), .int (nI wa), .int (nI wb)] (gmW h kc f1 f2 of ro fa th (nI g) (nI r) x1 x2) (gmT kc) sz) (va_Qi (fun (rv : Int32) (_u : Unit) => rv = nI r) (fun _u t9 => va_P (dC, dI) vwCl (gmW h kc (upd f1 r (nI wa)) (upd f2 r (nI wb)) of ro fa 0 (nI g) (nI (r + 1)) x1 x2) t9.heap ∧ va_D (va_A (gmW h kc f1 f2 of ro fa th (nI g) (nI r) x1 x2) sz) (gmW h kc (upd f1 r (nI wa)) (upd f2 r (nI wb)) of ro fa 0 (nI g) (nI (r + 1)) x1 x2)) (va_A (gmW h kc f1 f2 of ro fa th (nI g) (nI r) x1 x2) sz)) 0 0 (va_A (gmW h kc f1 f2 of ro fa th (nI g) (nI r) x1 x2) sz) := by
  refine Met.ofW (cc := cX1_rule) (maxL := 3) (ret := (some .int)) (by decide) rfl ?_
  intro p e s m args below meth c s₁ B hml hv
  obtain ⟨rfl, hsz, hP, hK, hD0⟩ := hv
  have hx := B.exec
  have hb := B.bytes
  have hr := B.returns
  have hts := atoms_spec (ws := wsX1_rule) B.pre
  have hown : s.vm.findClass RX1 = some m.cls := findClass_of_methodNamed B.named
  have hlocks := B.notSynchronized
  subst hsz
  have hD := hD0.self (sz := s.heap.size)
  generalize hAe : va_A (gmW h kc f1 f2 of ro fa th (nI g) (nI r) x1 x2) s.heap.size = A at hD ⊢
  have hA : ∀ q : Nat, s.heap.size ≤ q → A q := fun q h => by rw [← hAe]; exact Or.inr h
  have hS : va_S A s.heap s.heap [] := va_S.rf
  have hP : va_P (dC, dI) vwCl (gmW h kc f1 f2 of ro fa th (nI g) (nI r) x1 x2) s.heap := hP
  have hin1 : ∀ w ∈ wsX10, w ∈ wsX1_rule := by decide +kernel
  have hl := lv_entry [.ref (h 0), .int (nI wa), .int (nI wb)] (n := 3) (Nat.le_of_ble_eq_true rfl)
  rw [lg_entry_eq]
  generalize (lg_sl [.ref (h 0), .int (nI wa), .int (nI wb)] ++ List.replicate (3 - (lg_sl [.ref (h 0), .int (nI wa), .int (nI wb)]).length) Slot.unset).toArray = ls at hl ⊢
  have hl : lv_has ls 3 [(0, .ref (h 0)), (1, .int (nI wa)), (2, .int (nI wb))] := hl
  refine lv_aload_n hx hb dX1_rule_0 rfl (lv_at hl 0 rfl) ?_
  refine lv_iconst (v := 0) hx hb dX1_rule_1 (by decide) ?_
  refine va_put (D := (dC, dI)) (ci := 1) (v := .int 0) (ty := .int) (C := RX1) (T := TX1) (N := 10) hx hb hts hin1 tyX1 tyX1_ok nmX1 hown hK hP hD hS 0 rfl rfl 0 (by decide) (hts (.fieldLink RX1 33 "GuestChairsModel" "thrown" "I") (by decide +kernel)) (fun _ h9 => h9) rfl (by decide +kernel) rfl rfl (Nat.le_of_ble_eq_true rfl) dX1_rule_2 (fun H locs hP hD hS => ?_)
  have hP : va_P (dC, dI) vwCl (gmW h kc f1 f2 of ro fa 0 (nI g) (nI r) x1 x2) H := hP
  have hD : va_D A (gmW h kc f1 f2 of ro fa 0 (nI g) (nI r) x1 x2) := hD
  refine lv_aload_n hx hb dX1_rule_5 rfl (lv_at hl 0 rfl) ?_
  refine lv_iload_n hx hb dX1_rule_6 rfl (lv_at hl 1 rfl) ?_
  have hPc : va_P (dC, dI) vwCl (gmW h kc f1 f2 of ro fa 0 (nI g) (nI r) x1 x2) _ := hP.sub [0, 1, 2, 3, 4, 5] rfl
  have hKc : va_K (dC, dI) vwCl (gmT kc) s := hK.sub [0, 1, 2, 3, 4] rfl
  refine va_calli (va_runV (As := [.int (nI wa)]) (rest := []) ⟨hx, hb, hml, hown, hts⟩ (c_X1_isWish l dC dI h kc f1 f2 of ro fa 0 g r x1 x2 (nI wa)) (cwV 1 hts gX1_rule_X1_isWish rfl rfl rfl (by decide +kernel) ⟨Nat.le_of_ble_eq_true rfl, Nat.le_of_ble_eq_true rfl⟩) ⟨gcPR_blind, va_recv hK hP (ci := 1) (q0 := 0) rfl rfl, fun U hU hW => ⟨rfl, by rw [hU]; exact hPc, va_K.moved hW.alike hKc⟩⟩ rfl rfl hl.1 rfl (lv_room (Nat.le_of_ble_eq_true rfl)) dX1_rule_7 ⟨Nat.zero_le _, Nat.zero_le _⟩) hS (fun q _ h => h.elim) (fun q h => h.elim) (fun r1 u t H locs ht hvm hw hB hz1 hk1 hS => ?_)
  have hP := gc_keep hP hk1
  have hw : r1 = gB (mIn (nI wa) 0 (nI (2 * g) - 1)) := hw
  subst hw
  clear hw
  clear hB hz1 hk1 ht hvm
  clear hPc hKc
  refine lv_if_eq (tgt := 21) hx hb dX1_rule_10 (by decide) (fun c_10 => ?_) (fun c_10 => ?_)
  · skip
    have c_10 := gB_f c_10
    exact absurd (mIn_ok (j := wa) (n := 2 * g) (by omega) (by omega)) (by rw [c_10]; decide)
  · skip
    have c_10 := gB_t c_10
    refine lv_aload_n hx hb dX1_rule_13 rfl (lv_at hl 0 rfl) ?_
    refine lv_iload_n hx hb dX1_rule_14 rfl (lv_at hl 2 rfl) ?_
    have hPc : va_P (dC, dI) vwCl (gmW h kc f1 f2 of ro fa 0 (nI g) (nI r) x1 x2) _ := hP.sub [0, 1, 2, 3, 4, 5] rfl
    have hKc : va_K (dC, dI) vwCl (gmT kc) s := hK.sub [0, 1, 2, 3, 4] rfl
    refine va_calli (va_runV (As := [.int (nI wb)]) (rest := []) ⟨hx, hb, hml, hown, hts⟩ (c_X1_isWish l dC dI h kc f1 f2 of ro fa 0 g r x1 x2 (nI wb)) (cwV 1 hts gX1_rule_X1_isWish rfl rfl rfl (by decide +kernel) ⟨Nat.le_of_ble_eq_true rfl, Nat.le_of_ble_eq_true rfl⟩) ⟨gcPR_blind, va_recv hK hP (ci := 1) (q0 := 0) rfl rfl, fun U hU hW => ⟨rfl, by rw [hU]; exact hPc, va_K.moved hW.alike hKc⟩⟩ rfl rfl hl.1 rfl (lv_room (Nat.le_of_ble_eq_true rfl)) dX1_rule_15 ⟨Nat.zero_le _, Nat.zero_le _⟩) hS (fun q _ h => h.elim) (fun q h => h.elim) (fun r2 u t H locs ht hvm hw hB hz1 hk1 hS => ?_)
    have hP := gc_keep hP hk1
    have hw : r2 = gB (mIn (nI wb) 0 (nI (2 * g) - 1)) := hw
    subst hw
    clear hw
    clear hB hz1 hk1 ht hvm
    clear hPc hKc
    refine lv_if_ne (tgt := 27) hx hb dX1_rule_18 (by decide) (fun c_18 => ?_) (fun c_18 => ?_)
    · skip
      have c_18 := gB_t c_18
      refine lv_iload_n hx hb dX1_rule_27 rfl (lv_at hl 1 rfl) ?_
      refine lv_iload_n hx hb dX1_rule_28 rfl (lv_at hl 2 rfl) ?_
      refine lv_icmp_ne (tgt := 38) hx hb dX1_rule_29 (by decide) (fun c_29 => ?_) (fun c_29 => ?_)
      · skip
        refine lv_aload_n hx hb dX1_rule_38 rfl (lv_at hl 0 rfl) ?_
        refine va_get (D := (dC, dI)) (ci := 1) (v := .int (nI r)) (C := RX1) (T := TX1) (N := 10) hx hb hts hin1 hown hK hP 0 rfl rfl 2 (by decide) (hts (.fieldLink RX1 51 "GuestChairsModel" "rules" "I") (by decide +kernel)) (fun _ h9 => h9) rfl dX1_rule_39 ?_
        refine lv_bipush (v := 30) hx hb dX1_rule_42 (by decide) ?_
        refine lv_icmp_ne (tgt := 53) hx hb dX1_rule_44 (by decide) (fun c_44 => ?_) (fun c_44 => ?_)
        · skip
          refine lv_aload_n hx hb dX1_rule_53 rfl (lv_at hl 0 rfl) ?_
          refine va_get (D := (dC, dI)) (ci := 1) (v := .ref (h 1)) (C := RX1) (T := TX1) (N := 10) hx hb hts hin1 hown hK hP 0 rfl rfl 3 (by decide) (hts (.fieldLink RX1 9 "GuestChairsModel" "firsts" "[I") (by decide +kernel)) (fun _ h9 => h9) rfl dX1_rule_54 ?_
          refine lv_aload_n hx hb dX1_rule_57 rfl (lv_at hl 0 rfl) ?_
          refine va_get (D := (dC, dI)) (ci := 1) (v := .int (nI r)) (C := RX1) (T := TX1) (N := 10) hx hb hts hin1 hown hK hP 0 rfl rfl 2 (by decide) (hts (.fieldLink RX1 51 "GuestChairsModel" "rules" "I") (by decide +kernel)) (fun _ h9 => h9) rfl dX1_rule_58 ?_
          refine lv_iload_n hx hb dX1_rule_61 rfl (lv_at hl 1 rfl) ?_
          refine va_iast hx hb hK hP hD hS 1 0 rfl rfl (vp_in_nI (n := r) (by omega) (by decide)) dX1_rule_62 (fun H locs hP hD hS => ?_)
          rw [nI_clamp (n := r) (by omega)] at hP hD
          have hP : va_P (dC, dI) vwCl (gmW h kc (upd f1 r (nI wa)) f2 of ro fa 0 (nI g) (nI r) x1 x2) H := hP
          have hD : va_D A (gmW h kc (upd f1 r (nI wa)) f2 of ro fa 0 (nI g) (nI r) x1 x2) := hD
          refine lv_aload_n hx hb dX1_rule_63 rfl (lv_at hl 0 rfl) ?_
          refine va_get (D := (dC, dI)) (ci := 1) (v := .ref (h 2)) (C := RX1) (T := TX1) (N := 10) hx hb hts hin1 hown hK hP 0 rfl rfl 4 (by decide) (hts (.fieldLink RX1 13 "GuestChairsModel" "seconds" "[I") (by decide +kernel)) (fun _ h9 => h9) rfl dX1_rule_64 ?_
          refine lv_aload_n hx hb dX1_rule_67 rfl (lv_at hl 0 rfl) ?_
          refine va_get (D := (dC, dI)) (ci := 1) (v := .int (nI r)) (C := RX1) (T := TX1) (N := 10) hx hb hts hin1 hown hK hP 0 rfl rfl 2 (by decide) (hts (.fieldLink RX1 51 "GuestChairsModel" "rules" "I") (by decide +kernel)) (fun _ h9 => h9) rfl dX1_rule_68 ?_
          refine lv_iload_n hx hb dX1_rule_71 rfl (lv_at hl 2 rfl) ?_
          refine va_iast hx hb hK hP hD hS 2 1 rfl rfl (vp_in_nI (n := r) (by omega) (by decide)) dX1_rule_72 (fun H locs hP hD hS => ?_)
          rw [nI_clamp (n := r) (by omega)] at hP hD
          have hP : va_P (dC, dI) vwCl (gmW h kc (upd f1 r (nI wa)) (upd f2 r (nI wb)) of ro fa 0 (nI g) (nI r) x1 x2) H := hP
          have hD : va_D A (gmW h kc (upd f1 r (nI wa)) (upd f2 r (nI wb)) of ro fa 0 (nI g) (nI r) x1 x2) := hD
          refine lv_aload_n hx hb dX1_rule_73 rfl (lv_at hl 0 rfl) ?_
          refine lv_dup hx hb dX1_rule_74 rfl ?_
          refine va_get (D := (dC, dI)) (ci := 1) (v := .int (nI r)) (C := RX1) (T := TX1) (N := 10) hx hb hts hin1 hown hK hP 0 rfl rfl 2 (by decide) (hts (.fieldLink RX1 51 "GuestChairsModel" "rules" "I") (by decide +kernel)) (fun _ h9 => h9) rfl dX1_rule_75 ?_
          refine lv_iconst (v := 1) hx hb dX1_rule_78 (by decide) ?_
          refine lv_iadd hx hb dX1_rule_79 ?_
          refine gc_topi (y := nI (r + 1)) (nI_1 r) ?_
          refine va_put (D := (dC, dI)) (ci := 1) (v := .int (nI (r + 1))) (ty := .int) (C := RX1) (T := TX1) (N := 10) hx hb hts hin1 tyX1 tyX1_ok nmX1 hown hK hP hD hS 0 rfl rfl 2 (by decide) (hts (.fieldLink RX1 51 "GuestChairsModel" "rules" "I") (by decide +kernel)) (fun _ h9 => h9) rfl (by decide +kernel) rfl rfl (Nat.le_of_ble_eq_true rfl) dX1_rule_80 (fun H locs hP hD hS => ?_)
          have hP : va_P (dC, dI) vwCl (gmW h kc (upd f1 r (nI wa)) (upd f2 r (nI wb)) of ro fa 0 (nI g) (nI (r + 1)) x1 x2) H := hP
          have hD : va_D A (gmW h kc (upd f1 r (nI wa)) (upd f2 r (nI wb)) of ro fa 0 (nI g) (nI (r + 1)) x1 x2) := hD
          refine lv_aload_n hx hb dX1_rule_83 rfl (lv_at hl 0 rfl) ?_
          refine va_get (D := (dC, dI)) (ci := 1) (v := .int (nI (r + 1))) (C := RX1) (T := TX1) (N := 10) hx hb hts hin1 hown hK hP 0 rfl rfl 2 (by decide) (hts (.fieldLink RX1 51 "GuestChairsModel" "rules" "I") (by decide +kernel)) (fun _ h9 => h9) rfl dX1_rule_84 ?_
          refine lv_iconst (v := 1) hx hb dX1_rule_87 (by decide) ?_
          refine lv_isub hx hb dX1_rule_88 ?_
          refine gc_topi (y := nI r) (nI_pred r) ?_
          have hpost : (nI r) = nI r := by first | rfl | assumption
          exact W.iret (v := nI r) hx hb hr (fun t ht hW => ⟨⟨nI r, (), rfl, hpost, ⟨by rw [ht]; exact hP, hD⟩⟩, hS.F ht⟩) hS.2.2 dX1_rule_89
        · skip
          exact absurd ((nI_eq (b := 30) (by omega) (by omega)).mp c_44) (by omega)
      · skip
        exact absurd ((nI_eq (by omega) (by omega)).mp c_29) hne
    · skip
      have c_18 := gB_f c_18
      exact absurd (mIn_ok (j := wb) (n := 2 * g) (by omega) (by omega)) (by rw [c_18]; decide)
set_option maxHeartbeats 4000000 in
set_option maxRecDepth 100000 in
theorem c_X1_rule_no1 (l : Launch) (dC : Nat → ClassId) (dI : Nat → Nat → Nat) (h : Nat → Nat) (kc : Nat → ClassId) (f1 : Nat → Int32) (f2 : Nat → Int32) (of : Nat → Int32) (ro : Nat → Int32) (fa : Nat → Int32) (th : Int32) (g : Nat) (r : Nat) (x1 : Int32) (x2 : Int32) (v1 : Int32) (v2 : Int32) (sz : Nat) (hg : g ≤ 10) (hno : (∀ j : Nat, j < 2 * g → v1 ≠ nI j) ∨ ∀ j : Nat, j < 2 * g → v2 ≠ nI j) : Met l yX1_rule wsX1_rule ({ frames := 2, cells := 0, slots := 0, locals := 43 }) (gcPM (dC, dI) [.ref (h 0), .int v1, .int v2] (gmW h kc f1 f2 of ro fa th (nI g) (nI r) x1 x2) (gmT kc) sz) (va_Qi (fun (rv : Int32) (_u : Unit) => True) (fun _u t9 => va_P (dC, dI) vwCl (gmW h kc f1 f2 of ro fa 1 (nI g) (nI r) x1 x2) t9.heap ∧ va_D (va_A (gmW h kc f1 f2 of ro fa th (nI g) (nI r) x1 x2) sz) (gmW h kc f1 f2 of ro fa 1 (nI g) (nI r) x1 x2)) (va_A (gmW h kc f1 f2 of ro fa th (nI g) (nI r) x1 x2) sz)) 0 0 (va_A (gmW h kc f1 f2 of ro fa th (nI g) (nI r) x1 x2) sz) := by
  refine Met.ofW (cc := cX1_rule) (maxL := 3) (ret := (some .int)) (by decide) rfl ?_
  intro p e s m args below meth c s₁ B hml hv
  obtain ⟨rfl, hsz, hP, hK, hD0⟩ := hv
  have hx := B.exec
  have hb := B.bytes
  have hr := B.returns
  have hts := atoms_spec (ws := wsX1_rule) B.pre
  have hown : s.vm.findClass RX1 = some m.cls := findClass_of_methodNamed B.named
  have hlocks := B.notSynchronized
  subst hsz
  have hD := hD0.self (sz := s.heap.size)
  generalize hAe : va_A (gmW h kc f1 f2 of ro fa th (nI g) (nI r) x1 x2) s.heap.size = A at hD ⊢
  have hA : ∀ q : Nat, s.heap.size ≤ q → A q := fun q h => by rw [← hAe]; exact Or.inr h
  have hS : va_S A s.heap s.heap [] := va_S.rf
  have hP : va_P (dC, dI) vwCl (gmW h kc f1 f2 of ro fa th (nI g) (nI r) x1 x2) s.heap := hP
  have hin1 : ∀ w ∈ wsX10, w ∈ wsX1_rule := by decide +kernel
  have hl := lv_entry [.ref (h 0), .int v1, .int v2] (n := 3) (Nat.le_of_ble_eq_true rfl)
  rw [lg_entry_eq]
  generalize (lg_sl [.ref (h 0), .int v1, .int v2] ++ List.replicate (3 - (lg_sl [.ref (h 0), .int v1, .int v2]).length) Slot.unset).toArray = ls at hl ⊢
  have hl : lv_has ls 3 [(0, .ref (h 0)), (1, .int v1), (2, .int v2)] := hl
  refine lv_aload_n hx hb dX1_rule_0 rfl (lv_at hl 0 rfl) ?_
  refine lv_iconst (v := 0) hx hb dX1_rule_1 (by decide) ?_
  refine va_put (D := (dC, dI)) (ci := 1) (v := .int 0) (ty := .int) (C := RX1) (T := TX1) (N := 10) hx hb hts hin1 tyX1 tyX1_ok nmX1 hown hK hP hD hS 0 rfl rfl 0 (by decide) (hts (.fieldLink RX1 33 "GuestChairsModel" "thrown" "I") (by decide +kernel)) (fun _ h9 => h9) rfl (by decide +kernel) rfl rfl (Nat.le_of_ble_eq_true rfl) dX1_rule_2 (fun H locs hP hD hS => ?_)
  have hP : va_P (dC, dI) vwCl (gmW h kc f1 f2 of ro fa 0 (nI g) (nI r) x1 x2) H := hP
  have hD : va_D A (gmW h kc f1 f2 of ro fa 0 (nI g) (nI r) x1 x2) := hD
  refine lv_aload_n hx hb dX1_rule_5 rfl (lv_at hl 0 rfl) ?_
  refine lv_iload_n hx hb dX1_rule_6 rfl (lv_at hl 1 rfl) ?_
  have hPc : va_P (dC, dI) vwCl (gmW h kc f1 f2 of ro fa 0 (nI g) (nI r) x1 x2) _ := hP.sub [0, 1, 2, 3, 4, 5] rfl
  have hKc : va_K (dC, dI) vwCl (gmT kc) s := hK.sub [0, 1, 2, 3, 4] rfl
  refine va_calli (va_runV (As := [.int v1]) (rest := []) ⟨hx, hb, hml, hown, hts⟩ (c_X1_isWish l dC dI h kc f1 f2 of ro fa 0 g r x1 x2 v1) (cwV 1 hts gX1_rule_X1_isWish rfl rfl rfl (by decide +kernel) ⟨Nat.le_of_ble_eq_true rfl, Nat.le_of_ble_eq_true rfl⟩) ⟨gcPR_blind, va_recv hK hP (ci := 1) (q0 := 0) rfl rfl, fun U hU hW => ⟨rfl, by rw [hU]; exact hPc, va_K.moved hW.alike hKc⟩⟩ rfl rfl hl.1 rfl (lv_room (Nat.le_of_ble_eq_true rfl)) dX1_rule_7 ⟨Nat.zero_le _, Nat.zero_le _⟩) hS (fun q _ h => h.elim) (fun q h => h.elim) (fun r1 u t H locs ht hvm hw hB hz1 hk1 hS => ?_)
  have hP := gc_keep hP hk1
  have hw : r1 = gB (mIn v1 0 (nI (2 * g) - 1)) := hw
  subst hw
  clear hw
  clear hB hz1 hk1 ht hvm
  clear hPc hKc
  refine lv_if_eq (tgt := 21) hx hb dX1_rule_10 (by decide) (fun c_10 => ?_) (fun c_10 => ?_)
  · skip
    have c_10 := gB_f c_10
    refine lv_aload_n hx hb dX1_rule_21 rfl (lv_at hl 0 rfl) ?_
    refine lv_iconst (v := 1) hx hb dX1_rule_22 (by decide) ?_
    have hPc : va_P (dC, dI) vwCl (gmW h kc f1 f2 of ro fa 0 (nI g) (nI r) x1 x2) _ := hP.sub [0, 1, 2, 3, 4, 5] rfl
    have hKc : va_K (dC, dI) vwCl (gmT kc) s := hK.sub [0, 1, 2, 3, 4] rfl
    have hDc : va_D A (gmW h kc f1 f2 of ro fa 0 (nI g) (nI r) x1 x2) := hD.sub [0, 1, 2, 3, 4, 5] (by decide) rfl
    have hFc := va_free (wc := (gmW h kc f1 f2 of ro fa 0 (nI g) (nI r) x1 x2)) hD hS hA [0, 1, 2, 3, 4, 5] rfl
    refine va_calli (va_runV (As := [.int 1]) (rest := []) ⟨hx, hb, hml, hown, hts⟩ (c_X1_fail l dC dI h kc f1 f2 of ro fa 0 g r x1 x2 1 H.size) (cwV 1 hts gX1_rule_X1_fail rfl rfl rfl (by decide +kernel) ⟨Nat.le_of_ble_eq_true rfl, Nat.le_of_ble_eq_true rfl⟩) ⟨gcPM_blind, va_recv hK hP (ci := 1) (q0 := 0) rfl rfl, fun U hU hW => ⟨rfl, by rw [hU], by rw [hU]; exact hPc, va_K.moved hW.alike hKc, hDc.weaken (fun _ _ _ _ => trivial)⟩⟩ rfl rfl hl.1 rfl (lv_room (Nat.le_of_ble_eq_true rfl)) dX1_rule_23 ⟨Nat.zero_le _, Nat.zero_le _⟩) hS (fun q _ h => hFc q h) hFc (fun r2 u t H locs ht hvm hw hB hz1 hk1 hS => ?_)
    obtain ⟨hP1, hD1⟩ := hB
    rw [ht] at hP1
    obtain ⟨hP, hD⟩ := va_join (wr := []) (w1 := (gmW h kc f1 f2 of ro fa 1 (nI g) (nI r) x1 x2)) hP hD [0, 1, 2, 3, 4, 5] [] rfl rfl (by decide) (by decide) hk1 hFc hP1 hD1
    have hP : va_P (dC, dI) vwCl (gmW h kc f1 f2 of ro fa 1 (nI g) (nI r) x1 x2) H := hP.sub [0, 1, 2, 3, 4, 5] rfl
    have hD : va_D A (gmW h kc f1 f2 of ro fa 1 (nI g) (nI r) x1 x2) := hD.sub [0, 1, 2, 3, 4, 5] (by decide) rfl
    have hw : r2 = 0 := hw
    subst hw
    clear hw
    clear hz1 hk1 ht hvm hP1 hD1 hFc hDc
    clear hPc hKc
    have hpost : True := trivial
    exact W.iret (v := 0) hx hb hr (fun t ht hW => ⟨⟨0, (), rfl, hpost, ⟨by rw [ht]; exact hP, hD⟩⟩, hS.F ht⟩) hS.2.2 dX1_rule_26
  · skip
    have c_10 := gB_t c_10
    refine lv_aload_n hx hb dX1_rule_13 rfl (lv_at hl 0 rfl) ?_
    refine lv_iload_n hx hb dX1_rule_14 rfl (lv_at hl 2 rfl) ?_
    have hPc : va_P (dC, dI) vwCl (gmW h kc f1 f2 of ro fa 0 (nI g) (nI r) x1 x2) _ := hP.sub [0, 1, 2, 3, 4, 5] rfl
    have hKc : va_K (dC, dI) vwCl (gmT kc) s := hK.sub [0, 1, 2, 3, 4] rfl
    refine va_calli (va_runV (As := [.int v2]) (rest := []) ⟨hx, hb, hml, hown, hts⟩ (c_X1_isWish l dC dI h kc f1 f2 of ro fa 0 g r x1 x2 v2) (cwV 1 hts gX1_rule_X1_isWish rfl rfl rfl (by decide +kernel) ⟨Nat.le_of_ble_eq_true rfl, Nat.le_of_ble_eq_true rfl⟩) ⟨gcPR_blind, va_recv hK hP (ci := 1) (q0 := 0) rfl rfl, fun U hU hW => ⟨rfl, by rw [hU]; exact hPc, va_K.moved hW.alike hKc⟩⟩ rfl rfl hl.1 rfl (lv_room (Nat.le_of_ble_eq_true rfl)) dX1_rule_15 ⟨Nat.zero_le _, Nat.zero_le _⟩) hS (fun q _ h => h.elim) (fun q h => h.elim) (fun r3 u t H locs ht hvm hw hB hz1 hk1 hS => ?_)
    have hP := gc_keep hP hk1
    have hw : r3 = gB (mIn v2 0 (nI (2 * g) - 1)) := hw
    subst hw
    clear hw
    clear hB hz1 hk1 ht hvm
    clear hPc hKc
    refine lv_if_ne (tgt := 27) hx hb dX1_rule_18 (by decide) (fun c_18 => ?_) (fun c_18 => ?_)
    · skip
      have c_18 := gB_t c_18
      rcases hno with q | q <;> exact absurd (mIn_no (by omega) q) (by first | (rw [c_10]; decide) | (rw [c_18]; decide))
    · skip
      have c_18 := gB_f c_18
      refine lv_aload_n hx hb dX1_rule_21 rfl (lv_at hl 0 rfl) ?_
      refine lv_iconst (v := 1) hx hb dX1_rule_22 (by decide) ?_
      have hPc : va_P (dC, dI) vwCl (gmW h kc f1 f2 of ro fa 0 (nI g) (nI r) x1 x2) _ := hP.sub [0, 1, 2, 3, 4, 5] rfl
      have hKc : va_K (dC, dI) vwCl (gmT kc) s := hK.sub [0, 1, 2, 3, 4] rfl
      have hDc : va_D A (gmW h kc f1 f2 of ro fa 0 (nI g) (nI r) x1 x2) := hD.sub [0, 1, 2, 3, 4, 5] (by decide) rfl
      have hFc := va_free (wc := (gmW h kc f1 f2 of ro fa 0 (nI g) (nI r) x1 x2)) hD hS hA [0, 1, 2, 3, 4, 5] rfl
      refine va_calli (va_runV (As := [.int 1]) (rest := []) ⟨hx, hb, hml, hown, hts⟩ (c_X1_fail l dC dI h kc f1 f2 of ro fa 0 g r x1 x2 1 H.size) (cwV 1 hts gX1_rule_X1_fail rfl rfl rfl (by decide +kernel) ⟨Nat.le_of_ble_eq_true rfl, Nat.le_of_ble_eq_true rfl⟩) ⟨gcPM_blind, va_recv hK hP (ci := 1) (q0 := 0) rfl rfl, fun U hU hW => ⟨rfl, by rw [hU], by rw [hU]; exact hPc, va_K.moved hW.alike hKc, hDc.weaken (fun _ _ _ _ => trivial)⟩⟩ rfl rfl hl.1 rfl (lv_room (Nat.le_of_ble_eq_true rfl)) dX1_rule_23 ⟨Nat.zero_le _, Nat.zero_le _⟩) hS (fun q _ h => hFc q h) hFc (fun r4 u t H locs ht hvm hw hB hz1 hk1 hS => ?_)
      obtain ⟨hP1, hD1⟩ := hB
      rw [ht] at hP1
      obtain ⟨hP, hD⟩ := va_join (wr := []) (w1 := (gmW h kc f1 f2 of ro fa 1 (nI g) (nI r) x1 x2)) hP hD [0, 1, 2, 3, 4, 5] [] rfl rfl (by decide) (by decide) hk1 hFc hP1 hD1
      have hP : va_P (dC, dI) vwCl (gmW h kc f1 f2 of ro fa 1 (nI g) (nI r) x1 x2) H := hP.sub [0, 1, 2, 3, 4, 5] rfl
      have hD : va_D A (gmW h kc f1 f2 of ro fa 1 (nI g) (nI r) x1 x2) := hD.sub [0, 1, 2, 3, 4, 5] (by decide) rfl
      have hw : r4 = 0 := hw
      subst hw
      clear hw
      clear hz1 hk1 ht hvm hP1 hD1 hFc hDc
      clear hPc hKc
      have hpost : True := trivial
      exact W.iret (v := 0) hx hb hr (fun t ht hW => ⟨⟨0, (), rfl, hpost, ⟨by rw [ht]; exact hP, hD⟩⟩, hS.F ht⟩) hS.2.2 dX1_rule_26
set_option maxHeartbeats 4000000 in
set_option maxRecDepth 100000 in
theorem c_X1_rule_no2 (l : Launch) (dC : Nat → ClassId) (dI : Nat → Nat → Nat) (h : Nat → Nat) (kc : Nat → ClassId) (f1 : Nat → Int32) (f2 : Nat → Int32) (of : Nat → Int32) (ro : Nat → Int32) (fa : Nat → Int32) (th : Int32) (g : Nat) (r : Nat) (x1 : Int32) (x2 : Int32) (wa : Nat) (sz : Nat) (hg : g ≤ 10) (ha : wa < 2 * g) : Met l yX1_rule wsX1_rule ({ frames := 2, cells := 0, slots := 0, locals := 43 }) (gcPM (dC, dI) [.ref (h 0), .int (nI wa), .int (nI wa)] (gmW h kc f1 f2 of ro fa th (nI g) (nI r) x1 x2) (gmT kc) sz) (va_Qi (fun (rv : Int32) (_u : Unit) => True) (fun _u t9 => va_P (dC, dI) vwCl (gmW h kc f1 f2 of ro fa 2 (nI g) (nI r) x1 x2) t9.heap ∧ va_D (va_A (gmW h kc f1 f2 of ro fa th (nI g) (nI r) x1 x2) sz) (gmW h kc f1 f2 of ro fa 2 (nI g) (nI r) x1 x2)) (va_A (gmW h kc f1 f2 of ro fa th (nI g) (nI r) x1 x2) sz)) 0 0 (va_A (gmW h kc f1 f2 of ro fa th (nI g) (nI r) x1 x2) sz) := by
  refine Met.ofW (cc := cX1_rule) (maxL := 3) (ret := (some .int)) (by decide) rfl ?_
  intro p e s m args below meth c s₁ B hml hv
  obtain ⟨rfl, hsz, hP, hK, hD0⟩ := hv
  have hx := B.exec
  have hb := B.bytes
  have hr := B.returns
  have hts := atoms_spec (ws := wsX1_rule) B.pre
  have hown : s.vm.findClass RX1 = some m.cls := findClass_of_methodNamed B.named
  have hlocks := B.notSynchronized
  subst hsz
  have hD := hD0.self (sz := s.heap.size)
  generalize hAe : va_A (gmW h kc f1 f2 of ro fa th (nI g) (nI r) x1 x2) s.heap.size = A at hD ⊢
  have hA : ∀ q : Nat, s.heap.size ≤ q → A q := fun q h => by rw [← hAe]; exact Or.inr h
  have hS : va_S A s.heap s.heap [] := va_S.rf
  have hP : va_P (dC, dI) vwCl (gmW h kc f1 f2 of ro fa th (nI g) (nI r) x1 x2) s.heap := hP
  have hin1 : ∀ w ∈ wsX10, w ∈ wsX1_rule := by decide +kernel
  have hl := lv_entry [.ref (h 0), .int (nI wa), .int (nI wa)] (n := 3) (Nat.le_of_ble_eq_true rfl)
  rw [lg_entry_eq]
  generalize (lg_sl [.ref (h 0), .int (nI wa), .int (nI wa)] ++ List.replicate (3 - (lg_sl [.ref (h 0), .int (nI wa), .int (nI wa)]).length) Slot.unset).toArray = ls at hl ⊢
  have hl : lv_has ls 3 [(0, .ref (h 0)), (1, .int (nI wa)), (2, .int (nI wa))] := hl
  refine lv_aload_n hx hb dX1_rule_0 rfl (lv_at hl 0 rfl) ?_
  refine lv_iconst (v := 0) hx hb dX1_rule_1 (by decide) ?_
  refine va_put (D := (dC, dI)) (ci := 1) (v := .int 0) (ty := .int) (C := RX1) (T := TX1) (N := 10) hx hb hts hin1 tyX1 tyX1_ok nmX1 hown hK hP hD hS 0 rfl rfl 0 (by decide) (hts (.fieldLink RX1 33 "GuestChairsModel" "thrown" "I") (by decide +kernel)) (fun _ h9 => h9) rfl (by decide +kernel) rfl rfl (Nat.le_of_ble_eq_true rfl) dX1_rule_2 (fun H locs hP hD hS => ?_)
  have hP : va_P (dC, dI) vwCl (gmW h kc f1 f2 of ro fa 0 (nI g) (nI r) x1 x2) H := hP
  have hD : va_D A (gmW h kc f1 f2 of ro fa 0 (nI g) (nI r) x1 x2) := hD
  refine lv_aload_n hx hb dX1_rule_5 rfl (lv_at hl 0 rfl) ?_
  refine lv_iload_n hx hb dX1_rule_6 rfl (lv_at hl 1 rfl) ?_
  have hPc : va_P (dC, dI) vwCl (gmW h kc f1 f2 of ro fa 0 (nI g) (nI r) x1 x2) _ := hP.sub [0, 1, 2, 3, 4, 5] rfl
  have hKc : va_K (dC, dI) vwCl (gmT kc) s := hK.sub [0, 1, 2, 3, 4] rfl
  refine va_calli (va_runV (As := [.int (nI wa)]) (rest := []) ⟨hx, hb, hml, hown, hts⟩ (c_X1_isWish l dC dI h kc f1 f2 of ro fa 0 g r x1 x2 (nI wa)) (cwV 1 hts gX1_rule_X1_isWish rfl rfl rfl (by decide +kernel) ⟨Nat.le_of_ble_eq_true rfl, Nat.le_of_ble_eq_true rfl⟩) ⟨gcPR_blind, va_recv hK hP (ci := 1) (q0 := 0) rfl rfl, fun U hU hW => ⟨rfl, by rw [hU]; exact hPc, va_K.moved hW.alike hKc⟩⟩ rfl rfl hl.1 rfl (lv_room (Nat.le_of_ble_eq_true rfl)) dX1_rule_7 ⟨Nat.zero_le _, Nat.zero_le _⟩) hS (fun q _ h => h.elim) (fun q h => h.elim) (fun r1 u t H locs ht hvm hw hB hz1 hk1 hS => ?_)
  have hP := gc_keep hP hk1
  have hw : r1 = gB (mIn (nI wa) 0 (nI (2 * g) - 1)) := hw
  subst hw
  clear hw
  clear hB hz1 hk1 ht hvm
  clear hPc hKc
  refine lv_if_eq (tgt := 21) hx hb dX1_rule_10 (by decide) (fun c_10 => ?_) (fun c_10 => ?_)
  · skip
    have c_10 := gB_f c_10
    exact absurd (mIn_ok (j := wa) (n := 2 * g) (by omega) (by omega)) (by rw [c_10]; decide)
  · skip
    have c_10 := gB_t c_10
    refine lv_aload_n hx hb dX1_rule_13 rfl (lv_at hl 0 rfl) ?_
    refine lv_iload_n hx hb dX1_rule_14 rfl (lv_at hl 2 rfl) ?_
    have hPc : va_P (dC, dI) vwCl (gmW h kc f1 f2 of ro fa 0 (nI g) (nI r) x1 x2) _ := hP.sub [0, 1, 2, 3, 4, 5] rfl
    have hKc : va_K (dC, dI) vwCl (gmT kc) s := hK.sub [0, 1, 2, 3, 4] rfl
    refine va_calli (va_runV (As := [.int (nI wa)]) (rest := []) ⟨hx, hb, hml, hown, hts⟩ (c_X1_isWish l dC dI h kc f1 f2 of ro fa 0 g r x1 x2 (nI wa)) (cwV 1 hts gX1_rule_X1_isWish rfl rfl rfl (by decide +kernel) ⟨Nat.le_of_ble_eq_true rfl, Nat.le_of_ble_eq_true rfl⟩) ⟨gcPR_blind, va_recv hK hP (ci := 1) (q0 := 0) rfl rfl, fun U hU hW => ⟨rfl, by rw [hU]; exact hPc, va_K.moved hW.alike hKc⟩⟩ rfl rfl hl.1 rfl (lv_room (Nat.le_of_ble_eq_true rfl)) dX1_rule_15 ⟨Nat.zero_le _, Nat.zero_le _⟩) hS (fun q _ h => h.elim) (fun q h => h.elim) (fun r2 u t H locs ht hvm hw hB hz1 hk1 hS => ?_)
    have hP := gc_keep hP hk1
    have hw : r2 = gB (mIn (nI wa) 0 (nI (2 * g) - 1)) := hw
    subst hw
    clear hw
    clear hB hz1 hk1 ht hvm
    clear hPc hKc
    refine lv_if_ne (tgt := 27) hx hb dX1_rule_18 (by decide) (fun c_18 => ?_) (fun c_18 => ?_)
    · skip
      have c_18 := gB_t c_18
      refine lv_iload_n hx hb dX1_rule_27 rfl (lv_at hl 1 rfl) ?_
      refine lv_iload_n hx hb dX1_rule_28 rfl (lv_at hl 2 rfl) ?_
      refine lv_icmp_ne (tgt := 38) hx hb dX1_rule_29 (by decide) (fun c_29 => ?_) (fun c_29 => ?_)
      · skip
        exact absurd rfl c_29
      · skip
        refine lv_aload_n hx hb dX1_rule_32 rfl (lv_at hl 0 rfl) ?_
        refine lv_iconst (v := 2) hx hb dX1_rule_33 (by decide) ?_
        have hPc : va_P (dC, dI) vwCl (gmW h kc f1 f2 of ro fa 0 (nI g) (nI r) x1 x2) _ := hP.sub [0, 1, 2, 3, 4, 5] rfl
        have hKc : va_K (dC, dI) vwCl (gmT kc) s := hK.sub [0, 1, 2, 3, 4] rfl
        have hDc : va_D A (gmW h kc f1 f2 of ro fa 0 (nI g) (nI r) x1 x2) := hD.sub [0, 1, 2, 3, 4, 5] (by decide) rfl
        have hFc := va_free (wc := (gmW h kc f1 f2 of ro fa 0 (nI g) (nI r) x1 x2)) hD hS hA [0, 1, 2, 3, 4, 5] rfl
        refine va_calli (va_runV (As := [.int 2]) (rest := []) ⟨hx, hb, hml, hown, hts⟩ (c_X1_fail l dC dI h kc f1 f2 of ro fa 0 g r x1 x2 2 H.size) (cwV 1 hts gX1_rule_X1_fail rfl rfl rfl (by decide +kernel) ⟨Nat.le_of_ble_eq_true rfl, Nat.le_of_ble_eq_true rfl⟩) ⟨gcPM_blind, va_recv hK hP (ci := 1) (q0 := 0) rfl rfl, fun U hU hW => ⟨rfl, by rw [hU], by rw [hU]; exact hPc, va_K.moved hW.alike hKc, hDc.weaken (fun _ _ _ _ => trivial)⟩⟩ rfl rfl hl.1 rfl (lv_room (Nat.le_of_ble_eq_true rfl)) dX1_rule_34 ⟨Nat.zero_le _, Nat.zero_le _⟩) hS (fun q _ h => hFc q h) hFc (fun r3 u t H locs ht hvm hw hB hz1 hk1 hS => ?_)
        obtain ⟨hP1, hD1⟩ := hB
        rw [ht] at hP1
        obtain ⟨hP, hD⟩ := va_join (wr := []) (w1 := (gmW h kc f1 f2 of ro fa 2 (nI g) (nI r) x1 x2)) hP hD [0, 1, 2, 3, 4, 5] [] rfl rfl (by decide) (by decide) hk1 hFc hP1 hD1
        have hP : va_P (dC, dI) vwCl (gmW h kc f1 f2 of ro fa 2 (nI g) (nI r) x1 x2) H := hP.sub [0, 1, 2, 3, 4, 5] rfl
        have hD : va_D A (gmW h kc f1 f2 of ro fa 2 (nI g) (nI r) x1 x2) := hD.sub [0, 1, 2, 3, 4, 5] (by decide) rfl
        have hw : r3 = 0 := hw
        subst hw
        clear hw
        clear hz1 hk1 ht hvm hP1 hD1 hFc hDc
        clear hPc hKc
        have hpost : True := trivial
        exact W.iret (v := 0) hx hb hr (fun t ht hW => ⟨⟨0, (), rfl, hpost, ⟨by rw [ht]; exact hP, hD⟩⟩, hS.F ht⟩) hS.2.2 dX1_rule_37
    · skip
      have c_18 := gB_f c_18
      exact absurd (mIn_ok (j := wa) (n := 2 * g) (by omega) (by omega)) (by rw [c_18]; decide)
set_option maxHeartbeats 4000000 in
set_option maxRecDepth 100000 in
theorem c_X1_rule_no3 (l : Launch) (dC : Nat → ClassId) (dI : Nat → Nat → Nat) (h : Nat → Nat) (kc : Nat → ClassId) (f1 : Nat → Int32) (f2 : Nat → Int32) (of : Nat → Int32) (ro : Nat → Int32) (fa : Nat → Int32) (th : Int32) (g : Nat) (r : Nat) (x1 : Int32) (x2 : Int32) (wa : Nat) (wb : Nat) (sz : Nat) (hg : g ≤ 10) (hr9 : r = 30) (ha : wa < 2 * g) (hb2 : wb < 2 * g) (hne : ¬ wa = wb) : Met l yX1_rule wsX1_rule ({ frames := 2, cells := 0, slots := 0, locals := 43 }) (gcPM (dC, dI) [.ref (h 0), .int (nI wa), .int (nI wb)] (gmW h kc f1 f2 of ro fa th (nI g) (nI r) x1 x2) (gmT kc) sz) (va_Qi (fun (rv : Int32) (_u : Unit) => True) (fun _u t9 => va_P (dC, dI) vwCl (gmW h kc f1 f2 of ro fa 3 (nI g) (nI r) x1 x2) t9.heap ∧ va_D (va_A (gmW h kc f1 f2 of ro fa th (nI g) (nI r) x1 x2) sz) (gmW h kc f1 f2 of ro fa 3 (nI g) (nI r) x1 x2)) (va_A (gmW h kc f1 f2 of ro fa th (nI g) (nI r) x1 x2) sz)) 0 0 (va_A (gmW h kc f1 f2 of ro fa th (nI g) (nI r) x1 x2) sz) := by
  refine Met.ofW (cc := cX1_rule) (maxL := 3) (ret := (some .int)) (by decide) rfl ?_
  intro p e s m args below meth c s₁ B hml hv
  obtain ⟨rfl, hsz, hP, hK, hD0⟩ := hv
  have hx := B.exec
  have hb := B.bytes
  have hr := B.returns
  have hts := atoms_spec (ws := wsX1_rule) B.pre
  have hown : s.vm.findClass RX1 = some m.cls := findClass_of_methodNamed B.named
  have hlocks := B.notSynchronized
  subst hsz
  have hD := hD0.self (sz := s.heap.size)
  generalize hAe : va_A (gmW h kc f1 f2 of ro fa th (nI g) (nI r) x1 x2) s.heap.size = A at hD ⊢
  have hA : ∀ q : Nat, s.heap.size ≤ q → A q := fun q h => by rw [← hAe]; exact Or.inr h
  have hS : va_S A s.heap s.heap [] := va_S.rf
  have hP : va_P (dC, dI) vwCl (gmW h kc f1 f2 of ro fa th (nI g) (nI r) x1 x2) s.heap := hP
  have hin1 : ∀ w ∈ wsX10, w ∈ wsX1_rule := by decide +kernel
  have hl := lv_entry [.ref (h 0), .int (nI wa), .int (nI wb)] (n := 3) (Nat.le_of_ble_eq_true rfl)
  rw [lg_entry_eq]
  generalize (lg_sl [.ref (h 0), .int (nI wa), .int (nI wb)] ++ List.replicate (3 - (lg_sl [.ref (h 0), .int (nI wa), .int (nI wb)]).length) Slot.unset).toArray = ls at hl ⊢
  have hl : lv_has ls 3 [(0, .ref (h 0)), (1, .int (nI wa)), (2, .int (nI wb))] := hl
  refine lv_aload_n hx hb dX1_rule_0 rfl (lv_at hl 0 rfl) ?_
  refine lv_iconst (v := 0) hx hb dX1_rule_1 (by decide) ?_
  refine va_put (D := (dC, dI)) (ci := 1) (v := .int 0) (ty := .int) (C := RX1) (T := TX1) (N := 10) hx hb hts hin1 tyX1 tyX1_ok nmX1 hown hK hP hD hS 0 rfl rfl 0 (by decide) (hts (.fieldLink RX1 33 "GuestChairsModel" "thrown" "I") (by decide +kernel)) (fun _ h9 => h9) rfl (by decide +kernel) rfl rfl (Nat.le_of_ble_eq_true rfl) dX1_rule_2 (fun H locs hP hD hS => ?_)
  have hP : va_P (dC, dI) vwCl (gmW h kc f1 f2 of ro fa 0 (nI g) (nI r) x1 x2) H := hP
  have hD : va_D A (gmW h kc f1 f2 of ro fa 0 (nI g) (nI r) x1 x2) := hD
  refine lv_aload_n hx hb dX1_rule_5 rfl (lv_at hl 0 rfl) ?_
  refine lv_iload_n hx hb dX1_rule_6 rfl (lv_at hl 1 rfl) ?_
  have hPc : va_P (dC, dI) vwCl (gmW h kc f1 f2 of ro fa 0 (nI g) (nI r) x1 x2) _ := hP.sub [0, 1, 2, 3, 4, 5] rfl
  have hKc : va_K (dC, dI) vwCl (gmT kc) s := hK.sub [0, 1, 2, 3, 4] rfl
  refine va_calli (va_runV (As := [.int (nI wa)]) (rest := []) ⟨hx, hb, hml, hown, hts⟩ (c_X1_isWish l dC dI h kc f1 f2 of ro fa 0 g r x1 x2 (nI wa)) (cwV 1 hts gX1_rule_X1_isWish rfl rfl rfl (by decide +kernel) ⟨Nat.le_of_ble_eq_true rfl, Nat.le_of_ble_eq_true rfl⟩) ⟨gcPR_blind, va_recv hK hP (ci := 1) (q0 := 0) rfl rfl, fun U hU hW => ⟨rfl, by rw [hU]; exact hPc, va_K.moved hW.alike hKc⟩⟩ rfl rfl hl.1 rfl (lv_room (Nat.le_of_ble_eq_true rfl)) dX1_rule_7 ⟨Nat.zero_le _, Nat.zero_le _⟩) hS (fun q _ h => h.elim) (fun q h => h.elim) (fun r1 u t H locs ht hvm hw hB hz1 hk1 hS => ?_)
  have hP := gc_keep hP hk1
  have hw : r1 = gB (mIn (nI wa) 0 (nI (2 * g) - 1)) := hw
  subst hw
  clear hw
  clear hB hz1 hk1 ht hvm
  clear hPc hKc
  refine lv_if_eq (tgt := 21) hx hb dX1_rule_10 (by decide) (fun c_10 => ?_) (fun c_10 => ?_)
  · skip
    have c_10 := gB_f c_10
    exact absurd (mIn_ok (j := wa) (n := 2 * g) (by omega) (by omega)) (by rw [c_10]; decide)
  · skip
    have c_10 := gB_t c_10
    refine lv_aload_n hx hb dX1_rule_13 rfl (lv_at hl 0 rfl) ?_
    refine lv_iload_n hx hb dX1_rule_14 rfl (lv_at hl 2 rfl) ?_
    have hPc : va_P (dC, dI) vwCl (gmW h kc f1 f2 of ro fa 0 (nI g) (nI r) x1 x2) _ := hP.sub [0, 1, 2, 3, 4, 5] rfl
    have hKc : va_K (dC, dI) vwCl (gmT kc) s := hK.sub [0, 1, 2, 3, 4] rfl
    refine va_calli (va_runV (As := [.int (nI wb)]) (rest := []) ⟨hx, hb, hml, hown, hts⟩ (c_X1_isWish l dC dI h kc f1 f2 of ro fa 0 g r x1 x2 (nI wb)) (cwV 1 hts gX1_rule_X1_isWish rfl rfl rfl (by decide +kernel) ⟨Nat.le_of_ble_eq_true rfl, Nat.le_of_ble_eq_true rfl⟩) ⟨gcPR_blind, va_recv hK hP (ci := 1) (q0 := 0) rfl rfl, fun U hU hW => ⟨rfl, by rw [hU]; exact hPc, va_K.moved hW.alike hKc⟩⟩ rfl rfl hl.1 rfl (lv_room (Nat.le_of_ble_eq_true rfl)) dX1_rule_15 ⟨Nat.zero_le _, Nat.zero_le _⟩) hS (fun q _ h => h.elim) (fun q h => h.elim) (fun r2 u t H locs ht hvm hw hB hz1 hk1 hS => ?_)
    have hP := gc_keep hP hk1
    have hw : r2 = gB (mIn (nI wb) 0 (nI (2 * g) - 1)) := hw
    subst hw
    clear hw
    clear hB hz1 hk1 ht hvm
    clear hPc hKc
    refine lv_if_ne (tgt := 27) hx hb dX1_rule_18 (by decide) (fun c_18 => ?_) (fun c_18 => ?_)
    · skip
      have c_18 := gB_t c_18
      refine lv_iload_n hx hb dX1_rule_27 rfl (lv_at hl 1 rfl) ?_
      refine lv_iload_n hx hb dX1_rule_28 rfl (lv_at hl 2 rfl) ?_
      refine lv_icmp_ne (tgt := 38) hx hb dX1_rule_29 (by decide) (fun c_29 => ?_) (fun c_29 => ?_)
      · skip
        refine lv_aload_n hx hb dX1_rule_38 rfl (lv_at hl 0 rfl) ?_
        refine va_get (D := (dC, dI)) (ci := 1) (v := .int (nI r)) (C := RX1) (T := TX1) (N := 10) hx hb hts hin1 hown hK hP 0 rfl rfl 2 (by decide) (hts (.fieldLink RX1 51 "GuestChairsModel" "rules" "I") (by decide +kernel)) (fun _ h9 => h9) rfl dX1_rule_39 ?_
        refine lv_bipush (v := 30) hx hb dX1_rule_42 (by decide) ?_
        refine lv_icmp_ne (tgt := 53) hx hb dX1_rule_44 (by decide) (fun c_44 => ?_) (fun c_44 => ?_)
        · skip
          exact absurd (by rw [hr9]; rfl) c_44
        · skip
          refine lv_aload_n hx hb dX1_rule_47 rfl (lv_at hl 0 rfl) ?_
          refine lv_iconst (v := 3) hx hb dX1_rule_48 (by decide) ?_
          have hPc : va_P (dC, dI) vwCl (gmW h kc f1 f2 of ro fa 0 (nI g) (nI r) x1 x2) _ := hP.sub [0, 1, 2, 3, 4, 5] rfl
          have hKc : va_K (dC, dI) vwCl (gmT kc) s := hK.sub [0, 1, 2, 3, 4] rfl
          have hDc : va_D A (gmW h kc f1 f2 of ro fa 0 (nI g) (nI r) x1 x2) := hD.sub [0, 1, 2, 3, 4, 5] (by decide) rfl
          have hFc := va_free (wc := (gmW h kc f1 f2 of ro fa 0 (nI g) (nI r) x1 x2)) hD hS hA [0, 1, 2, 3, 4, 5] rfl
          refine va_calli (va_runV (As := [.int 3]) (rest := []) ⟨hx, hb, hml, hown, hts⟩ (c_X1_fail l dC dI h kc f1 f2 of ro fa 0 g r x1 x2 3 H.size) (cwV 1 hts gX1_rule_X1_fail rfl rfl rfl (by decide +kernel) ⟨Nat.le_of_ble_eq_true rfl, Nat.le_of_ble_eq_true rfl⟩) ⟨gcPM_blind, va_recv hK hP (ci := 1) (q0 := 0) rfl rfl, fun U hU hW => ⟨rfl, by rw [hU], by rw [hU]; exact hPc, va_K.moved hW.alike hKc, hDc.weaken (fun _ _ _ _ => trivial)⟩⟩ rfl rfl hl.1 rfl (lv_room (Nat.le_of_ble_eq_true rfl)) dX1_rule_49 ⟨Nat.zero_le _, Nat.zero_le _⟩) hS (fun q _ h => hFc q h) hFc (fun r3 u t H locs ht hvm hw hB hz1 hk1 hS => ?_)
          obtain ⟨hP1, hD1⟩ := hB
          rw [ht] at hP1
          obtain ⟨hP, hD⟩ := va_join (wr := []) (w1 := (gmW h kc f1 f2 of ro fa 3 (nI g) (nI r) x1 x2)) hP hD [0, 1, 2, 3, 4, 5] [] rfl rfl (by decide) (by decide) hk1 hFc hP1 hD1
          have hP : va_P (dC, dI) vwCl (gmW h kc f1 f2 of ro fa 3 (nI g) (nI r) x1 x2) H := hP.sub [0, 1, 2, 3, 4, 5] rfl
          have hD : va_D A (gmW h kc f1 f2 of ro fa 3 (nI g) (nI r) x1 x2) := hD.sub [0, 1, 2, 3, 4, 5] (by decide) rfl
          have hw : r3 = 0 := hw
          subst hw
          clear hw
          clear hz1 hk1 ht hvm hP1 hD1 hFc hDc
          clear hPc hKc
          have hpost : True := trivial
          exact W.iret (v := 0) hx hb hr (fun t ht hW => ⟨⟨0, (), rfl, hpost, ⟨by rw [ht]; exact hP, hD⟩⟩, hS.F ht⟩) hS.2.2 dX1_rule_52
      · skip
        exact absurd ((nI_eq (by omega) (by omega)).mp c_29) hne
    · skip
      have c_18 := gB_f c_18
      exact absurd (mIn_ok (j := wb) (n := 2 * g) (by omega) (by omega)) (by rw [c_18]; decide)
set_option maxHeartbeats 4000000 in
set_option maxRecDepth 100000 in
theorem c_X1_turn (l : Launch) (dC : Nat → ClassId) (dI : Nat → Nat → Nat) (h : Nat → Nat) (kc : Nat → ClassId) (f1 : Nat → Int32) (f2 : Nat → Int32) (of : Nat → Int32) (ro : Nat → Int32) (fa : Nat → Int32) (th : Int32) (g : Nat) (r : Nat) (x1 : Int32) (x2 : Int32) (K : Bk) (x : Nat) (sz : Nat) (hBk : mOK K g r f1 f2 of) (hg : g ≤ 10) (hr30 : r ≤ 30) (hx2 : x < r) : Met l yX1_turn wsX1_turn ({ frames := 1, cells := 0, slots := 0, locals := 22 }) (gcPM (dC, dI) [.ref (h 0), .int (nI x)] (gmW h kc f1 f2 of ro fa th (nI g) (nI r) x1 x2) (gmT kc) sz) (va_Qi (fun (rv : Int32) (_u : Unit) => rv = gB (!K.2.2.2 x)) (fun _u t9 => va_P (dC, dI) vwCl (gmW h kc f1 f2 (upd of x (gB (K.2.2.2 x))) ro fa 0 (nI g) (nI r) x1 x2) t9.heap ∧ va_D (va_A (gmW h kc f1 f2 of ro fa th (nI g) (nI r) x1 x2) sz) (gmW h kc f1 f2 (upd of x (gB (K.2.2.2 x))) ro fa 0 (nI g) (nI r) x1 x2)) (va_A (gmW h kc f1 f2 of ro fa th (nI g) (nI r) x1 x2) sz)) 0 0 (va_A (gmW h kc f1 f2 of ro fa th (nI g) (nI r) x1 x2) sz) := by
  refine Met.ofW (cc := cX1_turn) (maxL := 2) (ret := (some .boolean)) (by decide) rfl ?_
  intro p e s m args below meth c s₁ B hml hv
  obtain ⟨rfl, hsz, hP, hK, hD0⟩ := hv
  have hx := B.exec
  have hb := B.bytes
  have hr := B.returns
  have hts := atoms_spec (ws := wsX1_turn) B.pre
  have hown : s.vm.findClass RX1 = some m.cls := findClass_of_methodNamed B.named
  have hlocks := B.notSynchronized
  subst hsz
  have hD := hD0.self (sz := s.heap.size)
  generalize hAe : va_A (gmW h kc f1 f2 of ro fa th (nI g) (nI r) x1 x2) s.heap.size = A at hD ⊢
  have hA : ∀ q : Nat, s.heap.size ≤ q → A q := fun q h => by rw [← hAe]; exact Or.inr h
  have hS : va_S A s.heap s.heap [] := va_S.rf
  have hP : va_P (dC, dI) vwCl (gmW h kc f1 f2 of ro fa th (nI g) (nI r) x1 x2) s.heap := hP
  have hin1 : ∀ w ∈ wsX10, w ∈ wsX1_turn := by decide +kernel
  have hl := lv_entry [.ref (h 0), .int (nI x)] (n := 2) (Nat.le_of_ble_eq_true rfl)
  rw [lg_entry_eq]
  generalize (lg_sl [.ref (h 0), .int (nI x)] ++ List.replicate (2 - (lg_sl [.ref (h 0), .int (nI x)]).length) Slot.unset).toArray = ls at hl ⊢
  have hl : lv_has ls 2 [(0, .ref (h 0)), (1, .int (nI x))] := hl
  refine lv_aload_n hx hb dX1_turn_0 rfl (lv_at hl 0 rfl) ?_
  refine lv_iload_n hx hb dX1_turn_1 rfl (lv_at hl 1 rfl) ?_
  refine lv_iconst (v := 0) hx hb dX1_turn_2 (by decide) ?_
  refine lv_aload_n hx hb dX1_turn_3 rfl (lv_at hl 0 rfl) ?_
  refine va_get (D := (dC, dI)) (ci := 1) (v := .int (nI r)) (C := RX1) (T := TX1) (N := 10) hx hb hts hin1 hown hK hP 0 rfl rfl 2 (by decide) (hts (.fieldLink RX1 51 "GuestChairsModel" "rules" "I") (by decide +kernel)) (fun _ h9 => h9) rfl dX1_turn_4 ?_
  refine lv_iconst (v := 1) hx hb dX1_turn_7 (by decide) ?_
  refine lv_isub hx hb dX1_turn_8 ?_
  refine va_calli (va_runS (As := [.int (nI x), .int 0, .int (nI r - 1)]) (rest := [.ref (h 0)]) ⟨hx, hb, hml, hown, hts⟩ (c_X1_isIn l (nI x) 0 (nI r - 1)) (va_cwS 3 hts gX1_turn_X1_isIn rfl rfl rfl (by decide +kernel) ⟨Nat.le_of_ble_eq_true rfl, Nat.le_of_ble_eq_true rfl⟩) ⟨fun a U g mk q => q, fun U hU hW => ⟨rfl, trivial⟩⟩ rfl rfl hl.1 rfl (lv_room (Nat.le_of_ble_eq_true rfl)) dX1_turn_9 ⟨Nat.zero_le _, Nat.zero_le _⟩) hS (fun q _ h => h.elim) (fun q h => h.elim) (fun r1 u t H locs ht hvm hw hB hz1 hk1 hS => ?_)
  have hP := gc_keep hP hk1
  have hw : r1 = gB (mIn (nI x) 0 (nI r - 1)) := hw
  subst hw
  clear hw
  clear hB hz1 hk1 ht hvm
  refine lv_if_eq (tgt := 19) hx hb dX1_turn_12 (by decide) (fun c_12 => ?_) (fun c_12 => ?_)
  · skip
    have c_12 := gB_f c_12
    exact absurd (mIn_ok (j := x) (n := r) (by omega) (by omega)) (by rw [c_12]; decide)
  · skip
    have c_12 := gB_t c_12
    refine lv_iconst (v := 0) hx hb dX1_turn_15 (by decide) ?_
    refine lv_goto (tgt := 20) hx hb dX1_turn_16 (by decide) ?_
    refine va_put (D := (dC, dI)) (ci := 1) (v := .int 0) (ty := .int) (C := RX1) (T := TX1) (N := 10) hx hb hts hin1 tyX1 tyX1_ok nmX1 hown hK hP hD hS 0 rfl rfl 0 (by decide) (hts (.fieldLink RX1 33 "GuestChairsModel" "thrown" "I") (by decide +kernel)) (fun _ h9 => h9) rfl (by decide +kernel) rfl rfl (Nat.le_of_ble_eq_true rfl) dX1_turn_20 (fun H locs hP hD hS => ?_)
    have hP : va_P (dC, dI) vwCl (gmW h kc f1 f2 of ro fa 0 (nI g) (nI r) x1 x2) H := hP
    have hD : va_D A (gmW h kc f1 f2 of ro fa 0 (nI g) (nI r) x1 x2) := hD
    refine lv_aload_n hx hb dX1_turn_23 rfl (lv_at hl 0 rfl) ?_
    refine va_get (D := (dC, dI)) (ci := 1) (v := .int 0) (C := RX1) (T := TX1) (N := 10) hx hb hts hin1 hown hK hP 0 rfl rfl 0 (by decide) (hts (.fieldLink RX1 33 "GuestChairsModel" "thrown" "I") (by decide +kernel)) (fun _ h9 => h9) rfl dX1_turn_24 ?_
    refine lv_if_eq (tgt := 32) hx hb dX1_turn_27 (by decide) (fun c_27 => ?_) (fun c_27 => ?_)
    · skip
      refine lv_aload_n hx hb dX1_turn_32 rfl (lv_at hl 0 rfl) ?_
      refine va_get (D := (dC, dI)) (ci := 1) (v := .ref (h 3)) (C := RX1) (T := TX1) (N := 10) hx hb hts hin1 hown hK hP 0 rfl rfl 5 (by decide) (hts (.fieldLink RX1 16 "GuestChairsModel" "off" "[Z") (by decide +kernel)) (fun _ h9 => h9) rfl dX1_turn_33 ?_
      refine lv_iload_n hx hb dX1_turn_36 rfl (lv_at hl 1 rfl) ?_
      refine lv_aload_n hx hb dX1_turn_37 rfl (lv_at hl 0 rfl) ?_
      refine va_get (D := (dC, dI)) (ci := 1) (v := .ref (h 3)) (C := RX1) (T := TX1) (N := 10) hx hb hts hin1 hown hK hP 0 rfl rfl 5 (by decide) (hts (.fieldLink RX1 16 "GuestChairsModel" "off" "[Z") (by decide +kernel)) (fun _ h9 => h9) rfl dX1_turn_38 ?_
      refine lv_iload_n hx hb dX1_turn_41 rfl (lv_at hl 1 rfl) ?_
      refine va_zald hx hb hK hP 3 2 rfl rfl (vp_in_nI (n := x) (by omega) (by decide)) dX1_turn_42 ?_
      rw [nI_clamp (n := x) (by omega)]
      refine gc_topi (y := gB (!K.2.2.2 x)) ((hBk.2 x hx2).2.2.2.2) ?_
      refine lv_if_ne (tgt := 50) hx hb dX1_turn_43 (by decide) (fun c_43 => ?_) (fun c_43 => ?_)
      · skip
        have c_43 := gB_t c_43
        have hon : K.2.2.2 x = false := by simpa using c_43
        refine lv_iconst (v := 0) hx hb dX1_turn_50 (by decide) ?_
        refine va_zast hx hb hK hP hD hS 3 2 rfl rfl (vp_in_nI (n := x) (by omega) (by decide)) dX1_turn_51 (fun H locs hP hD hS => ?_)
        rw [nI_clamp (n := x) (by omega)] at hP hD
        rw [show vp_nar .boolean 0 = 0 from by decide] at hP hD
        have hP : va_P (dC, dI) vwCl (gmW h kc f1 f2 (upd of x 0) ro fa 0 (nI g) (nI r) x1 x2) H := hP
        have hD : va_D A (gmW h kc f1 f2 (upd of x 0) ro fa 0 (nI g) (nI r) x1 x2) := hD
        refine lv_aload_n hx hb dX1_turn_52 rfl (lv_at hl 0 rfl) ?_
        refine va_get (D := (dC, dI)) (ci := 1) (v := .ref (h 3)) (C := RX1) (T := TX1) (N := 10) hx hb hts hin1 hown hK hP 0 rfl rfl 5 (by decide) (hts (.fieldLink RX1 16 "GuestChairsModel" "off" "[Z") (by decide +kernel)) (fun _ h9 => h9) rfl dX1_turn_53 ?_
        refine lv_iload_n hx hb dX1_turn_56 rfl (lv_at hl 1 rfl) ?_
        refine va_zald hx hb hK hP 3 2 rfl rfl (vp_in_nI (n := x) (by omega) (by decide)) dX1_turn_57 ?_
        rw [nI_clamp (n := x) (by omega)]
        refine gc_topi (y := 0) (by simp [upd]) ?_
        refine lv_if_ne (tgt := 65) hx hb dX1_turn_58 (by decide) (fun c_58 => ?_) (fun c_58 => ?_)
        · skip
          exact absurd (by decide) c_58
        · skip
          refine lv_iconst (v := 1) hx hb dX1_turn_61 (by decide) ?_
          refine lv_goto (tgt := 66) hx hb dX1_turn_62 (by decide) ?_
          have hpost : (1 : Int32) = gB (!K.2.2.2 x) := by simp [gB, hon]
          have hWe : ((gmW h kc f1 f2 (upd of x 0) ro fa 0 (nI g) (nI r) x1 x2) : va_W) = (gmW h kc f1 f2 (upd of x (gB (K.2.2.2 x))) ro fa 0 (nI g) (nI r) x1 x2) := by simp [gB, hon]
          rw [hWe] at hP hD
          exact W.zret (ty := .boolean) (v := 1) hx hb hr (by first | rfl | decide | exact gB_nar _) (fun t ht hW => ⟨⟨1, (), rfl, hpost, ⟨by rw [ht]; exact hP, hD⟩⟩, hS.F ht⟩) hS.2.2 dX1_turn_66
      · skip
        have c_43 := gB_f c_43
        have hon : K.2.2.2 x = true := by simpa using c_43
        refine lv_iconst (v := 1) hx hb dX1_turn_46 (by decide) ?_
        refine lv_goto (tgt := 51) hx hb dX1_turn_47 (by decide) ?_
        refine va_zast hx hb hK hP hD hS 3 2 rfl rfl (vp_in_nI (n := x) (by omega) (by decide)) dX1_turn_51 (fun H locs hP hD hS => ?_)
        rw [nI_clamp (n := x) (by omega)] at hP hD
        rw [show vp_nar .boolean 1 = 1 from by decide] at hP hD
        have hP : va_P (dC, dI) vwCl (gmW h kc f1 f2 (upd of x 1) ro fa 0 (nI g) (nI r) x1 x2) H := hP
        have hD : va_D A (gmW h kc f1 f2 (upd of x 1) ro fa 0 (nI g) (nI r) x1 x2) := hD
        refine lv_aload_n hx hb dX1_turn_52 rfl (lv_at hl 0 rfl) ?_
        refine va_get (D := (dC, dI)) (ci := 1) (v := .ref (h 3)) (C := RX1) (T := TX1) (N := 10) hx hb hts hin1 hown hK hP 0 rfl rfl 5 (by decide) (hts (.fieldLink RX1 16 "GuestChairsModel" "off" "[Z") (by decide +kernel)) (fun _ h9 => h9) rfl dX1_turn_53 ?_
        refine lv_iload_n hx hb dX1_turn_56 rfl (lv_at hl 1 rfl) ?_
        refine va_zald hx hb hK hP 3 2 rfl rfl (vp_in_nI (n := x) (by omega) (by decide)) dX1_turn_57 ?_
        rw [nI_clamp (n := x) (by omega)]
        refine gc_topi (y := 1) (by simp [upd]) ?_
        refine lv_if_ne (tgt := 65) hx hb dX1_turn_58 (by decide) (fun c_58 => ?_) (fun c_58 => ?_)
        · skip
          refine lv_iconst (v := 0) hx hb dX1_turn_65 (by decide) ?_
          have hpost : (0 : Int32) = gB (!K.2.2.2 x) := by simp [gB, hon]
          have hWe : ((gmW h kc f1 f2 (upd of x 1) ro fa 0 (nI g) (nI r) x1 x2) : va_W) = (gmW h kc f1 f2 (upd of x (gB (K.2.2.2 x))) ro fa 0 (nI g) (nI r) x1 x2) := by simp [gB, hon]
          rw [hWe] at hP hD
          exact W.zret (ty := .boolean) (v := 0) hx hb hr (by first | rfl | decide | exact gB_nar _) (fun t ht hW => ⟨⟨0, (), rfl, hpost, ⟨by rw [ht]; exact hP, hD⟩⟩, hS.F ht⟩) hS.2.2 dX1_turn_66
        · skip
          exact absurd c_58 (by decide)
    · skip
      exact absurd (by decide) c_27
set_option maxHeartbeats 4000000 in
set_option maxRecDepth 100000 in
theorem c_X1_turn_no (l : Launch) (dC : Nat → ClassId) (dI : Nat → Nat → Nat) (h : Nat → Nat) (kc : Nat → ClassId) (f1 : Nat → Int32) (f2 : Nat → Int32) (of : Nat → Int32) (ro : Nat → Int32) (fa : Nat → Int32) (th : Int32) (g : Nat) (r : Nat) (x1 : Int32) (x2 : Int32) (v : Int32) (sz : Nat) (hr30 : r ≤ 30) (hno : ∀ j : Nat, j < r → v ≠ nI j) : Met l yX1_turn wsX1_turn ({ frames := 1, cells := 0, slots := 0, locals := 22 }) (gcPM (dC, dI) [.ref (h 0), .int v] (gmW h kc f1 f2 of ro fa th (nI g) (nI r) x1 x2) (gmT kc) sz) (va_Qi (fun (rv : Int32) (_u : Unit) => True) (fun _u t9 => va_P (dC, dI) vwCl (gmW h kc f1 f2 of ro fa 1 (nI g) (nI r) x1 x2) t9.heap ∧ va_D (va_A (gmW h kc f1 f2 of ro fa th (nI g) (nI r) x1 x2) sz) (gmW h kc f1 f2 of ro fa 1 (nI g) (nI r) x1 x2)) (va_A (gmW h kc f1 f2 of ro fa th (nI g) (nI r) x1 x2) sz)) 0 0 (va_A (gmW h kc f1 f2 of ro fa th (nI g) (nI r) x1 x2) sz) := by
  refine Met.ofW (cc := cX1_turn) (maxL := 2) (ret := (some .boolean)) (by decide) rfl ?_
  intro p e s m args below meth c s₁ B hml hv
  obtain ⟨rfl, hsz, hP, hK, hD0⟩ := hv
  have hx := B.exec
  have hb := B.bytes
  have hr := B.returns
  have hts := atoms_spec (ws := wsX1_turn) B.pre
  have hown : s.vm.findClass RX1 = some m.cls := findClass_of_methodNamed B.named
  have hlocks := B.notSynchronized
  subst hsz
  have hD := hD0.self (sz := s.heap.size)
  generalize hAe : va_A (gmW h kc f1 f2 of ro fa th (nI g) (nI r) x1 x2) s.heap.size = A at hD ⊢
  have hA : ∀ q : Nat, s.heap.size ≤ q → A q := fun q h => by rw [← hAe]; exact Or.inr h
  have hS : va_S A s.heap s.heap [] := va_S.rf
  have hP : va_P (dC, dI) vwCl (gmW h kc f1 f2 of ro fa th (nI g) (nI r) x1 x2) s.heap := hP
  have hin1 : ∀ w ∈ wsX10, w ∈ wsX1_turn := by decide +kernel
  have hl := lv_entry [.ref (h 0), .int v] (n := 2) (Nat.le_of_ble_eq_true rfl)
  rw [lg_entry_eq]
  generalize (lg_sl [.ref (h 0), .int v] ++ List.replicate (2 - (lg_sl [.ref (h 0), .int v]).length) Slot.unset).toArray = ls at hl ⊢
  have hl : lv_has ls 2 [(0, .ref (h 0)), (1, .int v)] := hl
  refine lv_aload_n hx hb dX1_turn_0 rfl (lv_at hl 0 rfl) ?_
  refine lv_iload_n hx hb dX1_turn_1 rfl (lv_at hl 1 rfl) ?_
  refine lv_iconst (v := 0) hx hb dX1_turn_2 (by decide) ?_
  refine lv_aload_n hx hb dX1_turn_3 rfl (lv_at hl 0 rfl) ?_
  refine va_get (D := (dC, dI)) (ci := 1) (v := .int (nI r)) (C := RX1) (T := TX1) (N := 10) hx hb hts hin1 hown hK hP 0 rfl rfl 2 (by decide) (hts (.fieldLink RX1 51 "GuestChairsModel" "rules" "I") (by decide +kernel)) (fun _ h9 => h9) rfl dX1_turn_4 ?_
  refine lv_iconst (v := 1) hx hb dX1_turn_7 (by decide) ?_
  refine lv_isub hx hb dX1_turn_8 ?_
  refine va_calli (va_runS (As := [.int v, .int 0, .int (nI r - 1)]) (rest := [.ref (h 0)]) ⟨hx, hb, hml, hown, hts⟩ (c_X1_isIn l v 0 (nI r - 1)) (va_cwS 3 hts gX1_turn_X1_isIn rfl rfl rfl (by decide +kernel) ⟨Nat.le_of_ble_eq_true rfl, Nat.le_of_ble_eq_true rfl⟩) ⟨fun a U g mk q => q, fun U hU hW => ⟨rfl, trivial⟩⟩ rfl rfl hl.1 rfl (lv_room (Nat.le_of_ble_eq_true rfl)) dX1_turn_9 ⟨Nat.zero_le _, Nat.zero_le _⟩) hS (fun q _ h => h.elim) (fun q h => h.elim) (fun r1 u t H locs ht hvm hw hB hz1 hk1 hS => ?_)
  have hP := gc_keep hP hk1
  have hw : r1 = gB (mIn v 0 (nI r - 1)) := hw
  subst hw
  clear hw
  clear hB hz1 hk1 ht hvm
  refine lv_if_eq (tgt := 19) hx hb dX1_turn_12 (by decide) (fun c_12 => ?_) (fun c_12 => ?_)
  · skip
    have c_12 := gB_f c_12
    refine lv_iconst (v := 1) hx hb dX1_turn_19 (by decide) ?_
    refine va_put (D := (dC, dI)) (ci := 1) (v := .int 1) (ty := .int) (C := RX1) (T := TX1) (N := 10) hx hb hts hin1 tyX1 tyX1_ok nmX1 hown hK hP hD hS 0 rfl rfl 0 (by decide) (hts (.fieldLink RX1 33 "GuestChairsModel" "thrown" "I") (by decide +kernel)) (fun _ h9 => h9) rfl (by decide +kernel) rfl rfl (Nat.le_of_ble_eq_true rfl) dX1_turn_20 (fun H locs hP hD hS => ?_)
    have hP : va_P (dC, dI) vwCl (gmW h kc f1 f2 of ro fa 1 (nI g) (nI r) x1 x2) H := hP
    have hD : va_D A (gmW h kc f1 f2 of ro fa 1 (nI g) (nI r) x1 x2) := hD
    refine lv_aload_n hx hb dX1_turn_23 rfl (lv_at hl 0 rfl) ?_
    refine va_get (D := (dC, dI)) (ci := 1) (v := .int 1) (C := RX1) (T := TX1) (N := 10) hx hb hts hin1 hown hK hP 0 rfl rfl 0 (by decide) (hts (.fieldLink RX1 33 "GuestChairsModel" "thrown" "I") (by decide +kernel)) (fun _ h9 => h9) rfl dX1_turn_24 ?_
    refine lv_if_eq (tgt := 32) hx hb dX1_turn_27 (by decide) (fun c_27 => ?_) (fun c_27 => ?_)
    · skip
      exact absurd c_27 (by decide)
    · skip
      refine lv_iconst (v := 0) hx hb dX1_turn_30 (by decide) ?_
      have hpost : True := trivial
      exact W.zret (ty := .boolean) (v := 0) hx hb hr (by first | rfl | decide | exact gB_nar _) (fun t ht hW => ⟨⟨0, (), rfl, hpost, ⟨by rw [ht]; exact hP, hD⟩⟩, hS.F ht⟩) hS.2.2 dX1_turn_31
  · skip
    have c_12 := gB_t c_12
    exact absurd c_12 (by rw [mIn_no (by omega) hno]; decide)
set_option maxHeartbeats 4000000 in
set_option maxRecDepth 100000 in
theorem c_X1_told (l : Launch) (dC : Nat → ClassId) (dI : Nat → Nat → Nat) (h : Nat → Nat) (kc : Nat → ClassId) (f1 : Nat → Int32) (f2 : Nat → Int32) (of : Nat → Int32) (ro : Nat → Int32) (fa : Nat → Int32) (th : Int32) (g : Nat) (r : Nat) (x1 : Int32) (x2 : Int32) (K : Bk) (x : Nat) (w : Nat) (sz : Nat) (hBk : mOK K g r f1 f2 of) (hg : g ≤ 10) (hr30 : r ≤ 30) (hx2 : x < r) (hw : w < 3) : Met l yX1_told wsX1_told ({ frames := 1, cells := 0, slots := 0, locals := 22 }) (gcPM (dC, dI) [.ref (h 0), .int (nI x), .int (nI w)] (gmW h kc f1 f2 of ro fa th (nI g) (nI r) x1 x2) (gmT kc) sz) (va_Qi (fun (rv : Int32) (_u : Unit) => rv = mTd K x w) (fun _u t9 => va_P (dC, dI) vwCl (gmW h kc f1 f2 of ro fa 0 (nI g) (nI r) x1 x2) t9.heap ∧ va_D (va_A (gmW h kc f1 f2 of ro fa th (nI g) (nI r) x1 x2) sz) (gmW h kc f1 f2 of ro fa 0 (nI g) (nI r) x1 x2)) (va_A (gmW h kc f1 f2 of ro fa th (nI g) (nI r) x1 x2) sz)) 0 0 (va_A (gmW h kc f1 f2 of ro fa th (nI g) (nI r) x1 x2) sz) := by
  refine Met.ofW (cc := cX1_told) (maxL := 3) (ret := (some .int)) (by decide) rfl ?_
  intro p e s m args below meth c s₁ B hml hv
  obtain ⟨rfl, hsz, hP, hK, hD0⟩ := hv
  have hx := B.exec
  have hb := B.bytes
  have hr := B.returns
  have hts := atoms_spec (ws := wsX1_told) B.pre
  have hown : s.vm.findClass RX1 = some m.cls := findClass_of_methodNamed B.named
  have hlocks := B.notSynchronized
  subst hsz
  have hD := hD0.self (sz := s.heap.size)
  generalize hAe : va_A (gmW h kc f1 f2 of ro fa th (nI g) (nI r) x1 x2) s.heap.size = A at hD ⊢
  have hA : ∀ q : Nat, s.heap.size ≤ q → A q := fun q h => by rw [← hAe]; exact Or.inr h
  have hS : va_S A s.heap s.heap [] := va_S.rf
  have hP : va_P (dC, dI) vwCl (gmW h kc f1 f2 of ro fa th (nI g) (nI r) x1 x2) s.heap := hP
  have hin1 : ∀ w ∈ wsX10, w ∈ wsX1_told := by decide +kernel
  have hl := lv_entry [.ref (h 0), .int (nI x), .int (nI w)] (n := 3) (Nat.le_of_ble_eq_true rfl)
  rw [lg_entry_eq]
  generalize (lg_sl [.ref (h 0), .int (nI x), .int (nI w)] ++ List.replicate (3 - (lg_sl [.ref (h 0), .int (nI x), .int (nI w)]).length) Slot.unset).toArray = ls at hl ⊢
  have hl : lv_has ls 3 [(0, .ref (h 0)), (1, .int (nI x)), (2, .int (nI w))] := hl
  refine lv_aload_n hx hb dX1_told_0 rfl (lv_at hl 0 rfl) ?_
  refine lv_iconst (v := 0) hx hb dX1_told_1 (by decide) ?_
  refine va_put (D := (dC, dI)) (ci := 1) (v := .int 0) (ty := .int) (C := RX1) (T := TX1) (N := 10) hx hb hts hin1 tyX1 tyX1_ok nmX1 hown hK hP hD hS 0 rfl rfl 0 (by decide) (hts (.fieldLink RX1 33 "GuestChairsModel" "thrown" "I") (by decide +kernel)) (fun _ h9 => h9) rfl (by decide +kernel) rfl rfl (Nat.le_of_ble_eq_true rfl) dX1_told_2 (fun H locs hP hD hS => ?_)
  have hP : va_P (dC, dI) vwCl (gmW h kc f1 f2 of ro fa 0 (nI g) (nI r) x1 x2) H := hP
  have hD : va_D A (gmW h kc f1 f2 of ro fa 0 (nI g) (nI r) x1 x2) := hD
  refine lv_iload_n hx hb dX1_told_5 rfl (lv_at hl 1 rfl) ?_
  refine lv_iconst (v := 0) hx hb dX1_told_6 (by decide) ?_
  refine lv_aload_n hx hb dX1_told_7 rfl (lv_at hl 0 rfl) ?_
  refine va_get (D := (dC, dI)) (ci := 1) (v := .int (nI r)) (C := RX1) (T := TX1) (N := 10) hx hb hts hin1 hown hK hP 0 rfl rfl 2 (by decide) (hts (.fieldLink RX1 51 "GuestChairsModel" "rules" "I") (by decide +kernel)) (fun _ h9 => h9) rfl dX1_told_8 ?_
  refine lv_iconst (v := 1) hx hb dX1_told_11 (by decide) ?_
  refine lv_isub hx hb dX1_told_12 ?_
  refine va_calli (va_runS (As := [.int (nI x), .int 0, .int (nI r - 1)]) (rest := []) ⟨hx, hb, hml, hown, hts⟩ (c_X1_isIn l (nI x) 0 (nI r - 1)) (va_cwS 3 hts gX1_told_X1_isIn rfl rfl rfl (by decide +kernel) ⟨Nat.le_of_ble_eq_true rfl, Nat.le_of_ble_eq_true rfl⟩) ⟨fun a U g mk q => q, fun U hU hW => ⟨rfl, trivial⟩⟩ rfl rfl hl.1 rfl (lv_room (Nat.le_of_ble_eq_true rfl)) dX1_told_13 ⟨Nat.zero_le _, Nat.zero_le _⟩) hS (fun q _ h => h.elim) (fun q h => h.elim) (fun r1 u t H locs ht hvm hw hB hz1 hk1 hS => ?_)
  have hP := gc_keep hP hk1
  have hw : r1 = gB (mIn (nI x) 0 (nI r - 1)) := hw
  subst hw
  clear hw
  clear hB hz1 hk1 ht hvm
  refine lv_if_eq (tgt := 37) hx hb dX1_told_16 (by decide) (fun c_16 => ?_) (fun c_16 => ?_)
  · skip
    have c_16 := gB_f c_16
    exact absurd (mIn_ok (j := x) (n := r) (by omega) (by omega)) (by rw [c_16]; decide)
  · skip
    have c_16 := gB_t c_16
    refine lv_iload_n hx hb dX1_told_19 rfl (lv_at hl 2 rfl) ?_
    refine lv_iconst (v := 0) hx hb dX1_told_20 (by decide) ?_
    refine lv_iconst (v := 2) hx hb dX1_told_21 (by decide) ?_
    refine gc_topi (y := (nI 3 - 1)) (by decide) ?_
    refine va_calli (va_runS (As := [.int (nI w), .int 0, .int (nI 3 - 1)]) (rest := []) ⟨hx, hb, hml, hown, hts⟩ (c_X1_isIn l (nI w) 0 (nI 3 - 1)) (va_cwS 3 hts gX1_told_X1_isIn rfl rfl rfl (by decide +kernel) ⟨Nat.le_of_ble_eq_true rfl, Nat.le_of_ble_eq_true rfl⟩) ⟨fun a U g mk q => q, fun U hU hW => ⟨rfl, trivial⟩⟩ rfl rfl hl.1 rfl (lv_room (Nat.le_of_ble_eq_true rfl)) dX1_told_22 ⟨Nat.zero_le _, Nat.zero_le _⟩) hS (fun q _ h => h.elim) (fun q h => h.elim) (fun r2 u t H locs ht hvm hw hB hz1 hk1 hS => ?_)
    have hP := gc_keep hP hk1
    have hw : r2 = gB (mIn (nI w) 0 (nI 3 - 1)) := hw
    subst hw
    clear hw
    clear hB hz1 hk1 ht hvm
    refine lv_if_eq (tgt := 37) hx hb dX1_told_25 (by decide) (fun c_25 => ?_) (fun c_25 => ?_)
    · skip
      have c_25 := gB_f c_25
      exact absurd (mIn_ok (j := w) (n := 3) (by omega) (by omega)) (by rw [c_25]; decide)
    · skip
      have c_25 := gB_t c_25
      refine lv_aload_n hx hb dX1_told_28 rfl (lv_at hl 0 rfl) ?_
      refine lv_iload_n hx hb dX1_told_29 rfl (lv_at hl 1 rfl) ?_
      refine lv_iload_n hx hb dX1_told_30 rfl (lv_at hl 2 rfl) ?_
      have hPc : va_P (dC, dI) vwCl (gmW h kc f1 f2 of ro fa 0 (nI g) (nI r) x1 x2) _ := hP.sub [0, 1, 2, 3, 4, 5] rfl
      have hKc : va_K (dC, dI) vwCl (gmT kc) s := hK.sub [0, 1, 2, 3, 4] rfl
      refine va_calli (va_runV (As := [.int (nI x), .int (nI w)]) (rest := []) ⟨hx, hb, hml, hown, hts⟩ (c_X1_ruleTold l dC dI h kc f1 f2 of ro fa 0 g r x1 x2 K x w (by first | assumption | omega) (by first | assumption | omega) (by first | assumption | omega) (by first | assumption | omega) (by first | assumption | omega)) (cwV 2 hts gX1_told_X1_ruleTold rfl rfl rfl (by decide +kernel) ⟨Nat.le_of_ble_eq_true rfl, Nat.le_of_ble_eq_true rfl⟩) ⟨gcPR_blind, va_recv hK hP (ci := 1) (q0 := 0) rfl rfl, fun U hU hW => ⟨rfl, by rw [hU]; exact hPc, va_K.moved hW.alike hKc⟩⟩ rfl rfl hl.1 rfl (lv_room (Nat.le_of_ble_eq_true rfl)) dX1_told_31 ⟨Nat.zero_le _, Nat.zero_le _⟩) hS (fun q _ h => h.elim) (fun q h => h.elim) (fun r3 u t H locs ht hvm hw hB hz1 hk1 hS => ?_)
      have hP := gc_keep hP hk1
      have hw : r3 = mTd K x w := hw
      subst hw
      clear hw
      clear hB hz1 hk1 ht hvm
      clear hPc hKc
      refine lv_goto (tgt := 42) hx hb dX1_told_34 (by decide) ?_
      have hpost : (mTd K x w) = mTd K x w := by first | rfl | assumption
      exact W.iret (v := mTd K x w) hx hb hr (fun t ht hW => ⟨⟨mTd K x w, (), rfl, hpost, ⟨by rw [ht]; exact hP, hD⟩⟩, hS.F ht⟩) hS.2.2 dX1_told_42
set_option maxHeartbeats 4000000 in
set_option maxRecDepth 100000 in
theorem c_X1_told_no (l : Launch) (dC : Nat → ClassId) (dI : Nat → Nat → Nat) (h : Nat → Nat) (kc : Nat → ClassId) (f1 : Nat → Int32) (f2 : Nat → Int32) (of : Nat → Int32) (ro : Nat → Int32) (fa : Nat → Int32) (th : Int32) (g : Nat) (r : Nat) (x1 : Int32) (x2 : Int32) (v1 : Int32) (v2 : Int32) (sz : Nat) (hr30 : r ≤ 30) (hno : (∀ j : Nat, j < r → v1 ≠ nI j) ∨ ∀ j : Nat, j < 3 → v2 ≠ nI j) : Met l yX1_told wsX1_told ({ frames := 1, cells := 0, slots := 0, locals := 22 }) (gcPM (dC, dI) [.ref (h 0), .int v1, .int v2] (gmW h kc f1 f2 of ro fa th (nI g) (nI r) x1 x2) (gmT kc) sz) (va_Qi (fun (rv : Int32) (_u : Unit) => True) (fun _u t9 => va_P (dC, dI) vwCl (gmW h kc f1 f2 of ro fa 1 (nI g) (nI r) x1 x2) t9.heap ∧ va_D (va_A (gmW h kc f1 f2 of ro fa th (nI g) (nI r) x1 x2) sz) (gmW h kc f1 f2 of ro fa 1 (nI g) (nI r) x1 x2)) (va_A (gmW h kc f1 f2 of ro fa th (nI g) (nI r) x1 x2) sz)) 0 0 (va_A (gmW h kc f1 f2 of ro fa th (nI g) (nI r) x1 x2) sz) := by
  refine Met.ofW (cc := cX1_told) (maxL := 3) (ret := (some .int)) (by decide) rfl ?_
  intro p e s m args below meth c s₁ B hml hv
  obtain ⟨rfl, hsz, hP, hK, hD0⟩ := hv
  have hx := B.exec
  have hb := B.bytes
  have hr := B.returns
  have hts := atoms_spec (ws := wsX1_told) B.pre
  have hown : s.vm.findClass RX1 = some m.cls := findClass_of_methodNamed B.named
  have hlocks := B.notSynchronized
  subst hsz
  have hD := hD0.self (sz := s.heap.size)
  generalize hAe : va_A (gmW h kc f1 f2 of ro fa th (nI g) (nI r) x1 x2) s.heap.size = A at hD ⊢
  have hA : ∀ q : Nat, s.heap.size ≤ q → A q := fun q h => by rw [← hAe]; exact Or.inr h
  have hS : va_S A s.heap s.heap [] := va_S.rf
  have hP : va_P (dC, dI) vwCl (gmW h kc f1 f2 of ro fa th (nI g) (nI r) x1 x2) s.heap := hP
  have hin1 : ∀ w ∈ wsX10, w ∈ wsX1_told := by decide +kernel
  have hl := lv_entry [.ref (h 0), .int v1, .int v2] (n := 3) (Nat.le_of_ble_eq_true rfl)
  rw [lg_entry_eq]
  generalize (lg_sl [.ref (h 0), .int v1, .int v2] ++ List.replicate (3 - (lg_sl [.ref (h 0), .int v1, .int v2]).length) Slot.unset).toArray = ls at hl ⊢
  have hl : lv_has ls 3 [(0, .ref (h 0)), (1, .int v1), (2, .int v2)] := hl
  refine lv_aload_n hx hb dX1_told_0 rfl (lv_at hl 0 rfl) ?_
  refine lv_iconst (v := 0) hx hb dX1_told_1 (by decide) ?_
  refine va_put (D := (dC, dI)) (ci := 1) (v := .int 0) (ty := .int) (C := RX1) (T := TX1) (N := 10) hx hb hts hin1 tyX1 tyX1_ok nmX1 hown hK hP hD hS 0 rfl rfl 0 (by decide) (hts (.fieldLink RX1 33 "GuestChairsModel" "thrown" "I") (by decide +kernel)) (fun _ h9 => h9) rfl (by decide +kernel) rfl rfl (Nat.le_of_ble_eq_true rfl) dX1_told_2 (fun H locs hP hD hS => ?_)
  have hP : va_P (dC, dI) vwCl (gmW h kc f1 f2 of ro fa 0 (nI g) (nI r) x1 x2) H := hP
  have hD : va_D A (gmW h kc f1 f2 of ro fa 0 (nI g) (nI r) x1 x2) := hD
  refine lv_iload_n hx hb dX1_told_5 rfl (lv_at hl 1 rfl) ?_
  refine lv_iconst (v := 0) hx hb dX1_told_6 (by decide) ?_
  refine lv_aload_n hx hb dX1_told_7 rfl (lv_at hl 0 rfl) ?_
  refine va_get (D := (dC, dI)) (ci := 1) (v := .int (nI r)) (C := RX1) (T := TX1) (N := 10) hx hb hts hin1 hown hK hP 0 rfl rfl 2 (by decide) (hts (.fieldLink RX1 51 "GuestChairsModel" "rules" "I") (by decide +kernel)) (fun _ h9 => h9) rfl dX1_told_8 ?_
  refine lv_iconst (v := 1) hx hb dX1_told_11 (by decide) ?_
  refine lv_isub hx hb dX1_told_12 ?_
  refine va_calli (va_runS (As := [.int v1, .int 0, .int (nI r - 1)]) (rest := []) ⟨hx, hb, hml, hown, hts⟩ (c_X1_isIn l v1 0 (nI r - 1)) (va_cwS 3 hts gX1_told_X1_isIn rfl rfl rfl (by decide +kernel) ⟨Nat.le_of_ble_eq_true rfl, Nat.le_of_ble_eq_true rfl⟩) ⟨fun a U g mk q => q, fun U hU hW => ⟨rfl, trivial⟩⟩ rfl rfl hl.1 rfl (lv_room (Nat.le_of_ble_eq_true rfl)) dX1_told_13 ⟨Nat.zero_le _, Nat.zero_le _⟩) hS (fun q _ h => h.elim) (fun q h => h.elim) (fun r1 u t H locs ht hvm hw hB hz1 hk1 hS => ?_)
  have hP := gc_keep hP hk1
  have hw : r1 = gB (mIn v1 0 (nI r - 1)) := hw
  subst hw
  clear hw
  clear hB hz1 hk1 ht hvm
  refine lv_if_eq (tgt := 37) hx hb dX1_told_16 (by decide) (fun c_16 => ?_) (fun c_16 => ?_)
  · skip
    have c_16 := gB_f c_16
    refine lv_aload_n hx hb dX1_told_37 rfl (lv_at hl 0 rfl) ?_
    refine lv_iconst (v := 1) hx hb dX1_told_38 (by decide) ?_
    have hPc : va_P (dC, dI) vwCl (gmW h kc f1 f2 of ro fa 0 (nI g) (nI r) x1 x2) _ := hP.sub [0, 1, 2, 3, 4, 5] rfl
    have hKc : va_K (dC, dI) vwCl (gmT kc) s := hK.sub [0, 1, 2, 3, 4] rfl
    have hDc : va_D A (gmW h kc f1 f2 of ro fa 0 (nI g) (nI r) x1 x2) := hD.sub [0, 1, 2, 3, 4, 5] (by decide) rfl
    have hFc := va_free (wc := (gmW h kc f1 f2 of ro fa 0 (nI g) (nI r) x1 x2)) hD hS hA [0, 1, 2, 3, 4, 5] rfl
    refine va_calli (va_runV (As := [.int 1]) (rest := []) ⟨hx, hb, hml, hown, hts⟩ (c_X1_fail l dC dI h kc f1 f2 of ro fa 0 g r x1 x2 1 H.size) (cwV 1 hts gX1_told_X1_fail rfl rfl rfl (by decide +kernel) ⟨Nat.le_of_ble_eq_true rfl, Nat.le_of_ble_eq_true rfl⟩) ⟨gcPM_blind, va_recv hK hP (ci := 1) (q0 := 0) rfl rfl, fun U hU hW => ⟨rfl, by rw [hU], by rw [hU]; exact hPc, va_K.moved hW.alike hKc, hDc.weaken (fun _ _ _ _ => trivial)⟩⟩ rfl rfl hl.1 rfl (lv_room (Nat.le_of_ble_eq_true rfl)) dX1_told_39 ⟨Nat.zero_le _, Nat.zero_le _⟩) hS (fun q _ h => hFc q h) hFc (fun r2 u t H locs ht hvm hw hB hz1 hk1 hS => ?_)
    obtain ⟨hP1, hD1⟩ := hB
    rw [ht] at hP1
    obtain ⟨hP, hD⟩ := va_join (wr := []) (w1 := (gmW h kc f1 f2 of ro fa 1 (nI g) (nI r) x1 x2)) hP hD [0, 1, 2, 3, 4, 5] [] rfl rfl (by decide) (by decide) hk1 hFc hP1 hD1
    have hP : va_P (dC, dI) vwCl (gmW h kc f1 f2 of ro fa 1 (nI g) (nI r) x1 x2) H := hP.sub [0, 1, 2, 3, 4, 5] rfl
    have hD : va_D A (gmW h kc f1 f2 of ro fa 1 (nI g) (nI r) x1 x2) := hD.sub [0, 1, 2, 3, 4, 5] (by decide) rfl
    have hw : r2 = 0 := hw
    subst hw
    clear hw
    clear hz1 hk1 ht hvm hP1 hD1 hFc hDc
    clear hPc hKc
    have hpost : True := trivial
    exact W.iret (v := 0) hx hb hr (fun t ht hW => ⟨⟨0, (), rfl, hpost, ⟨by rw [ht]; exact hP, hD⟩⟩, hS.F ht⟩) hS.2.2 dX1_told_42
  · skip
    have c_16 := gB_t c_16
    refine lv_iload_n hx hb dX1_told_19 rfl (lv_at hl 2 rfl) ?_
    refine lv_iconst (v := 0) hx hb dX1_told_20 (by decide) ?_
    refine lv_iconst (v := 2) hx hb dX1_told_21 (by decide) ?_
    refine gc_topi (y := (nI 3 - 1)) (by decide) ?_
    refine va_calli (va_runS (As := [.int v2, .int 0, .int (nI 3 - 1)]) (rest := []) ⟨hx, hb, hml, hown, hts⟩ (c_X1_isIn l v2 0 (nI 3 - 1)) (va_cwS 3 hts gX1_told_X1_isIn rfl rfl rfl (by decide +kernel) ⟨Nat.le_of_ble_eq_true rfl, Nat.le_of_ble_eq_true rfl⟩) ⟨fun a U g mk q => q, fun U hU hW => ⟨rfl, trivial⟩⟩ rfl rfl hl.1 rfl (lv_room (Nat.le_of_ble_eq_true rfl)) dX1_told_22 ⟨Nat.zero_le _, Nat.zero_le _⟩) hS (fun q _ h => h.elim) (fun q h => h.elim) (fun r3 u t H locs ht hvm hw hB hz1 hk1 hS => ?_)
    have hP := gc_keep hP hk1
    have hw : r3 = gB (mIn v2 0 (nI 3 - 1)) := hw
    subst hw
    clear hw
    clear hB hz1 hk1 ht hvm
    refine lv_if_eq (tgt := 37) hx hb dX1_told_25 (by decide) (fun c_25 => ?_) (fun c_25 => ?_)
    · skip
      have c_25 := gB_f c_25
      refine lv_aload_n hx hb dX1_told_37 rfl (lv_at hl 0 rfl) ?_
      refine lv_iconst (v := 1) hx hb dX1_told_38 (by decide) ?_
      have hPc : va_P (dC, dI) vwCl (gmW h kc f1 f2 of ro fa 0 (nI g) (nI r) x1 x2) _ := hP.sub [0, 1, 2, 3, 4, 5] rfl
      have hKc : va_K (dC, dI) vwCl (gmT kc) s := hK.sub [0, 1, 2, 3, 4] rfl
      have hDc : va_D A (gmW h kc f1 f2 of ro fa 0 (nI g) (nI r) x1 x2) := hD.sub [0, 1, 2, 3, 4, 5] (by decide) rfl
      have hFc := va_free (wc := (gmW h kc f1 f2 of ro fa 0 (nI g) (nI r) x1 x2)) hD hS hA [0, 1, 2, 3, 4, 5] rfl
      refine va_calli (va_runV (As := [.int 1]) (rest := []) ⟨hx, hb, hml, hown, hts⟩ (c_X1_fail l dC dI h kc f1 f2 of ro fa 0 g r x1 x2 1 H.size) (cwV 1 hts gX1_told_X1_fail rfl rfl rfl (by decide +kernel) ⟨Nat.le_of_ble_eq_true rfl, Nat.le_of_ble_eq_true rfl⟩) ⟨gcPM_blind, va_recv hK hP (ci := 1) (q0 := 0) rfl rfl, fun U hU hW => ⟨rfl, by rw [hU], by rw [hU]; exact hPc, va_K.moved hW.alike hKc, hDc.weaken (fun _ _ _ _ => trivial)⟩⟩ rfl rfl hl.1 rfl (lv_room (Nat.le_of_ble_eq_true rfl)) dX1_told_39 ⟨Nat.zero_le _, Nat.zero_le _⟩) hS (fun q _ h => hFc q h) hFc (fun r4 u t H locs ht hvm hw hB hz1 hk1 hS => ?_)
      obtain ⟨hP1, hD1⟩ := hB
      rw [ht] at hP1
      obtain ⟨hP, hD⟩ := va_join (wr := []) (w1 := (gmW h kc f1 f2 of ro fa 1 (nI g) (nI r) x1 x2)) hP hD [0, 1, 2, 3, 4, 5] [] rfl rfl (by decide) (by decide) hk1 hFc hP1 hD1
      have hP : va_P (dC, dI) vwCl (gmW h kc f1 f2 of ro fa 1 (nI g) (nI r) x1 x2) H := hP.sub [0, 1, 2, 3, 4, 5] rfl
      have hD : va_D A (gmW h kc f1 f2 of ro fa 1 (nI g) (nI r) x1 x2) := hD.sub [0, 1, 2, 3, 4, 5] (by decide) rfl
      have hw : r4 = 0 := hw
      subst hw
      clear hw
      clear hz1 hk1 ht hvm hP1 hD1 hFc hDc
      clear hPc hKc
      have hpost : True := trivial
      exact W.iret (v := 0) hx hb hr (fun t ht hW => ⟨⟨0, (), rfl, hpost, ⟨by rw [ht]; exact hP, hD⟩⟩, hS.F ht⟩) hS.2.2 dX1_told_42
    · skip
      have c_25 := gB_t c_25
      rcases hno with q | q <;> exact absurd (mIn_no (by omega) q) (by first | (rw [c_16]; decide) | (rw [c_25]; decide))
set_option maxHeartbeats 4000000 in
set_option maxRecDepth 100000 in
theorem c_X1_guest (l : Launch) (dC : Nat → ClassId) (dI : Nat → Nat → Nat) (h : Nat → Nat) (kc : Nat → ClassId) (f1 : Nat → Int32) (f2 : Nat → Int32) (of : Nat → Int32) (ro : Nat → Int32) (fa : Nat → Int32) (th : Int32) (g : Nat) (r : Nat) (x1 : Int32) (x2 : Int32) (K : Bk) (x : Nat) (w : Nat) (sz : Nat) (hBk : mOK K g r f1 f2 of) (hg : g ≤ 10) (hr30 : r ≤ 30) (hx2 : x < g) (hw : w < 4) : Met l yX1_guest wsX1_guest ({ frames := 6, cells := 0, slots := 0, locals := 138 }) (gcPM (dC, dI) [.ref (h 0), .int (nI x), .int (nI w)] (gmW h kc f1 f2 of ro fa th (nI g) (nI r) x1 x2) (gmT kc) sz) (va_Qi (fun (rv : Int32) (u : (Nat → Int32) × (Nat → Int32)) => (match u with | (ro2, fa2) => rv = mGu K x1 x2 g x w)) (fun u t9 => va_P (dC, dI) vwCl (match u with | (ro2, fa2) => (gmW h kc f1 f2 of ro2 fa2 0 (nI g) (nI r) x1 x2)) t9.heap ∧ va_D (va_A (gmW h kc f1 f2 of ro fa th (nI g) (nI r) x1 x2) sz) (match u with | (ro2, fa2) => (gmW h kc f1 f2 of ro2 fa2 0 (nI g) (nI r) x1 x2))) (va_A (gmW h kc f1 f2 of ro fa th (nI g) (nI r) x1 x2) sz)) 0 0 (va_A (gmW h kc f1 f2 of ro fa th (nI g) (nI r) x1 x2) sz) := by
  refine Met.ofW (cc := cX1_guest) (maxL := 3) (ret := (some .int)) (by decide) rfl ?_
  intro p e s m args below meth c s₁ B hml hv
  obtain ⟨rfl, hsz, hP, hK, hD0⟩ := hv
  have hx := B.exec
  have hb := B.bytes
  have hr := B.returns
  have hts := atoms_spec (ws := wsX1_guest) B.pre
  have hown : s.vm.findClass RX1 = some m.cls := findClass_of_methodNamed B.named
  have hlocks := B.notSynchronized
  subst hsz
  have hD := hD0.self (sz := s.heap.size)
  generalize hAe : va_A (gmW h kc f1 f2 of ro fa th (nI g) (nI r) x1 x2) s.heap.size = A at hD ⊢
  have hA : ∀ q : Nat, s.heap.size ≤ q → A q := fun q h => by rw [← hAe]; exact Or.inr h
  have hS : va_S A s.heap s.heap [] := va_S.rf
  have hP : va_P (dC, dI) vwCl (gmW h kc f1 f2 of ro fa th (nI g) (nI r) x1 x2) s.heap := hP
  have hin1 : ∀ w ∈ wsX10, w ∈ wsX1_guest := by decide +kernel
  have hl := lv_entry [.ref (h 0), .int (nI x), .int (nI w)] (n := 3) (Nat.le_of_ble_eq_true rfl)
  rw [lg_entry_eq]
  generalize (lg_sl [.ref (h 0), .int (nI x), .int (nI w)] ++ List.replicate (3 - (lg_sl [.ref (h 0), .int (nI x), .int (nI w)]).length) Slot.unset).toArray = ls at hl ⊢
  have hl : lv_has ls 3 [(0, .ref (h 0)), (1, .int (nI x)), (2, .int (nI w))] := hl
  refine lv_aload_n hx hb dX1_guest_0 rfl (lv_at hl 0 rfl) ?_
  refine lv_iconst (v := 0) hx hb dX1_guest_1 (by decide) ?_
  refine va_put (D := (dC, dI)) (ci := 1) (v := .int 0) (ty := .int) (C := RX1) (T := TX1) (N := 10) hx hb hts hin1 tyX1 tyX1_ok nmX1 hown hK hP hD hS 0 rfl rfl 0 (by decide) (hts (.fieldLink RX1 33 "GuestChairsModel" "thrown" "I") (by decide +kernel)) (fun _ h9 => h9) rfl (by decide +kernel) rfl rfl (Nat.le_of_ble_eq_true rfl) dX1_guest_2 (fun H locs hP hD hS => ?_)
  have hP : va_P (dC, dI) vwCl (gmW h kc f1 f2 of ro fa 0 (nI g) (nI r) x1 x2) H := hP
  have hD : va_D A (gmW h kc f1 f2 of ro fa 0 (nI g) (nI r) x1 x2) := hD
  refine lv_iload_n hx hb dX1_guest_5 rfl (lv_at hl 1 rfl) ?_
  refine lv_iconst (v := 0) hx hb dX1_guest_6 (by decide) ?_
  refine lv_aload_n hx hb dX1_guest_7 rfl (lv_at hl 0 rfl) ?_
  refine va_get (D := (dC, dI)) (ci := 1) (v := .int (nI g)) (C := RX1) (T := TX1) (N := 10) hx hb hts hin1 hown hK hP 0 rfl rfl 1 (by decide) (hts (.fieldLink RX1 36 "GuestChairsModel" "guests" "I") (by decide +kernel)) (fun _ h9 => h9) rfl dX1_guest_8 ?_
  refine lv_iconst (v := 1) hx hb dX1_guest_11 (by decide) ?_
  refine lv_isub hx hb dX1_guest_12 ?_
  refine va_calli (va_runS (As := [.int (nI x), .int 0, .int (nI g - 1)]) (rest := []) ⟨hx, hb, hml, hown, hts⟩ (c_X1_isIn l (nI x) 0 (nI g - 1)) (va_cwS 3 hts gX1_guest_X1_isIn rfl rfl rfl (by decide +kernel) ⟨Nat.le_of_ble_eq_true rfl, Nat.le_of_ble_eq_true rfl⟩) ⟨fun a U g mk q => q, fun U hU hW => ⟨rfl, trivial⟩⟩ rfl rfl hl.1 rfl (lv_room (Nat.le_of_ble_eq_true rfl)) dX1_guest_13 ⟨Nat.zero_le _, Nat.zero_le _⟩) hS (fun q _ h => h.elim) (fun q h => h.elim) (fun r1 u t H locs ht hvm hw hB hz1 hk1 hS => ?_)
  have hP := gc_keep hP hk1
  have hw : r1 = gB (mIn (nI x) 0 (nI g - 1)) := hw
  subst hw
  clear hw
  clear hB hz1 hk1 ht hvm
  refine lv_if_eq (tgt := 37) hx hb dX1_guest_16 (by decide) (fun c_16 => ?_) (fun c_16 => ?_)
  · skip
    have c_16 := gB_f c_16
    exact absurd (mIn_ok (j := x) (n := g) (by omega) (by omega)) (by rw [c_16]; decide)
  · skip
    have c_16 := gB_t c_16
    refine lv_iload_n hx hb dX1_guest_19 rfl (lv_at hl 2 rfl) ?_
    refine lv_iconst (v := 0) hx hb dX1_guest_20 (by decide) ?_
    refine lv_iconst (v := 3) hx hb dX1_guest_21 (by decide) ?_
    refine gc_topi (y := (nI 4 - 1)) (by decide) ?_
    refine va_calli (va_runS (As := [.int (nI w), .int 0, .int (nI 4 - 1)]) (rest := []) ⟨hx, hb, hml, hown, hts⟩ (c_X1_isIn l (nI w) 0 (nI 4 - 1)) (va_cwS 3 hts gX1_guest_X1_isIn rfl rfl rfl (by decide +kernel) ⟨Nat.le_of_ble_eq_true rfl, Nat.le_of_ble_eq_true rfl⟩) ⟨fun a U g mk q => q, fun U hU hW => ⟨rfl, trivial⟩⟩ rfl rfl hl.1 rfl (lv_room (Nat.le_of_ble_eq_true rfl)) dX1_guest_22 ⟨Nat.zero_le _, Nat.zero_le _⟩) hS (fun q _ h => h.elim) (fun q h => h.elim) (fun r2 u t H locs ht hvm hw hB hz1 hk1 hS => ?_)
    have hP := gc_keep hP hk1
    have hw : r2 = gB (mIn (nI w) 0 (nI 4 - 1)) := hw
    subst hw
    clear hw
    clear hB hz1 hk1 ht hvm
    refine lv_if_eq (tgt := 37) hx hb dX1_guest_25 (by decide) (fun c_25 => ?_) (fun c_25 => ?_)
    · skip
      have c_25 := gB_f c_25
      exact absurd (mIn_ok (j := w) (n := 4) (by omega) (by omega)) (by rw [c_25]; decide)
    · skip
      have c_25 := gB_t c_25
      refine lv_aload_n hx hb dX1_guest_28 rfl (lv_at hl 0 rfl) ?_
      refine lv_iload_n hx hb dX1_guest_29 rfl (lv_at hl 1 rfl) ?_
      refine lv_iload_n hx hb dX1_guest_30 rfl (lv_at hl 2 rfl) ?_
      have hPc : va_P (dC, dI) vwCl (gmW h kc f1 f2 of ro fa 0 (nI g) (nI r) x1 x2) _ := hP.sub [0, 1, 2, 3, 4, 5] rfl
      have hKc : va_K (dC, dI) vwCl (gmT kc) s := hK.sub [0, 1, 2, 3, 4] rfl
      have hDc : va_D A (gmW h kc f1 f2 of ro fa 0 (nI g) (nI r) x1 x2) := hD.sub [0, 1, 2, 3, 4, 5] (by decide) rfl
      have hFc := va_free (wc := (gmW h kc f1 f2 of ro fa 0 (nI g) (nI r) x1 x2)) hD hS hA [0, 1, 2, 3, 4, 5] rfl
      refine va_calli (va_runV (As := [.int (nI x), .int (nI w)]) (rest := []) ⟨hx, hb, hml, hown, hts⟩ (c_X1_guestTold l dC dI h kc f1 f2 of ro fa 0 g r x1 x2 K x w H.size (by first | assumption | omega) (by first | assumption | omega) (by first | assumption | omega) (by first | assumption | omega) (by first | assumption | omega)) (cwV 2 hts gX1_guest_X1_guestTold rfl rfl rfl (by decide +kernel) ⟨Nat.le_of_ble_eq_true rfl, Nat.le_of_ble_eq_true rfl⟩) ⟨gcPM_blind, va_recv hK hP (ci := 1) (q0 := 0) rfl rfl, fun U hU hW => ⟨rfl, by rw [hU], by rw [hU]; exact hPc, va_K.moved hW.alike hKc, hDc.weaken (fun _ _ _ _ => trivial)⟩⟩ rfl rfl hl.1 rfl (lv_room (Nat.le_of_ble_eq_true rfl)) dX1_guest_31 ⟨Nat.zero_le _, Nat.zero_le _⟩) hS (fun q _ h => hFc q h) hFc (fun r3 u t H locs ht hvm hw hB hz1 hk1 hS => ?_)
      obtain ⟨ro24, fa25⟩ := u
      obtain ⟨hP1, hD1⟩ := hB
      rw [ht] at hP1
      obtain ⟨hP, hD⟩ := va_join (wr := []) (w1 := (gmW h kc f1 f2 of ro24 fa25 0 (nI g) (nI r) x1 x2)) hP hD [0, 1, 2, 3, 4, 5] [] rfl rfl (by decide) (by decide) hk1 hFc hP1 hD1
      have hP : va_P (dC, dI) vwCl (gmW h kc f1 f2 of ro24 fa25 0 (nI g) (nI r) x1 x2) H := hP.sub [0, 1, 2, 3, 4, 5] rfl
      have hD : va_D A (gmW h kc f1 f2 of ro24 fa25 0 (nI g) (nI r) x1 x2) := hD.sub [0, 1, 2, 3, 4, 5] (by decide) rfl
      have hw : r3 = mGu K x1 x2 g x w := hw
      subst hw
      clear hw
      clear hz1 hk1 ht hvm hP1 hD1 hFc hDc
      clear hPc hKc
      refine lv_goto (tgt := 42) hx hb dX1_guest_34 (by decide) ?_
      have hpost : (mGu K x1 x2 g x w) = mGu K x1 x2 g x w := by first | rfl | assumption
      exact W.iret (v := mGu K x1 x2 g x w) hx hb hr (fun t ht hW => ⟨⟨mGu K x1 x2 g x w, (ro24, fa25), rfl, hpost, ⟨by rw [ht]; exact hP, hD⟩⟩, hS.F ht⟩) hS.2.2 dX1_guest_42
set_option maxHeartbeats 4000000 in
set_option maxRecDepth 100000 in
theorem c_X1_guest_no (l : Launch) (dC : Nat → ClassId) (dI : Nat → Nat → Nat) (h : Nat → Nat) (kc : Nat → ClassId) (f1 : Nat → Int32) (f2 : Nat → Int32) (of : Nat → Int32) (ro : Nat → Int32) (fa : Nat → Int32) (th : Int32) (g : Nat) (r : Nat) (x1 : Int32) (x2 : Int32) (v1 : Int32) (v2 : Int32) (sz : Nat) (hg : g ≤ 10) (hno : (∀ j : Nat, j < g → v1 ≠ nI j) ∨ ∀ j : Nat, j < 4 → v2 ≠ nI j) : Met l yX1_guest wsX1_guest ({ frames := 1, cells := 0, slots := 0, locals := 22 }) (gcPM (dC, dI) [.ref (h 0), .int v1, .int v2] (gmW h kc f1 f2 of ro fa th (nI g) (nI r) x1 x2) (gmT kc) sz) (va_Qi (fun (rv : Int32) (_u : Unit) => True) (fun _u t9 => va_P (dC, dI) vwCl (gmW h kc f1 f2 of ro fa 1 (nI g) (nI r) x1 x2) t9.heap ∧ va_D (va_A (gmW h kc f1 f2 of ro fa th (nI g) (nI r) x1 x2) sz) (gmW h kc f1 f2 of ro fa 1 (nI g) (nI r) x1 x2)) (va_A (gmW h kc f1 f2 of ro fa th (nI g) (nI r) x1 x2) sz)) 0 0 (va_A (gmW h kc f1 f2 of ro fa th (nI g) (nI r) x1 x2) sz) := by
  refine Met.ofW (cc := cX1_guest) (maxL := 3) (ret := (some .int)) (by decide) rfl ?_
  intro p e s m args below meth c s₁ B hml hv
  obtain ⟨rfl, hsz, hP, hK, hD0⟩ := hv
  have hx := B.exec
  have hb := B.bytes
  have hr := B.returns
  have hts := atoms_spec (ws := wsX1_guest) B.pre
  have hown : s.vm.findClass RX1 = some m.cls := findClass_of_methodNamed B.named
  have hlocks := B.notSynchronized
  subst hsz
  have hD := hD0.self (sz := s.heap.size)
  generalize hAe : va_A (gmW h kc f1 f2 of ro fa th (nI g) (nI r) x1 x2) s.heap.size = A at hD ⊢
  have hA : ∀ q : Nat, s.heap.size ≤ q → A q := fun q h => by rw [← hAe]; exact Or.inr h
  have hS : va_S A s.heap s.heap [] := va_S.rf
  have hP : va_P (dC, dI) vwCl (gmW h kc f1 f2 of ro fa th (nI g) (nI r) x1 x2) s.heap := hP
  have hin1 : ∀ w ∈ wsX10, w ∈ wsX1_guest := by decide +kernel
  have hl := lv_entry [.ref (h 0), .int v1, .int v2] (n := 3) (Nat.le_of_ble_eq_true rfl)
  rw [lg_entry_eq]
  generalize (lg_sl [.ref (h 0), .int v1, .int v2] ++ List.replicate (3 - (lg_sl [.ref (h 0), .int v1, .int v2]).length) Slot.unset).toArray = ls at hl ⊢
  have hl : lv_has ls 3 [(0, .ref (h 0)), (1, .int v1), (2, .int v2)] := hl
  refine lv_aload_n hx hb dX1_guest_0 rfl (lv_at hl 0 rfl) ?_
  refine lv_iconst (v := 0) hx hb dX1_guest_1 (by decide) ?_
  refine va_put (D := (dC, dI)) (ci := 1) (v := .int 0) (ty := .int) (C := RX1) (T := TX1) (N := 10) hx hb hts hin1 tyX1 tyX1_ok nmX1 hown hK hP hD hS 0 rfl rfl 0 (by decide) (hts (.fieldLink RX1 33 "GuestChairsModel" "thrown" "I") (by decide +kernel)) (fun _ h9 => h9) rfl (by decide +kernel) rfl rfl (Nat.le_of_ble_eq_true rfl) dX1_guest_2 (fun H locs hP hD hS => ?_)
  have hP : va_P (dC, dI) vwCl (gmW h kc f1 f2 of ro fa 0 (nI g) (nI r) x1 x2) H := hP
  have hD : va_D A (gmW h kc f1 f2 of ro fa 0 (nI g) (nI r) x1 x2) := hD
  refine lv_iload_n hx hb dX1_guest_5 rfl (lv_at hl 1 rfl) ?_
  refine lv_iconst (v := 0) hx hb dX1_guest_6 (by decide) ?_
  refine lv_aload_n hx hb dX1_guest_7 rfl (lv_at hl 0 rfl) ?_
  refine va_get (D := (dC, dI)) (ci := 1) (v := .int (nI g)) (C := RX1) (T := TX1) (N := 10) hx hb hts hin1 hown hK hP 0 rfl rfl 1 (by decide) (hts (.fieldLink RX1 36 "GuestChairsModel" "guests" "I") (by decide +kernel)) (fun _ h9 => h9) rfl dX1_guest_8 ?_
  refine lv_iconst (v := 1) hx hb dX1_guest_11 (by decide) ?_
  refine lv_isub hx hb dX1_guest_12 ?_
  refine va_calli (va_runS (As := [.int v1, .int 0, .int (nI g - 1)]) (rest := []) ⟨hx, hb, hml, hown, hts⟩ (c_X1_isIn l v1 0 (nI g - 1)) (va_cwS 3 hts gX1_guest_X1_isIn rfl rfl rfl (by decide +kernel) ⟨Nat.le_of_ble_eq_true rfl, Nat.le_of_ble_eq_true rfl⟩) ⟨fun a U g mk q => q, fun U hU hW => ⟨rfl, trivial⟩⟩ rfl rfl hl.1 rfl (lv_room (Nat.le_of_ble_eq_true rfl)) dX1_guest_13 ⟨Nat.zero_le _, Nat.zero_le _⟩) hS (fun q _ h => h.elim) (fun q h => h.elim) (fun r1 u t H locs ht hvm hw hB hz1 hk1 hS => ?_)
  have hP := gc_keep hP hk1
  have hw : r1 = gB (mIn v1 0 (nI g - 1)) := hw
  subst hw
  clear hw
  clear hB hz1 hk1 ht hvm
  refine lv_if_eq (tgt := 37) hx hb dX1_guest_16 (by decide) (fun c_16 => ?_) (fun c_16 => ?_)
  · skip
    have c_16 := gB_f c_16
    refine lv_aload_n hx hb dX1_guest_37 rfl (lv_at hl 0 rfl) ?_
    refine lv_iconst (v := 1) hx hb dX1_guest_38 (by decide) ?_
    have hPc : va_P (dC, dI) vwCl (gmW h kc f1 f2 of ro fa 0 (nI g) (nI r) x1 x2) _ := hP.sub [0, 1, 2, 3, 4, 5] rfl
    have hKc : va_K (dC, dI) vwCl (gmT kc) s := hK.sub [0, 1, 2, 3, 4] rfl
    have hDc : va_D A (gmW h kc f1 f2 of ro fa 0 (nI g) (nI r) x1 x2) := hD.sub [0, 1, 2, 3, 4, 5] (by decide) rfl
    have hFc := va_free (wc := (gmW h kc f1 f2 of ro fa 0 (nI g) (nI r) x1 x2)) hD hS hA [0, 1, 2, 3, 4, 5] rfl
    refine va_calli (va_runV (As := [.int 1]) (rest := []) ⟨hx, hb, hml, hown, hts⟩ (c_X1_fail l dC dI h kc f1 f2 of ro fa 0 g r x1 x2 1 H.size) (cwV 1 hts gX1_guest_X1_fail rfl rfl rfl (by decide +kernel) ⟨Nat.le_of_ble_eq_true rfl, Nat.le_of_ble_eq_true rfl⟩) ⟨gcPM_blind, va_recv hK hP (ci := 1) (q0 := 0) rfl rfl, fun U hU hW => ⟨rfl, by rw [hU], by rw [hU]; exact hPc, va_K.moved hW.alike hKc, hDc.weaken (fun _ _ _ _ => trivial)⟩⟩ rfl rfl hl.1 rfl (lv_room (Nat.le_of_ble_eq_true rfl)) dX1_guest_39 ⟨Nat.zero_le _, Nat.zero_le _⟩) hS (fun q _ h => hFc q h) hFc (fun r2 u t H locs ht hvm hw hB hz1 hk1 hS => ?_)
    obtain ⟨hP1, hD1⟩ := hB
    rw [ht] at hP1
    obtain ⟨hP, hD⟩ := va_join (wr := []) (w1 := (gmW h kc f1 f2 of ro fa 1 (nI g) (nI r) x1 x2)) hP hD [0, 1, 2, 3, 4, 5] [] rfl rfl (by decide) (by decide) hk1 hFc hP1 hD1
    have hP : va_P (dC, dI) vwCl (gmW h kc f1 f2 of ro fa 1 (nI g) (nI r) x1 x2) H := hP.sub [0, 1, 2, 3, 4, 5] rfl
    have hD : va_D A (gmW h kc f1 f2 of ro fa 1 (nI g) (nI r) x1 x2) := hD.sub [0, 1, 2, 3, 4, 5] (by decide) rfl
    have hw : r2 = 0 := hw
    subst hw
    clear hw
    clear hz1 hk1 ht hvm hP1 hD1 hFc hDc
    clear hPc hKc
    have hpost : True := trivial
    exact W.iret (v := 0) hx hb hr (fun t ht hW => ⟨⟨0, (), rfl, hpost, ⟨by rw [ht]; exact hP, hD⟩⟩, hS.F ht⟩) hS.2.2 dX1_guest_42
  · skip
    have c_16 := gB_t c_16
    refine lv_iload_n hx hb dX1_guest_19 rfl (lv_at hl 2 rfl) ?_
    refine lv_iconst (v := 0) hx hb dX1_guest_20 (by decide) ?_
    refine lv_iconst (v := 3) hx hb dX1_guest_21 (by decide) ?_
    refine gc_topi (y := (nI 4 - 1)) (by decide) ?_
    refine va_calli (va_runS (As := [.int v2, .int 0, .int (nI 4 - 1)]) (rest := []) ⟨hx, hb, hml, hown, hts⟩ (c_X1_isIn l v2 0 (nI 4 - 1)) (va_cwS 3 hts gX1_guest_X1_isIn rfl rfl rfl (by decide +kernel) ⟨Nat.le_of_ble_eq_true rfl, Nat.le_of_ble_eq_true rfl⟩) ⟨fun a U g mk q => q, fun U hU hW => ⟨rfl, trivial⟩⟩ rfl rfl hl.1 rfl (lv_room (Nat.le_of_ble_eq_true rfl)) dX1_guest_22 ⟨Nat.zero_le _, Nat.zero_le _⟩) hS (fun q _ h => h.elim) (fun q h => h.elim) (fun r3 u t H locs ht hvm hw hB hz1 hk1 hS => ?_)
    have hP := gc_keep hP hk1
    have hw : r3 = gB (mIn v2 0 (nI 4 - 1)) := hw
    subst hw
    clear hw
    clear hB hz1 hk1 ht hvm
    refine lv_if_eq (tgt := 37) hx hb dX1_guest_25 (by decide) (fun c_25 => ?_) (fun c_25 => ?_)
    · skip
      have c_25 := gB_f c_25
      refine lv_aload_n hx hb dX1_guest_37 rfl (lv_at hl 0 rfl) ?_
      refine lv_iconst (v := 1) hx hb dX1_guest_38 (by decide) ?_
      have hPc : va_P (dC, dI) vwCl (gmW h kc f1 f2 of ro fa 0 (nI g) (nI r) x1 x2) _ := hP.sub [0, 1, 2, 3, 4, 5] rfl
      have hKc : va_K (dC, dI) vwCl (gmT kc) s := hK.sub [0, 1, 2, 3, 4] rfl
      have hDc : va_D A (gmW h kc f1 f2 of ro fa 0 (nI g) (nI r) x1 x2) := hD.sub [0, 1, 2, 3, 4, 5] (by decide) rfl
      have hFc := va_free (wc := (gmW h kc f1 f2 of ro fa 0 (nI g) (nI r) x1 x2)) hD hS hA [0, 1, 2, 3, 4, 5] rfl
      refine va_calli (va_runV (As := [.int 1]) (rest := []) ⟨hx, hb, hml, hown, hts⟩ (c_X1_fail l dC dI h kc f1 f2 of ro fa 0 g r x1 x2 1 H.size) (cwV 1 hts gX1_guest_X1_fail rfl rfl rfl (by decide +kernel) ⟨Nat.le_of_ble_eq_true rfl, Nat.le_of_ble_eq_true rfl⟩) ⟨gcPM_blind, va_recv hK hP (ci := 1) (q0 := 0) rfl rfl, fun U hU hW => ⟨rfl, by rw [hU], by rw [hU]; exact hPc, va_K.moved hW.alike hKc, hDc.weaken (fun _ _ _ _ => trivial)⟩⟩ rfl rfl hl.1 rfl (lv_room (Nat.le_of_ble_eq_true rfl)) dX1_guest_39 ⟨Nat.zero_le _, Nat.zero_le _⟩) hS (fun q _ h => hFc q h) hFc (fun r4 u t H locs ht hvm hw hB hz1 hk1 hS => ?_)
      obtain ⟨hP1, hD1⟩ := hB
      rw [ht] at hP1
      obtain ⟨hP, hD⟩ := va_join (wr := []) (w1 := (gmW h kc f1 f2 of ro fa 1 (nI g) (nI r) x1 x2)) hP hD [0, 1, 2, 3, 4, 5] [] rfl rfl (by decide) (by decide) hk1 hFc hP1 hD1
      have hP : va_P (dC, dI) vwCl (gmW h kc f1 f2 of ro fa 1 (nI g) (nI r) x1 x2) H := hP.sub [0, 1, 2, 3, 4, 5] rfl
      have hD : va_D A (gmW h kc f1 f2 of ro fa 1 (nI g) (nI r) x1 x2) := hD.sub [0, 1, 2, 3, 4, 5] (by decide) rfl
      have hw : r4 = 0 := hw
      subst hw
      clear hw
      clear hz1 hk1 ht hvm hP1 hD1 hFc hDc
      clear hPc hKc
      have hpost : True := trivial
      exact W.iret (v := 0) hx hb hr (fun t ht hW => ⟨⟨0, (), rfl, hpost, ⟨by rw [ht]; exact hP, hD⟩⟩, hS.F ht⟩) hS.2.2 dX1_guest_42
    · skip
      have c_25 := gB_t c_25
      rcases hno with q | q <;> exact absurd (mIn_no (by omega) q) (by first | (rw [c_16]; decide) | (rw [c_25]; decide))
set_option maxHeartbeats 4000000 in
set_option maxRecDepth 100000 in
theorem c_X1_count (l : Launch) (dC : Nat → ClassId) (dI : Nat → Nat → Nat) (h : Nat → Nat) (kc : Nat → ClassId) (f1 : Nat → Int32) (f2 : Nat → Int32) (of : Nat → Int32) (ro : Nat → Int32) (fa : Nat → Int32) (th : Int32) (g : Nat) (r : Nat) (x1 : Int32) (x2 : Int32) (K : Bk) (w : Nat) (sz : Nat) (hBk : mOK K g r f1 f2 of) (hg : g ≤ 10) (hr30 : r ≤ 30) (hw : w < 6) : Met l yX1_count wsX1_count ({ frames := 6, cells := 0, slots := 0, locals := 135 }) (gcPM (dC, dI) [.ref (h 0), .int (nI w)] (gmW h kc f1 f2 of ro fa th (nI g) (nI r) x1 x2) (gmT kc) sz) (va_Qi (fun (rv : Int32) (u : (Nat → Int32) × (Nat → Int32)) => (match u with | (ro2, fa2) => rv = mCo K g r w)) (fun u t9 => va_P (dC, dI) vwCl (match u with | (ro2, fa2) => (gmW h kc f1 f2 of ro2 fa2 0 (nI g) (nI r) x1 x2)) t9.heap ∧ va_D (va_A (gmW h kc f1 f2 of ro fa th (nI g) (nI r) x1 x2) sz) (match u with | (ro2, fa2) => (gmW h kc f1 f2 of ro2 fa2 0 (nI g) (nI r) x1 x2))) (va_A (gmW h kc f1 f2 of ro fa th (nI g) (nI r) x1 x2) sz)) 0 0 (va_A (gmW h kc f1 f2 of ro fa th (nI g) (nI r) x1 x2) sz) := by
  refine Met.ofW (cc := cX1_count) (maxL := 2) (ret := (some .int)) (by decide) rfl ?_
  intro p e s m args below meth c s₁ B hml hv
  obtain ⟨rfl, hsz, hP, hK, hD0⟩ := hv
  have hx := B.exec
  have hb := B.bytes
  have hr := B.returns
  have hts := atoms_spec (ws := wsX1_count) B.pre
  have hown : s.vm.findClass RX1 = some m.cls := findClass_of_methodNamed B.named
  have hlocks := B.notSynchronized
  subst hsz
  have hD := hD0.self (sz := s.heap.size)
  generalize hAe : va_A (gmW h kc f1 f2 of ro fa th (nI g) (nI r) x1 x2) s.heap.size = A at hD ⊢
  have hA : ∀ q : Nat, s.heap.size ≤ q → A q := fun q h => by rw [← hAe]; exact Or.inr h
  have hS : va_S A s.heap s.heap [] := va_S.rf
  have hP : va_P (dC, dI) vwCl (gmW h kc f1 f2 of ro fa th (nI g) (nI r) x1 x2) s.heap := hP
  have hin1 : ∀ w ∈ wsX10, w ∈ wsX1_count := by decide +kernel
  have hl := lv_entry [.ref (h 0), .int (nI w)] (n := 2) (Nat.le_of_ble_eq_true rfl)
  rw [lg_entry_eq]
  generalize (lg_sl [.ref (h 0), .int (nI w)] ++ List.replicate (2 - (lg_sl [.ref (h 0), .int (nI w)]).length) Slot.unset).toArray = ls at hl ⊢
  have hl : lv_has ls 2 [(0, .ref (h 0)), (1, .int (nI w))] := hl
  refine lv_aload_n hx hb dX1_count_0 rfl (lv_at hl 0 rfl) ?_
  refine lv_iconst (v := 0) hx hb dX1_count_1 (by decide) ?_
  refine va_put (D := (dC, dI)) (ci := 1) (v := .int 0) (ty := .int) (C := RX1) (T := TX1) (N := 10) hx hb hts hin1 tyX1 tyX1_ok nmX1 hown hK hP hD hS 0 rfl rfl 0 (by decide) (hts (.fieldLink RX1 33 "GuestChairsModel" "thrown" "I") (by decide +kernel)) (fun _ h9 => h9) rfl (by decide +kernel) rfl rfl (Nat.le_of_ble_eq_true rfl) dX1_count_2 (fun H locs hP hD hS => ?_)
  have hP : va_P (dC, dI) vwCl (gmW h kc f1 f2 of ro fa 0 (nI g) (nI r) x1 x2) H := hP
  have hD : va_D A (gmW h kc f1 f2 of ro fa 0 (nI g) (nI r) x1 x2) := hD
  refine lv_iload_n hx hb dX1_count_5 rfl (lv_at hl 1 rfl) ?_
  refine lv_iconst (v := 0) hx hb dX1_count_6 (by decide) ?_
  refine lv_iconst (v := 5) hx hb dX1_count_7 (by decide) ?_
  refine gc_topi (y := (nI 6 - 1)) (by decide) ?_
  refine va_calli (va_runS (As := [.int (nI w), .int 0, .int (nI 6 - 1)]) (rest := []) ⟨hx, hb, hml, hown, hts⟩ (c_X1_isIn l (nI w) 0 (nI 6 - 1)) (va_cwS 3 hts gX1_count_X1_isIn rfl rfl rfl (by decide +kernel) ⟨Nat.le_of_ble_eq_true rfl, Nat.le_of_ble_eq_true rfl⟩) ⟨fun a U g mk q => q, fun U hU hW => ⟨rfl, trivial⟩⟩ rfl rfl hl.1 rfl (lv_room (Nat.le_of_ble_eq_true rfl)) dX1_count_8 ⟨Nat.zero_le _, Nat.zero_le _⟩) hS (fun q _ h => h.elim) (fun q h => h.elim) (fun r1 u t H locs ht hvm hw hB hz1 hk1 hS => ?_)
  have hP := gc_keep hP hk1
  have hw : r1 = gB (mIn (nI w) 0 (nI 6 - 1)) := hw
  subst hw
  clear hw
  clear hB hz1 hk1 ht hvm
  refine lv_if_eq (tgt := 22) hx hb dX1_count_11 (by decide) (fun c_11 => ?_) (fun c_11 => ?_)
  · skip
    have c_11 := gB_f c_11
    exact absurd (mIn_ok (j := w) (n := 6) (by omega) (by omega)) (by rw [c_11]; decide)
  · skip
    have c_11 := gB_t c_11
    refine lv_aload_n hx hb dX1_count_14 rfl (lv_at hl 0 rfl) ?_
    refine lv_iload_n hx hb dX1_count_15 rfl (lv_at hl 1 rfl) ?_
    have hPc : va_P (dC, dI) vwCl (gmW h kc f1 f2 of ro fa 0 (nI g) (nI r) x1 x2) _ := hP.sub [0, 1, 2, 3, 4, 5] rfl
    have hKc : va_K (dC, dI) vwCl (gmT kc) s := hK.sub [0, 1, 2, 3, 4] rfl
    have hDc : va_D A (gmW h kc f1 f2 of ro fa 0 (nI g) (nI r) x1 x2) := hD.sub [0, 1, 2, 3, 4, 5] (by decide) rfl
    have hFc := va_free (wc := (gmW h kc f1 f2 of ro fa 0 (nI g) (nI r) x1 x2)) hD hS hA [0, 1, 2, 3, 4, 5] rfl
    refine va_calli (va_runV (As := [.int (nI w)]) (rest := []) ⟨hx, hb, hml, hown, hts⟩ (c_X1_counted l dC dI h kc f1 f2 of ro fa 0 g r x1 x2 K w H.size (by first | assumption | omega) (by first | assumption | omega) (by first | assumption | omega) (by first | assumption | omega)) (cwV 1 hts gX1_count_X1_counted rfl rfl rfl (by decide +kernel) ⟨Nat.le_of_ble_eq_true rfl, Nat.le_of_ble_eq_true rfl⟩) ⟨gcPM_blind, va_recv hK hP (ci := 1) (q0 := 0) rfl rfl, fun U hU hW => ⟨rfl, by rw [hU], by rw [hU]; exact hPc, va_K.moved hW.alike hKc, hDc.weaken (fun _ _ _ _ => trivial)⟩⟩ rfl rfl hl.1 rfl (lv_room (Nat.le_of_ble_eq_true rfl)) dX1_count_16 ⟨Nat.zero_le _, Nat.zero_le _⟩) hS (fun q _ h => hFc q h) hFc (fun r2 u t H locs ht hvm hw hB hz1 hk1 hS => ?_)
    obtain ⟨ro23, fa24⟩ := u
    obtain ⟨hP1, hD1⟩ := hB
    rw [ht] at hP1
    obtain ⟨hP, hD⟩ := va_join (wr := []) (w1 := (gmW h kc f1 f2 of ro23 fa24 0 (nI g) (nI r) x1 x2)) hP hD [0, 1, 2, 3, 4, 5] [] rfl rfl (by decide) (by decide) hk1 hFc hP1 hD1
    have hP : va_P (dC, dI) vwCl (gmW h kc f1 f2 of ro23 fa24 0 (nI g) (nI r) x1 x2) H := hP.sub [0, 1, 2, 3, 4, 5] rfl
    have hD : va_D A (gmW h kc f1 f2 of ro23 fa24 0 (nI g) (nI r) x1 x2) := hD.sub [0, 1, 2, 3, 4, 5] (by decide) rfl
    have hw : r2 = mCo K g r w := hw
    subst hw
    clear hw
    clear hz1 hk1 ht hvm hP1 hD1 hFc hDc
    clear hPc hKc
    refine lv_goto (tgt := 27) hx hb dX1_count_19 (by decide) ?_
    have hpost : (mCo K g r w) = mCo K g r w := by first | rfl | assumption
    exact W.iret (v := mCo K g r w) hx hb hr (fun t ht hW => ⟨⟨mCo K g r w, (ro23, fa24), rfl, hpost, ⟨by rw [ht]; exact hP, hD⟩⟩, hS.F ht⟩) hS.2.2 dX1_count_27
set_option maxHeartbeats 4000000 in
set_option maxRecDepth 100000 in
theorem c_X1_count_no (l : Launch) (dC : Nat → ClassId) (dI : Nat → Nat → Nat) (h : Nat → Nat) (kc : Nat → ClassId) (f1 : Nat → Int32) (f2 : Nat → Int32) (of : Nat → Int32) (ro : Nat → Int32) (fa : Nat → Int32) (th : Int32) (g : Nat) (r : Nat) (x1 : Int32) (x2 : Int32) (v : Int32) (sz : Nat) (hno : ∀ j : Nat, j < 6 → v ≠ nI j) : Met l yX1_count wsX1_count ({ frames := 1, cells := 0, slots := 0, locals := 22 }) (gcPM (dC, dI) [.ref (h 0), .int v] (gmW h kc f1 f2 of ro fa th (nI g) (nI r) x1 x2) (gmT kc) sz) (va_Qi (fun (rv : Int32) (_u : Unit) => True) (fun _u t9 => va_P (dC, dI) vwCl (gmW h kc f1 f2 of ro fa 1 (nI g) (nI r) x1 x2) t9.heap ∧ va_D (va_A (gmW h kc f1 f2 of ro fa th (nI g) (nI r) x1 x2) sz) (gmW h kc f1 f2 of ro fa 1 (nI g) (nI r) x1 x2)) (va_A (gmW h kc f1 f2 of ro fa th (nI g) (nI r) x1 x2) sz)) 0 0 (va_A (gmW h kc f1 f2 of ro fa th (nI g) (nI r) x1 x2) sz) := by
  refine Met.ofW (cc := cX1_count) (maxL := 2) (ret := (some .int)) (by decide) rfl ?_
  intro p e s m args below meth c s₁ B hml hv
  obtain ⟨rfl, hsz, hP, hK, hD0⟩ := hv
  have hx := B.exec
  have hb := B.bytes
  have hr := B.returns
  have hts := atoms_spec (ws := wsX1_count) B.pre
  have hown : s.vm.findClass RX1 = some m.cls := findClass_of_methodNamed B.named
  have hlocks := B.notSynchronized
  subst hsz
  have hD := hD0.self (sz := s.heap.size)
  generalize hAe : va_A (gmW h kc f1 f2 of ro fa th (nI g) (nI r) x1 x2) s.heap.size = A at hD ⊢
  have hA : ∀ q : Nat, s.heap.size ≤ q → A q := fun q h => by rw [← hAe]; exact Or.inr h
  have hS : va_S A s.heap s.heap [] := va_S.rf
  have hP : va_P (dC, dI) vwCl (gmW h kc f1 f2 of ro fa th (nI g) (nI r) x1 x2) s.heap := hP
  have hin1 : ∀ w ∈ wsX10, w ∈ wsX1_count := by decide +kernel
  have hl := lv_entry [.ref (h 0), .int v] (n := 2) (Nat.le_of_ble_eq_true rfl)
  rw [lg_entry_eq]
  generalize (lg_sl [.ref (h 0), .int v] ++ List.replicate (2 - (lg_sl [.ref (h 0), .int v]).length) Slot.unset).toArray = ls at hl ⊢
  have hl : lv_has ls 2 [(0, .ref (h 0)), (1, .int v)] := hl
  refine lv_aload_n hx hb dX1_count_0 rfl (lv_at hl 0 rfl) ?_
  refine lv_iconst (v := 0) hx hb dX1_count_1 (by decide) ?_
  refine va_put (D := (dC, dI)) (ci := 1) (v := .int 0) (ty := .int) (C := RX1) (T := TX1) (N := 10) hx hb hts hin1 tyX1 tyX1_ok nmX1 hown hK hP hD hS 0 rfl rfl 0 (by decide) (hts (.fieldLink RX1 33 "GuestChairsModel" "thrown" "I") (by decide +kernel)) (fun _ h9 => h9) rfl (by decide +kernel) rfl rfl (Nat.le_of_ble_eq_true rfl) dX1_count_2 (fun H locs hP hD hS => ?_)
  have hP : va_P (dC, dI) vwCl (gmW h kc f1 f2 of ro fa 0 (nI g) (nI r) x1 x2) H := hP
  have hD : va_D A (gmW h kc f1 f2 of ro fa 0 (nI g) (nI r) x1 x2) := hD
  refine lv_iload_n hx hb dX1_count_5 rfl (lv_at hl 1 rfl) ?_
  refine lv_iconst (v := 0) hx hb dX1_count_6 (by decide) ?_
  refine lv_iconst (v := 5) hx hb dX1_count_7 (by decide) ?_
  refine gc_topi (y := (nI 6 - 1)) (by decide) ?_
  refine va_calli (va_runS (As := [.int v, .int 0, .int (nI 6 - 1)]) (rest := []) ⟨hx, hb, hml, hown, hts⟩ (c_X1_isIn l v 0 (nI 6 - 1)) (va_cwS 3 hts gX1_count_X1_isIn rfl rfl rfl (by decide +kernel) ⟨Nat.le_of_ble_eq_true rfl, Nat.le_of_ble_eq_true rfl⟩) ⟨fun a U g mk q => q, fun U hU hW => ⟨rfl, trivial⟩⟩ rfl rfl hl.1 rfl (lv_room (Nat.le_of_ble_eq_true rfl)) dX1_count_8 ⟨Nat.zero_le _, Nat.zero_le _⟩) hS (fun q _ h => h.elim) (fun q h => h.elim) (fun r1 u t H locs ht hvm hw hB hz1 hk1 hS => ?_)
  have hP := gc_keep hP hk1
  have hw : r1 = gB (mIn v 0 (nI 6 - 1)) := hw
  subst hw
  clear hw
  clear hB hz1 hk1 ht hvm
  refine lv_if_eq (tgt := 22) hx hb dX1_count_11 (by decide) (fun c_11 => ?_) (fun c_11 => ?_)
  · skip
    have c_11 := gB_f c_11
    refine lv_aload_n hx hb dX1_count_22 rfl (lv_at hl 0 rfl) ?_
    refine lv_iconst (v := 1) hx hb dX1_count_23 (by decide) ?_
    have hPc : va_P (dC, dI) vwCl (gmW h kc f1 f2 of ro fa 0 (nI g) (nI r) x1 x2) _ := hP.sub [0, 1, 2, 3, 4, 5] rfl
    have hKc : va_K (dC, dI) vwCl (gmT kc) s := hK.sub [0, 1, 2, 3, 4] rfl
    have hDc : va_D A (gmW h kc f1 f2 of ro fa 0 (nI g) (nI r) x1 x2) := hD.sub [0, 1, 2, 3, 4, 5] (by decide) rfl
    have hFc := va_free (wc := (gmW h kc f1 f2 of ro fa 0 (nI g) (nI r) x1 x2)) hD hS hA [0, 1, 2, 3, 4, 5] rfl
    refine va_calli (va_runV (As := [.int 1]) (rest := []) ⟨hx, hb, hml, hown, hts⟩ (c_X1_fail l dC dI h kc f1 f2 of ro fa 0 g r x1 x2 1 H.size) (cwV 1 hts gX1_count_X1_fail rfl rfl rfl (by decide +kernel) ⟨Nat.le_of_ble_eq_true rfl, Nat.le_of_ble_eq_true rfl⟩) ⟨gcPM_blind, va_recv hK hP (ci := 1) (q0 := 0) rfl rfl, fun U hU hW => ⟨rfl, by rw [hU], by rw [hU]; exact hPc, va_K.moved hW.alike hKc, hDc.weaken (fun _ _ _ _ => trivial)⟩⟩ rfl rfl hl.1 rfl (lv_room (Nat.le_of_ble_eq_true rfl)) dX1_count_24 ⟨Nat.zero_le _, Nat.zero_le _⟩) hS (fun q _ h => hFc q h) hFc (fun r2 u t H locs ht hvm hw hB hz1 hk1 hS => ?_)
    obtain ⟨hP1, hD1⟩ := hB
    rw [ht] at hP1
    obtain ⟨hP, hD⟩ := va_join (wr := []) (w1 := (gmW h kc f1 f2 of ro fa 1 (nI g) (nI r) x1 x2)) hP hD [0, 1, 2, 3, 4, 5] [] rfl rfl (by decide) (by decide) hk1 hFc hP1 hD1
    have hP : va_P (dC, dI) vwCl (gmW h kc f1 f2 of ro fa 1 (nI g) (nI r) x1 x2) H := hP.sub [0, 1, 2, 3, 4, 5] rfl
    have hD : va_D A (gmW h kc f1 f2 of ro fa 1 (nI g) (nI r) x1 x2) := hD.sub [0, 1, 2, 3, 4, 5] (by decide) rfl
    have hw : r2 = 0 := hw
    subst hw
    clear hw
    clear hz1 hk1 ht hvm hP1 hD1 hFc hDc
    clear hPc hKc
    have hpost : True := trivial
    exact W.iret (v := 0) hx hb hr (fun t ht hW => ⟨⟨0, (), rfl, hpost, ⟨by rw [ht]; exact hP, hD⟩⟩, hS.F ht⟩) hS.2.2 dX1_count_27
  · skip
    have c_11 := gB_t c_11
    exact absurd c_11 (by rw [mIn_no (n := 6) (by omega) hno]; decide)
