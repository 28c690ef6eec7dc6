/-! BLAME; CONSTRUCTORS. -/
abbrev hF7 (a0 a1 a2 a3 a4 a5 a6 : Nat) : Nat → Nat := fun i => match i with | 0 => a0 | 1 => a1 | 2 => a2 | 3 => a3 | 4 => a4 | 5 => a5 | _ => a6
abbrev kF7 (a1 a2 a3 a4 a5 a6 : ClassId) : Nat → ClassId := fun i => match i with | 0 => a1 | 1 => a1 | 2 => a2 | 3 => a3 | 4 => a4 | 5 => a5 | _ => a6
set_option maxHeartbeats 4000000 in
set_option maxRecDepth 100000 in
theorem c_X0_blame (l : Launch) (dC : Nat → ClassId) (dI : Nat → Nat → Nat) (h : Nat → Nat) (kc : Nat → ClassId) (f1 : Nat → Int32) (f2 : Nat → Int32) (dr : Nat → Int32) (cl : Nat → Int32) (tr : Nat → Int32) (se : Nat → Int32) (g : Nat) (r : Nat) (inf : Int32) (ct : Nat) (K : Bk) (sz : Nat) (hOK : gOK K g r f1 f2 inf) (hg : g ≤ 10) (hr30 : r ≤ 30) (hc : ct ≤ 1024) (hft : gFt cl g = decide (0 < ct)) : Met l yX0_blame wsX0_blame ({ frames := 5, cells := 0, slots := 0, locals := 107 }) (gcPM (dC, dI) [.ref (h 0)] (gcW h kc f1 f2 dr cl tr se (nI g) (nI r) inf (nI ct)) (gcT kc) sz) (va_Qi (fun (rv : Int32) (u : (Nat → Int32)) => (match u with | tr2 => rv = (if gFt cl g = true then -1 else gFst (gBp K g) r))) (fun u t9 => va_P (dC, dI) vwCl (match u with | tr2 => (gcW h kc f1 f2 dr cl tr2 se (nI g) (nI r) inf (nI ct))) t9.heap ∧ va_D (va_A (gcW h kc f1 f2 dr cl tr se (nI g) (nI r) inf (nI ct)) sz) (match u with | tr2 => (gcW h kc f1 f2 dr cl tr2 se (nI g) (nI r) inf (nI ct)))) (va_A (gcW h kc f1 f2 dr cl tr se (nI g) (nI r) inf (nI ct)) sz)) 0 0 (va_A (gcW h kc f1 f2 dr cl tr se (nI g) (nI r) inf (nI ct)) sz) := by
  refine Met.ofW (cc := cX0_blame) (maxL := 2) (ret := (some .int)) (by decide) rfl ?_
  intro p e s m args below meth c s₁ B hml hv
  obtain ⟨rfl, hsz, hP, hK, hD0⟩ := hv
  have hx := B.exec
  have hb := B.bytes
  have hr := B.returns
  have hts := atoms_spec (ws := wsX0_blame) B.pre
  have hown : s.vm.findClass RX0 = some m.cls := findClass_of_methodNamed B.named
  have hlocks := B.notSynchronized
  subst hsz
  have hD := hD0.self (sz := s.heap.size)
  generalize hAe : va_A (gcW h kc f1 f2 dr cl tr se (nI g) (nI r) inf (nI ct)) s.heap.size = A at hD ⊢
  have hA : ∀ q : Nat, s.heap.size ≤ q → A q := fun q h => by rw [← hAe]; exact Or.inr h
  have hS : va_S A s.heap s.heap [] := va_S.rf
  have hP : va_P (dC, dI) vwCl (gcW h kc f1 f2 dr cl tr se (nI g) (nI r) inf (nI ct)) s.heap := hP
  have hin0 : ∀ w ∈ wsX00, w ∈ wsX0_blame := by decide +kernel
  have hl := lv_entry [.ref (h 0)] (n := 2) (Nat.le_of_ble_eq_true rfl)
  rw [lg_entry_eq]
  generalize (lg_sl [.ref (h 0)] ++ List.replicate (2 - (lg_sl [.ref (h 0)]).length) Slot.unset).toArray = ls at hl ⊢
  have hl : lv_has ls 2 [(0, .ref (h 0))] := hl
  refine lv_aload_n hx hb dX0_blame_0 rfl (lv_at hl 0 rfl) ?_
  have hPc : va_P (dC, dI) vwCl (gcW h kc f1 f2 dr cl tr se (nI g) (nI r) inf (nI ct)) _ := hP.sub [0, 1, 2, 3, 4, 5, 6] rfl
  have hKc : va_K (dC, dI) vwCl (gcT kc) s := hK.sub [0, 1, 2, 3, 4, 5] rfl
  refine va_calli (va_runV (As := []) (rest := []) ⟨hx, hb, hml, hown, hts⟩ (c_X0_fits l dC dI h kc f1 f2 dr cl tr se g r inf ct (by first | assumption | omega) (by first | assumption | omega)) (cwV 0 hts gX0_blame_X0_fits rfl rfl rfl (by decide +kernel) ⟨Nat.le_of_ble_eq_true rfl, Nat.le_of_ble_eq_true rfl⟩) ⟨gcPR_blind, va_recv hK hP (ci := 0) (q0 := 0) rfl rfl, fun U hU hW => ⟨rfl, by rw [hU]; exact hPc, va_K.moved hW.alike hKc⟩⟩ rfl rfl hl.1 rfl (lv_room (Nat.le_of_ble_eq_true rfl)) dX0_blame_1 ⟨Nat.zero_le _, Nat.zero_le _⟩) hS (fun q _ h => h.elim) (fun q h => h.elim) (fun r1 u t H locs ht hvm hw hB hz1 hk1 hS => ?_)
  have hP := gc_keep hP hk1
  have hw : r1 = gB (gFt cl g) := hw
  subst hw
  clear hw
  clear hB hz1 hk1 ht hvm
  clear hPc hKc
  refine lv_if_eq (tgt := 9) hx hb dX0_blame_4 (by decide) (fun c_4 => ?_) (fun c_4 => ?_)
  · skip
    have c_4 := gB_f c_4
    refine lv_iconst (v := 0) hx hb dX0_blame_9 (by decide) ?_
    refine lv_istore_n (lv' := [(1, .int 0), (0, .ref (h 0))]) hx hb dX0_blame_10 rfl hl (by decide) rfl (fun ls hl => ?_)
    refine gc_loop (r) (fun (i : Nat) (H : Heap) (locs : List Loc) (ls : Array Slot) => ∃ (trv : Nat → Int32), (∀ j : Nat, j < i → gBp K g j = false) ∧ va_P (dC, dI) vwCl (gcW h kc f1 f2 dr cl trv se (nI g) (nI r) inf (nI ct)) H ∧ va_D A (gcW h kc f1 f2 dr cl trv se (nI g) (nI r) inf (nI ct)) ∧ va_S A s.heap H locs ∧ lv_has ls 2 [(1, .int (nI i)), (0, .ref (h 0))]) 0 (Nat.zero_le _) ⟨tr, (fun j hj => absurd hj (Nat.not_lt_zero j)), hP, hD, hS, lv_sub hl [0, 1] rfl⟩ ?_
    intro i H locs ls hi hI ihi
    obtain ⟨trv, hno, hP, hD, hS, hl⟩ := hI
    refine lv_iload_n hx hb dX0_blame_11 rfl (lv_at hl 0 rfl) ?_
    refine lv_aload_n hx hb dX0_blame_12 rfl (lv_at hl 1 rfl) ?_
    refine va_get (D := (dC, dI)) (ci := 0) (v := .int (nI r)) (C := RX0) (T := TX0) (N := 10) hx hb hts hin0 hown hK hP 0 rfl rfl 7 (by decide) (hts (.fieldLink RX0 51 "GuestChairs" "ruleCount" "I") (by decide +kernel)) (fun _ h9 => h9) rfl dX0_blame_13 ?_
    refine lv_icmp_ge (tgt := 46) hx hb dX0_blame_16 (by decide) (fun c_16 => ?_) (fun c_16 => ?_)
    · skip
      have hEi : i = r := gc_ge c_16 (by omega) (by omega)
      refine lv_iconst (v := -1) hx hb dX0_blame_46 (by decide) ?_
      have hpost : ((-1) : Int32) = (if gFt cl g = true then -1 else gFst (gBp K g) r) := by rw [if_neg (by rw [c_4]; decide)]; exact (gFst_no (by rw [← hEi]; exact hno)).symm
      exact W.iret (v := (-1)) hx hb hr (fun t ht hW => ⟨⟨(-1), trv, rfl, hpost, ⟨by rw [ht]; exact hP, hD⟩⟩, hS.F ht⟩) hS.2.2 dX0_blame_47
    · skip
      have hLi : i < r := gc_lt c_16 (by omega) (by omega)
      refine lv_aload_n hx hb dX0_blame_19 rfl (lv_at hl 1 rfl) ?_
      refine va_get (D := (dC, dI)) (ci := 0) (v := .int inf) (C := RX0) (T := TX0) (N := 10) hx hb hts hin0 hown hK hP 0 rfl rfl 8 (by decide) (hts (.fieldLink RX0 60 "GuestChairs" "inForce" "I") (by decide +kernel)) (fun _ h9 => h9) rfl dX0_blame_20 ?_
      refine lv_iload_n hx hb dX0_blame_23 rfl (lv_at hl 0 rfl) ?_
      refine va_calli (va_runS (As := [.int inf, .int (nI i)]) (rest := []) ⟨hx, hb, hml, hown, hts⟩ (c_X0_has l inf (nI i)) (va_cwS 2 hts gX0_blame_X0_has rfl rfl rfl (by decide +kernel) ⟨Nat.le_of_ble_eq_true rfl, Nat.le_of_ble_eq_true rfl⟩) ⟨fun a U g mk q => q, fun U hU hW => ⟨rfl, trivial⟩⟩ rfl rfl hl.1 rfl (lv_room (Nat.le_of_ble_eq_true rfl)) dX0_blame_24 ⟨Nat.zero_le _, Nat.zero_le _⟩) hS (fun q _ h => h.elim) (fun q h => h.elim) (fun r2 u t H locs ht hvm hw hB hz1 hk1 hS => ?_)
      have hP := gc_keep hP hk1
      have hw : r2 = gB (gHas inf (nI i)) := hw
      subst hw
      clear hw
      clear hB hz1 hk1 ht hvm
      refine lv_if_eq (tgt := 40) hx hb dX0_blame_27 (by decide) (fun c_27 => ?_) (fun c_27 => ?_)
      · skip
        have c_27 := gB_f c_27
        have hon : K.2.2.2 i = false := by rw [← (hOK.2 i hLi).2.2.2.2, ← gHas_bt (by omega)]; exact c_27
        refine lv_iinc (v := nI (i + 1)) (lv' := [(1, .int (nI (i + 1))), (0, .ref (h 0))]) hx hb dX0_blame_40 hl (k := 0) rfl (nI_1 i) (by decide) rfl (fun ls hl => ?_)
        refine lv_goto (tgt := 11) hx hb dX0_blame_43 (by decide) ?_
        exact ihi H _ ls (by omega) ⟨trv, (lt_s hno (by simp [gBp, hon])), hP, hD, hS, lv_sub hl [0, 1] rfl⟩
      · skip
        have c_27 := gB_t c_27
        have hon : K.2.2.2 i = true := by rw [← (hOK.2 i hLi).2.2.2.2, ← gHas_bt (by omega)]; exact c_27
        refine lv_aload_n hx hb dX0_blame_30 rfl (lv_at hl 1 rfl) ?_
        refine lv_iload_n hx hb dX0_blame_31 rfl (lv_at hl 0 rfl) ?_
        have hPc : va_P (dC, dI) vwCl (gcW h kc f1 f2 dr cl trv se (nI g) (nI r) inf (nI ct)) _ := hP.sub [0, 1, 2, 3, 4, 5, 6] rfl
        have hKc : va_K (dC, dI) vwCl (gcT kc) s := hK.sub [0, 1, 2, 3, 4, 5] rfl
        have hDc : va_D A (gcW h kc f1 f2 dr cl trv se (nI g) (nI r) inf (nI ct)) := hD.sub [0, 1, 2, 3, 4, 5, 6] (by decide) rfl
        have hFc := va_free (wc := (gcW h kc f1 f2 dr cl trv se (nI g) (nI r) inf (nI ct))) hD hS hA [0, 1, 2, 3, 4, 5, 6] rfl
        refine va_calli (va_runV (As := [.int (nI i)]) (rest := []) ⟨hx, hb, hml, hown, hts⟩ (c_X0_fitsWithout l dC dI h kc f1 f2 dr cl trv se g r inf ct (nI i) H.size (by first | assumption | omega) (by first | assumption | omega)) (cwV 1 hts gX0_blame_X0_fitsWithout rfl rfl rfl (by decide +kernel) ⟨Nat.le_of_ble_eq_true rfl, Nat.le_of_ble_eq_true rfl⟩) ⟨gcPM_blind, va_recv hK hP (ci := 0) (q0 := 0) rfl rfl, fun U hU hW => ⟨rfl, by rw [hU], by rw [hU]; exact hPc, va_K.moved hW.alike hKc, hDc.weaken (fun _ _ _ _ => trivial)⟩⟩ rfl rfl hl.1 rfl (lv_room (Nat.le_of_ble_eq_true rfl)) dX0_blame_32 ⟨Nat.zero_le _, Nat.zero_le _⟩) hS (fun q _ h => hFc q h) hFc (fun r3 u t H locs ht hvm hw hB hz1 hk1 hS => ?_)
        obtain ⟨hP1, hD1⟩ := hB
        rw [ht] at hP1
        obtain ⟨hP, hD⟩ := va_join (wr := []) (w1 := (gcW h kc f1 f2 dr cl (gCl (gLA f1 f2 inf (nI i) r trv) 20) se (nI g) (nI r) inf (nI ct))) hP hD [0, 1, 2, 3, 4, 5, 6] [] rfl rfl (by decide) (by decide) hk1 hFc hP1 hD1
        have hP : va_P (dC, dI) vwCl (gcW h kc f1 f2 dr cl (gCl (gLA f1 f2 inf (nI i) r trv) 20) se (nI g) (nI r) inf (nI ct)) H := hP.sub [0, 1, 2, 3, 4, 5, 6] rfl
        have hD : va_D A (gcW h kc f1 f2 dr cl (gCl (gLA f1 f2 inf (nI i) r trv) 20) se (nI g) (nI r) inf (nI ct)) := hD.sub [0, 1, 2, 3, 4, 5, 6] (by decide) rfl
        have hw : r3 = gB (gFt (gCl (gLA f1 f2 inf (nI i) r trv) 20) g) := hw
        subst hw
        clear hw
        clear hz1 hk1 ht hvm hP1 hD1 hFc hDc
        clear hPc hKc
        refine lv_if_eq (tgt := 40) hx hb dX0_blame_35 (by decide) (fun c_35 => ?_) (fun c_35 => ?_)
        · skip
          have c_35 := gB_f c_35
          have hft : ft (kL K (nI i)) g = false := by rw [← gFt_ft (gCls_of hOK hg hr30 trv (left := nI i)) hg]; exact c_35
          refine lv_iinc (v := nI (i + 1)) (lv' := [(1, .int (nI (i + 1))), (0, .ref (h 0))]) hx hb dX0_blame_40 hl (k := 0) rfl (nI_1 i) (by decide) rfl (fun ls hl => ?_)
          refine lv_goto (tgt := 11) hx hb dX0_blame_43 (by decide) ?_
          exact ihi H _ ls (by omega) ⟨(gCl (gLA f1 f2 inf (nI i) r trv) 20), (lt_s hno (by simp [gBp, hft])), hP, hD, hS, lv_sub hl [0, 1] rfl⟩
        · skip
          have c_35 := gB_t c_35
          have hft : ft (kL K (nI i)) g = true := by rw [← gFt_ft (gCls_of hOK hg hr30 trv (left := nI i)) hg]; exact c_35
          refine lv_iload_n hx hb dX0_blame_38 rfl (lv_at hl 0 rfl) ?_
          have hpost : (nI i) = (if gFt cl g = true then -1 else gFst (gBp K g) r) := by rw [if_neg (by rw [c_4]; decide)]; exact (gFst_hit (by omega) (by simp [gBp, hon, hft]) hno hLi).symm
          exact W.iret (v := nI i) hx hb hr (fun t ht hW => ⟨⟨nI i, gCl (gLA f1 f2 inf (nI i) r trv) 20, rfl, hpost, ⟨by rw [ht]; exact hP, hD⟩⟩, hS.F ht⟩) hS.2.2 dX0_blame_39
  · skip
    have c_4 := gB_t c_4
    refine lv_iconst (v := -1) hx hb dX0_blame_7 (by decide) ?_
    have hpost : ((-1) : Int32) = (if gFt cl g = true then -1 else gFst (gBp K g) r) := by rw [if_pos c_4]
    exact W.iret (v := (-1)) hx hb hr (fun t ht hW => ⟨⟨(-1), tr, rfl, hpost, ⟨by rw [ht]; exact hP, hD⟩⟩, hS.F ht⟩) hS.2.2 dX0_blame_8
/-- the book as it is made -/
abbrev gcN (h : Nat → Nat) (kc : Nat → ClassId) : va_W := gcW h kc (fun _ => 0) (fun _ => 0) (gLA (fun _ => 0) (fun _ => 0) 0 (-1) 0 (fun _ => 0)) (gCl (gLA (fun _ => 0) (fun _ => 0) 0 (-1) 0 (fun _ => 0)) 20) (fun _ => 0) (gLs (gCl (gLA (fun _ => 0) (fun _ => 0) 0 (-1) 0 (fun _ => 0)) 20) (fun _ => 0) 0 0).1 (nI 0) (nI 0) 0 (nI (gLs (gCl (gLA (fun _ => 0) (fun _ => 0) 0 (-1) 0 (fun _ => 0)) 20) (fun _ => 0) 0 0).2)
set_option maxHeartbeats 4000000 in
set_option maxRecDepth 100000 in
theorem c_X0_init (l : Launch) (dC : Nat → ClassId) (dI : Nat → Nat → Nat) (h0 : Nat) (sz : Nat) : Met l yX0_init wsX0_init ({ frames := 6, cells := 6, slots := 1144, locals := 127 }) (gcPM (dC, dI) [.ref h0] [(h0, .inr (0, [.null, .null, .null, .null, .null, .null, .int 0, .int 0, .int 0, .int 0]))] [] sz) (va_Qv (fun (u : (Nat → Nat) × (Nat → ClassId)) => u.1 0 = h0) (fun u t9 => va_P (dC, dI) vwCl (gcN u.1 u.2) t9.heap ∧ va_D (va_A [(h0, .inr (0, [.null, .null, .null, .null, .null, .null, .int 0, .int 0, .int 0, .int 0]))] sz) (gcN u.1 u.2) ∧ va_K (dC, dI) vwCl (gcT u.2) t9) (va_A [(h0, .inr (0, [.null, .null, .null, .null, .null, .null, .int 0, .int 0, .int 0, .int 0]))] sz)) 6 1144 (va_A [(h0, .inr (0, [.null, .null, .null, .null, .null, .null, .int 0, .int 0, .int 0, .int 0]))] sz) := by
  refine Met.ofW (cc := cX0_init) (maxL := 1) (ret := none) (by decide) rfl ?_
  intro p e s m args below meth c s₁ B hml hv
  obtain ⟨rfl, hsz, hP, hK, hD0⟩ := hv
  have hx := B.exec
  have hb := B.bytes
  have hr := B.returns
  have hts := atoms_spec (ws := wsX0_init) B.pre
  have hown : s.vm.findClass RX0 = some m.cls := findClass_of_methodNamed B.named
  have hlocks := B.notSynchronized
  have hin : meth.name = "<init>" := (name_of_methodNamed B.named B.method).1
  subst hsz
  have hD := hD0.self (sz := s.heap.size)
  generalize hAe : va_A [(h0, .inr (0, [.null, .null, .null, .null, .null, .null, .int 0, .int 0, .int 0, .int 0]))] s.heap.size = A at hD ⊢
  have hA : ∀ q : Nat, s.heap.size ≤ q → A q := fun q h => by rw [← hAe]; exact Or.inr h
  have hS : va_S A s.heap s.heap [] := va_S.rf
  have hP : va_P (dC, dI) vwCl [(h0, .inr (0, [.null, .null, .null, .null, .null, .null, .int 0, .int 0, .int 0, .int 0]))] s.heap := hP
  have hin0 : ∀ w ∈ wsX00, w ∈ wsX0_init := by decide +kernel
  have hl := lv_entry [.ref h0] (n := 1) (Nat.le_of_ble_eq_true rfl)
  rw [lg_entry_eq]
  generalize (lg_sl [.ref h0] ++ List.replicate (1 - (lg_sl [.ref h0]).length) Slot.unset).toArray = ls at hl ⊢
  have hl : lv_has ls 1 [(0, .ref h0)] := hl
  refine lv_aload_n hx hb dX0_init_0 rfl (lv_at hl 0 rfl) ?_
  refine W.objInit hx hb hown (hts (.methodLink RX0 1 objectInit) (by decide +kernel)) (hts (.instanceMethod objectInit) (by decide +kernel)) (hts (.code objectInit ⟨#[0xb1]⟩ 1 none) (by decide +kernel)) rfl (by rw [hml]; exact hl.1) rfl dX0_init_1 (Nat.le_of_ble_eq_true rfl) (Nat.le_of_ble_eq_true rfl) ?_
  refine W.eq (g2 := F0 m 4 ls []) rfl ?_
  refine lv_aload_n hx hb dX0_init_4 rfl (lv_at hl 0 rfl) ?_
  refine lv_bipush (v := 30) hx hb dX0_init_5 (by decide) ?_
  refine va_newa (atype := .int) hx hb (hts (.arrayClass .int) (by decide +kernel)) rfl hK hP hD hS hA (n := 30) (N' := 30) (a0 := (30, .inl (fun _ => 0))) (fun _ => rfl) (by decide) (by decide +kernel) (by decide) (Nat.le_of_ble_eq_true rfl) (Nat.le_of_ble_eq_true rfl) dX0_init_7 (fun q1 k1 H hK hP hD hS => ?_)
  have hP : va_P (dC, dI) vwCl [(h0, .inr (0, [.null, .null, .null, .null, .null, .null, .int 0, .int 0, .int 0, .int 0])), (q1, .inl (k1, 30, .inl (fun _ => 0)))] H := hP
  have hD : va_D A [(h0, .inr (0, [.null, .null, .null, .null, .null, .null, .int 0, .int 0, .int 0, .int 0])), (q1, .inl (k1, 30, .inl (fun _ => 0)))] := hD
  have hK : va_K (dC, dI) vwCl [(k1, .int)] s := hK
  refine W.widen (k := 1) (n := 30) (by decide) (by decide) ?_
  refine va_putF (D := (dC, dI)) (ci := 0) (v := .ref q1) (ty := (.array .int)) (C := RX0) (T := TX0) (N := 10) hx hb hts hin0 tyX0 tyX0_ok nmX0 hown hK hP hD hS 0 rfl rfl 0 (by decide) (hts (.fieldLink RX0 9 "GuestChairs" "firsts" "[I") (by decide +kernel)) (fun _ h9 => h9) rfl hin rfl (by decide +kernel) rfl rfl (Nat.le_of_ble_eq_true rfl) dX0_init_9 (fun H locs hP hD hS => ?_)
  have hP : va_P (dC, dI) vwCl [(h0, .inr (0, [.ref q1, .null, .null, .null, .null, .null, .int 0, .int 0, .int 0, .int 0])), (q1, .inl (k1, 30, .inl (fun _ => 0)))] H := hP
  have hD : va_D A [(h0, .inr (0, [.ref q1, .null, .null, .null, .null, .null, .int 0, .int 0, .int 0, .int 0])), (q1, .inl (k1, 30, .inl (fun _ => 0)))] := hD
  refine lv_aload_n hx hb dX0_init_12 rfl (lv_at hl 0 rfl) ?_
  refine lv_bipush (v := 30) hx hb dX0_init_13 (by decide) ?_
  refine va_newa (atype := .int) hx hb (hts (.arrayClass .int) (by decide +kernel)) rfl hK hP hD hS hA (n := 30) (N' := 30) (a0 := (30, .inl (fun _ => 0))) (fun _ => rfl) (by decide) (by decide +kernel) (by decide) (Nat.le_of_ble_eq_true rfl) (Nat.le_of_ble_eq_true rfl) dX0_init_15 (fun q2 k2 H hK hP hD hS => ?_)
  have hP : va_P (dC, dI) vwCl [(h0, .inr (0, [.ref q1, .null, .null, .null, .null, .null, .int 0, .int 0, .int 0, .int 0])), (q1, .inl (k1, 30, .inl (fun _ => 0))), (q2, .inl (k2, 30, .inl (fun _ => 0)))] H := hP
  have hD : va_D A [(h0, .inr (0, [.ref q1, .null, .null, .null, .null, .null, .int 0, .int 0, .int 0, .int 0])), (q1, .inl (k1, 30, .inl (fun _ => 0))), (q2, .inl (k2, 30, .inl (fun _ => 0)))] := hD
  have hK : va_K (dC, dI) vwCl [(k1, .int), (k2, .int)] s := hK
  refine W.widen (k := 2) (n := 60) (by decide) (by decide) ?_
  refine va_putF (D := (dC, dI)) (ci := 0) (v := .ref q2) (ty := (.array .int)) (C := RX0) (T := TX0) (N := 10) hx hb hts hin0 tyX0 tyX0_ok nmX0 hown hK hP hD hS 0 rfl rfl 1 (by decide) (hts (.fieldLink RX0 13 "GuestChairs" "seconds" "[I") (by decide +kernel)) (fun _ h9 => h9) rfl hin rfl (by decide +kernel) rfl rfl (Nat.le_of_ble_eq_true rfl) dX0_init_17 (fun H locs hP hD hS => ?_)
  have hP : va_P (dC, dI) vwCl [(h0, .inr (0, [.ref q1, .ref q2, .null, .null, .null, .null, .int 0, .int 0, .int 0, .int 0])), (q1, .inl (k1, 30, .inl (fun _ => 0))), (q2, .inl (k2, 30, .inl (fun _ => 0)))] H := hP
  have hD : va_D A [(h0, .inr (0, [.ref q1, .ref q2, .null, .null, .null, .null, .int 0, .int 0, .int 0, .int 0])), (q1, .inl (k1, 30, .inl (fun _ => 0))), (q2, .inl (k2, 30, .inl (fun _ => 0)))] := hD
  refine lv_aload_n hx hb dX0_init_20 rfl (lv_at hl 0 rfl) ?_
  refine lv_bipush (v := 20) hx hb dX0_init_21 (by decide) ?_
  refine va_newa (atype := .int) hx hb (hts (.arrayClass .int) (by decide +kernel)) rfl hK hP hD hS hA (n := 20) (N' := 20) (a0 := (20, .inl (fun _ => 0))) (fun _ => rfl) (by decide) (by decide +kernel) (by decide) (Nat.le_of_ble_eq_true rfl) (Nat.le_of_ble_eq_true rfl) dX0_init_23 (fun q3 k3 H hK hP hD hS => ?_)
  have hP : va_P (dC, dI) vwCl [(h0, .inr (0, [.ref q1, .ref q2, .null, .null, .null, .null, .int 0, .int 0, .int 0, .int 0])), (q1, .inl (k1, 30, .inl (fun _ => 0))), (q2, .inl (k2, 30, .inl (fun _ => 0))), (q3, .inl (k3, 20, .inl (fun _ => 0)))] H := hP
  have hD : va_D A [(h0, .inr (0, [.ref q1, .ref q2, .null, .null, .null, .null, .int 0, .int 0, .int 0, .int 0])), (q1, .inl (k1, 30, .inl (fun _ => 0))), (q2, .inl (k2, 30, .inl (fun _ => 0))), (q3, .inl (k3, 20, .inl (fun _ => 0)))] := hD
  have hK : va_K (dC, dI) vwCl [(k1, .int), (k2, .int), (k3, .int)] s := hK
  refine W.widen (k := 3) (n := 80) (by decide) (by decide) ?_
  refine va_putF (D := (dC, dI)) (ci := 0) (v := .ref q3) (ty := (.array .int)) (C := RX0) (T := TX0) (N := 10) hx hb hts hin0 tyX0 tyX0_ok nmX0 hown hK hP hD hS 0 rfl rfl 2 (by decide) (hts (.fieldLink RX0 16 "GuestChairs" "direct" "[I") (by decide +kernel)) (fun _ h9 => h9) rfl hin rfl (by decide +kernel) rfl rfl (Nat.le_of_ble_eq_true rfl) dX0_init_25 (fun H locs hP hD hS => ?_)
  have hP : va_P (dC, dI) vwCl [(h0, .inr (0, [.ref q1, .ref q2, .ref q3, .null, .null, .null, .int 0, .int 0, .int 0, .int 0])), (q1, .inl (k1, 30, .inl (fun _ => 0))), (q2, .inl (k2, 30, .inl (fun _ => 0))), (q3, .inl (k3, 20, .inl (fun _ => 0)))] H := hP
  have hD : va_D A [(h0, .inr (0, [.ref q1, .ref q2, .ref q3, .null, .null, .null, .int 0, .int 0, .int 0, .int 0])), (q1, .inl (k1, 30, .inl (fun _ => 0))), (q2, .inl (k2, 30, .inl (fun _ => 0))), (q3, .inl (k3, 20, .inl (fun _ => 0)))] := hD
  refine lv_aload_n hx hb dX0_init_28 rfl (lv_at hl 0 rfl) ?_
  refine lv_bipush (v := 20) hx hb dX0_init_29 (by decide) ?_
  refine va_newa (atype := .int) hx hb (hts (.arrayClass .int) (by decide +kernel)) rfl hK hP hD hS hA (n := 20) (N' := 20) (a0 := (20, .inl (fun _ => 0))) (fun _ => rfl) (by decide) (by decide +kernel) (by decide) (Nat.le_of_ble_eq_true rfl) (Nat.le_of_ble_eq_true rfl) dX0_init_31 (fun q4 k4 H hK hP hD hS => ?_)
  have hP : va_P (dC, dI) vwCl [(h0, .inr (0, [.ref q1, .ref q2, .ref q3, .null, .null, .null, .int 0, .int 0, .int 0, .int 0])), (q1, .inl (k1, 30, .inl (fun _ => 0))), (q2, .inl (k2, 30, .inl (fun _ => 0))), (q3, .inl (k3, 20, .inl (fun _ => 0))), (q4, .inl (k4, 20, .inl (fun _ => 0)))] H := hP
  have hD : va_D A [(h0, .inr (0, [.ref q1, .ref q2, .ref q3, .null, .null, .null, .int 0, .int 0, .int 0, .int 0])), (q1, .inl (k1, 30, .inl (fun _ => 0))), (q2, .inl (k2, 30, .inl (fun _ => 0))), (q3, .inl (k3, 20, .inl (fun _ => 0))), (q4, .inl (k4, 20, .inl (fun _ => 0)))] := hD
  have hK : va_K (dC, dI) vwCl [(k1, .int), (k2, .int), (k3, .int), (k4, .int)] s := hK
  refine W.widen (k := 4) (n := 100) (by decide) (by decide) ?_
  refine va_putF (D := (dC, dI)) (ci := 0) (v := .ref q4) (ty := (.array .int)) (C := RX0) (T := TX0) (N := 10) hx hb hts hin0 tyX0 tyX0_ok nmX0 hown hK hP hD hS 0 rfl rfl 3 (by decide) (hts (.fieldLink RX0 19 "GuestChairs" "closed" "[I") (by decide +kernel)) (fun _ h9 => h9) rfl hin rfl (by decide +kernel) rfl rfl (Nat.le_of_ble_eq_true rfl) dX0_init_33 (fun H locs hP hD hS => ?_)
  have hP : va_P (dC, dI) vwCl [(h0, .inr (0, [.ref q1, .ref q2, .ref q3, .ref q4, .null, .null, .int 0, .int 0, .int 0, .int 0])), (q1, .inl (k1, 30, .inl (fun _ => 0))), (q2, .inl (k2, 30, .inl (fun _ => 0))), (q3, .inl (k3, 20, .inl (fun _ => 0))), (q4, .inl (k4, 20, .inl (fun _ => 0)))] H := hP
  have hD : va_D A [(h0, .inr (0, [.ref q1, .ref q2, .ref q3, .ref q4, .null, .null, .int 0, .int 0, .int 0, .int 0])), (q1, .inl (k1, 30, .inl (fun _ => 0))), (q2, .inl (k2, 30, .inl (fun _ => 0))), (q3, .inl (k3, 20, .inl (fun _ => 0))), (q4, .inl (k4, 20, .inl (fun _ => 0)))] := hD
  refine lv_aload_n hx hb dX0_init_36 rfl (lv_at hl 0 rfl) ?_
  refine lv_bipush (v := 20) hx hb dX0_init_37 (by decide) ?_
  refine va_newa (atype := .int) hx hb (hts (.arrayClass .int) (by decide +kernel)) rfl hK hP hD hS hA (n := 20) (N' := 20) (a0 := (20, .inl (fun _ => 0))) (fun _ => rfl) (by decide) (by decide +kernel) (by decide) (Nat.le_of_ble_eq_true rfl) (Nat.le_of_ble_eq_true rfl) dX0_init_39 (fun q5 k5 H hK hP hD hS => ?_)
  have hP : va_P (dC, dI) vwCl [(h0, .inr (0, [.ref q1, .ref q2, .ref q3, .ref q4, .null, .null, .int 0, .int 0, .int 0, .int 0])), (q1, .inl (k1, 30, .inl (fun _ => 0))), (q2, .inl (k2, 30, .inl (fun _ => 0))), (q3, .inl (k3, 20, .inl (fun _ => 0))), (q4, .inl (k4, 20, .inl (fun _ => 0))), (q5, .inl (k5, 20, .inl (fun _ => 0)))] H := hP
  have hD : va_D A [(h0, .inr (0, [.ref q1, .ref q2, .ref q3, .ref q4, .null, .null, .int 0, .int 0, .int 0, .int 0])), (q1, .inl (k1, 30, .inl (fun _ => 0))), (q2, .inl (k2, 30, .inl (fun _ => 0))), (q3, .inl (k3, 20, .inl (fun _ => 0))), (q4, .inl (k4, 20, .inl (fun _ => 0))), (q5, .inl (k5, 20, .inl (fun _ => 0)))] := hD
  have hK : va_K (dC, dI) vwCl [(k1, .int), (k2, .int), (k3, .int), (k4, .int), (k5, .int)] s := hK
  refine W.widen (k := 5) (n := 120) (by decide) (by decide) ?_
  refine va_putF (D := (dC, dI)) (ci := 0) (v := .ref q5) (ty := (.array .int)) (C := RX0) (T := TX0) (N := 10) hx hb hts hin0 tyX0 tyX0_ok nmX0 hown hK hP hD hS 0 rfl rfl 4 (by decide) (hts (.fieldLink RX0 22 "GuestChairs" "trial" "[I") (by decide +kernel)) (fun _ h9 => h9) rfl hin rfl (by decide +kernel) rfl rfl (Nat.le_of_ble_eq_true rfl) dX0_init_41 (fun H locs hP hD hS => ?_)
  have hP : va_P (dC, dI) vwCl [(h0, .inr (0, [.ref q1, .ref q2, .ref q3, .ref q4, .ref q5, .null, .int 0, .int 0, .int 0, .int 0])), (q1, .inl (k1, 30, .inl (fun _ => 0))), (q2, .inl (k2, 30, .inl (fun _ => 0))), (q3, .inl (k3, 20, .inl (fun _ => 0))), (q4, .inl (k4, 20, .inl (fun _ => 0))), (q5, .inl (k5, 20, .inl (fun _ => 0)))] H := hP
  have hD : va_D A [(h0, .inr (0, [.ref q1, .ref q2, .ref q3, .ref q4, .ref q5, .null, .int 0, .int 0, .int 0, .int 0])), (q1, .inl (k1, 30, .inl (fun _ => 0))), (q2, .inl (k2, 30, .inl (fun _ => 0))), (q3, .inl (k3, 20, .inl (fun _ => 0))), (q4, .inl (k4, 20, .inl (fun _ => 0))), (q5, .inl (k5, 20, .inl (fun _ => 0)))] := hD
  refine lv_aload_n hx hb dX0_init_44 rfl (lv_at hl 0 rfl) ?_
  refine lv_sipush (v := 1024) hx hb dX0_init_45 (by decide) ?_
  refine va_newa (atype := .int) hx hb (hts (.arrayClass .int) (by decide +kernel)) rfl hK hP hD hS hA (n := 1024) (N' := 1024) (a0 := (1024, .inl (fun _ => 0))) (fun _ => rfl) (by decide) (by decide +kernel) (by decide) (Nat.le_of_ble_eq_true rfl) (Nat.le_of_ble_eq_true rfl) dX0_init_48 (fun q6 k6 H hK hP hD hS => ?_)
  have hP : va_P (dC, dI) vwCl [(h0, .inr (0, [.ref q1, .ref q2, .ref q3, .ref q4, .ref q5, .null, .int 0, .int 0, .int 0, .int 0])), (q1, .inl (k1, 30, .inl (fun _ => 0))), (q2, .inl (k2, 30, .inl (fun _ => 0))), (q3, .inl (k3, 20, .inl (fun _ => 0))), (q4, .inl (k4, 20, .inl (fun _ => 0))), (q5, .inl (k5, 20, .inl (fun _ => 0))), (q6, .inl (k6, 1024, .inl (fun _ => 0)))] H := hP
  have hD : va_D A [(h0, .inr (0, [.ref q1, .ref q2, .ref q3, .ref q4, .ref q5, .null, .int 0, .int 0, .int 0, .int 0])), (q1, .inl (k1, 30, .inl (fun _ => 0))), (q2, .inl (k2, 30, .inl (fun _ => 0))), (q3, .inl (k3, 20, .inl (fun _ => 0))), (q4, .inl (k4, 20, .inl (fun _ => 0))), (q5, .inl (k5, 20, .inl (fun _ => 0))), (q6, .inl (k6, 1024, .inl (fun _ => 0)))] := hD
  have hK : va_K (dC, dI) vwCl [(k1, .int), (k2, .int), (k3, .int), (k4, .int), (k5, .int), (k6, .int)] s := hK
  refine W.widen (k := 6) (n := 1144) (by decide) (by decide) ?_
  refine va_putF (D := (dC, dI)) (ci := 0) (v := .ref q6) (ty := (.array .int)) (C := RX0) (T := TX0) (N := 10) hx hb hts hin0 tyX0 tyX0_ok nmX0 hown hK hP hD hS 0 rfl rfl 5 (by decide) (hts (.fieldLink RX0 25 "GuestChairs" "seated" "[I") (by decide +kernel)) (fun _ h9 => h9) rfl hin rfl (by decide +kernel) rfl rfl (Nat.le_of_ble_eq_true rfl) dX0_init_50 (fun H locs hP hD hS => ?_)
  have hP : va_P (dC, dI) vwCl [(h0, .inr (0, [.ref q1, .ref q2, .ref q3, .ref q4, .ref q5, .ref q6, .int 0, .int 0, .int 0, .int 0])), (q1, .inl (k1, 30, .inl (fun _ => 0))), (q2, .inl (k2, 30, .inl (fun _ => 0))), (q3, .inl (k3, 20, .inl (fun _ => 0))), (q4, .inl (k4, 20, .inl (fun _ => 0))), (q5, .inl (k5, 20, .inl (fun _ => 0))), (q6, .inl (k6, 1024, .inl (fun _ => 0)))] H := hP
  have hD : va_D A [(h0, .inr (0, [.ref q1, .ref q2, .ref q3, .ref q4, .ref q5, .ref q6, .int 0, .int 0, .int 0, .int 0])), (q1, .inl (k1, 30, .inl (fun _ => 0))), (q2, .inl (k2, 30, .inl (fun _ => 0))), (q3, .inl (k3, 20, .inl (fun _ => 0))), (q4, .inl (k4, 20, .inl (fun _ => 0))), (q5, .inl (k5, 20, .inl (fun _ => 0))), (q6, .inl (k6, 1024, .inl (fun _ => 0)))] := hD
  refine lv_aload_n hx hb dX0_init_53 rfl (lv_at hl 0 rfl) ?_
  have hP : va_P (dC, dI) vwCl (gcW (hF7 h0 q1 q2 q3 q4 q5 q6) (kF7 k1 k2 k3 k4 k5 k6) (fun _ => 0) (fun _ => 0) (fun _ => 0) (fun _ => 0) (fun _ => 0) (fun _ => 0) (nI 0) (nI 0) 0 (nI 0)) H := hP
  have hD : va_D A (gcW (hF7 h0 q1 q2 q3 q4 q5 q6) (kF7 k1 k2 k3 k4 k5 k6) (fun _ => 0) (fun _ => 0) (fun _ => 0) (fun _ => 0) (fun _ => 0) (fun _ => 0) (nI 0) (nI 0) 0 (nI 0)) := hD
  have hK : va_K (dC, dI) vwCl (gcT (kF7 k1 k2 k3 k4 k5 k6)) s := hK
  have hFc := va_free (wc := gcW (hF7 h0 q1 q2 q3 q4 q5 q6) (kF7 k1 k2 k3 k4 k5 k6) (fun _ => 0) (fun _ => 0) (fun _ => 0) (fun _ => 0) (fun _ => 0) (fun _ => 0) (nI 0) (nI 0) 0 (nI 0)) hD hS hA [0, 1, 2, 3, 4, 5, 6] rfl
  refine va_callv (va_runV (As := []) (rest := []) ⟨hx, hb, hml, hown, hts⟩ (c_X0_refresh l dC dI (hF7 h0 q1 q2 q3 q4 q5 q6) (kF7 k1 k2 k3 k4 k5 k6) (fun _ => 0) (fun _ => 0) (fun _ => 0) (fun _ => 0) (fun _ => 0) (fun _ => 0) 0 0 0 0 H.size (by decide) (by decide)) (cwV 0 hts gX0_init_X0_refresh rfl rfl rfl (by decide +kernel) ⟨Nat.le_of_ble_eq_true rfl, Nat.le_of_ble_eq_true rfl⟩) ⟨gcPM_blind, va_recv hK hP (ci := 0) (q0 := 0) rfl rfl, fun U hU hW => ⟨rfl, by rw [hU], by rw [hU]; exact hP, va_K.moved hW.alike hK, hD.weaken (fun _ _ _ _ => trivial)⟩⟩ rfl rfl hl.1 rfl (lv_room (Nat.le_of_ble_eq_true rfl)) dX0_init_54 ⟨Nat.le_of_ble_eq_true rfl, Nat.le_of_ble_eq_true rfl⟩) hS (fun q _ h => hFc q h) hFc (fun u t H locs ht hvm hw hB hz1 hk1 hS => ?_)
  obtain ⟨hP1, hD1⟩ := hB
  rw [ht] at hP1
  obtain ⟨hP, hD⟩ := va_join (wr := []) (w1 := gcN (hF7 h0 q1 q2 q3 q4 q5 q6) (kF7 k1 k2 k3 k4 k5 k6)) hP hD [0, 1, 2, 3, 4, 5, 6] [] rfl rfl (by decide) (by decide) hk1 hFc hP1 hD1
  exact W.vret hx hb hr (fun t ht hW => ⟨⟨(hF7 h0 q1 q2 q3 q4 q5 q6, kF7 k1 k2 k3 k4 k5 k6), rfl, rfl, by rw [ht]; exact hP, hD, va_K.moved hW.alike hK⟩, hS.F ht⟩) hS.2.2 dX0_init_57
