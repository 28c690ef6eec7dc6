/-! MEANS (which may draw a NaN, as far as the machine's rows tell), and the reference's checksum. -/
noncomputable def gMv (sum cnt : Int32) : UInt64 := if cnt = 0 then FP.dconst0 else FP.ddiv (FP.i2d sum) (FP.i2d cnt)
set_option maxHeartbeats 4000000 in
set_option maxRecDepth 100000 in
theorem c_X0_mean (l : Launch) (dC : Nat → ClassId) (dI : Nat → Nat → Nat) (h : Nat → Nat) (kc : Nat → ClassId) (f1 : Nat → Int32) (f2 : Nat → Int32) (dr : Nat → Int32) (cl : Nat → Int32) (tr : Nat → Int32) (se : Nat → Int32) (g : Nat) (r : Nat) (inf : Int32) (ct : Nat) (hc : ct ≤ 1024) : MetD lw_cs l yX0_mean wsX0_mean ({ frames := 2, cells := 0, slots := 0, locals := 40 }) (gcPR (dC, dI) [.ref (h 0)] (gcW h kc f1 f2 dr cl tr se (nI g) (nI r) inf (nI ct)) (gcT kc)) (va_Qd (fun (rv : UInt64) (_u : Unit) => alike64 rv (gMv (gSu se ct) (nI ct)) = true) (fun _ _ => True) (fun _ => False)) 0 0 (fun _ => False) := by
  refine MetD.ofW (cc := cX0_mean) (maxL := 3) (ret := (some .double)) (by decide) rfl ?_
  intro p e s m args below meth c s₁ B hml hv hd0
  obtain ⟨rfl, hP, hK⟩ := hv
  have hx := B.exec
  have hb := B.bytes
  have hr := B.returns
  have hts := atoms_spec (ws := wsX0_mean) B.pre
  have hts := dr_words hts s.drawn
  have hown : s.vm.findClass RX0 = some m.cls := findClass_of_methodNamed B.named
  have hlocks := B.notSynchronized
  have hS : va_S (fun _ => False) s.heap s.heap [] := va_S.rf
  have hP : va_P (dC, dI) vwCl (gcW h kc f1 f2 dr cl tr se (nI g) (nI r) inf (nI ct)) s.heap := hP
  have hin0 : ∀ w ∈ wsX00, w ∈ wsX0_mean := by decide +kernel
  have hl := lv_entry [.ref (h 0)] (n := 3) (Nat.le_of_ble_eq_true rfl)
  rw [lg_entry_eq]
  generalize (lg_sl [.ref (h 0)] ++ List.replicate (3 - (lg_sl [.ref (h 0)]).length) Slot.unset).toArray = ls at hl ⊢
  have hl : lv_has ls 3 [(0, .ref (h 0))] := hl
  refine lv_aload_n hx hb dX0_mean_0 rfl (lv_at hl 0 rfl) ?_
  refine va_get (D := (dC, dI)) (ci := 0) (v := .int (nI ct)) (C := RX0) (T := TX0) (N := 10) hx hb hts hin0 hown hK hP 0 rfl rfl 9 (by decide) (hts (.fieldLink RX0 111 "GuestChairs" "seatingCount" "I") (by decide +kernel)) (fun _ h9 => h9) rfl dX0_mean_1 ?_
  refine lv_if_ne (tgt := 9) hx hb dX0_mean_4 (by decide) (fun c_4 => ?_) (fun c_4 => ?_)
  · skip
    refine lv_iconst (v := 0) hx hb dX0_mean_9 (by decide) ?_
    refine lv_istore_n (lv' := [(1, .int 0), (0, .ref (h 0))]) hx hb dX0_mean_10 rfl hl (by decide) rfl (fun ls hl => ?_)
    refine lv_iconst (v := 0) hx hb dX0_mean_11 (by decide) ?_
    refine lv_istore_n (lv' := [(2, .int 0), (1, .int 0), (0, .ref (h 0))]) hx hb dX0_mean_12 rfl hl (by decide) rfl (fun ls hl => ?_)
    refine gc_loop (ct) (fun (i : Nat) (H : Heap) (locs : List Loc) (ls : Array Slot) => ∃ (x : Int32), x = gSu se i ∧ va_P (dC, dI) vwCl (gcW h kc f1 f2 dr cl tr se (nI g) (nI r) inf (nI ct)) H ∧ va_S (fun _ => False) s.heap H locs ∧ lv_has ls 3 [(2, .int (nI i)), (1, .int x), (0, .ref (h 0))]) 0 (Nat.zero_le _) ⟨0, (by first | rfl | assumption | omega), hP, hS, lv_sub hl [0, 1, 2] rfl⟩ ?_
    intro i H locs ls hi hI ihi
    obtain ⟨x, e_x, hP, hS, hl⟩ := hI
    refine lv_iload_n hx hb dX0_mean_13 rfl (lv_at hl 0 rfl) ?_
    refine lv_aload_n hx hb dX0_mean_14 rfl (lv_at hl 2 rfl) ?_
    refine va_get (D := (dC, dI)) (ci := 0) (v := .int (nI ct)) (C := RX0) (T := TX0) (N := 10) hx hb hts hin0 hown hK hP 0 rfl rfl 9 (by decide) (hts (.fieldLink RX0 111 "GuestChairs" "seatingCount" "I") (by decide +kernel)) (fun _ h9 => h9) rfl dX0_mean_15 ?_
    refine lv_icmp_ge (tgt := 41) hx hb dX0_mean_18 (by decide) (fun c_18 => ?_) (fun c_18 => ?_)
    · skip
      have hEi : i = ct := gc_ge c_18 (by omega) (by omega)
      refine lv_iload_n hx hb dX0_mean_41 rfl (lv_at hl 1 rfl) ?_
      refine lv_i2d hx hb dX0_mean_42 ?_
      refine lv_aload_n hx hb dX0_mean_43 rfl (lv_at hl 2 rfl) ?_
      refine va_get (D := (dC, dI)) (ci := 0) (v := .int (nI ct)) (C := RX0) (T := TX0) (N := 10) hx hb hts hin0 hown hK hP 0 rfl rfl 9 (by decide) (hts (.fieldLink RX0 111 "GuestChairs" "seatingCount" "I") (by decide +kernel)) (fun _ h9 => h9) rfl dX0_mean_44 ?_
      refine lv_i2d hx hb dX0_mean_47 ?_
      refine lv_ddiv_any hd0 lw_bits hx hb dX0_mean_48 (fun rq d1 hal hd1 => ?_)
      have hpost : alike64 rq (gMv (gSu se ct) (nI ct)) = true := by rw [gMv, if_neg c_4, ← hEi, ← e_x, hEi]; exact hal
      refine W.endD hd1 ?_
      exact W.dret (v := rq) hx hb hr (fun t ht hW => ⟨⟨rq, (), rfl, hpost, trivial⟩, hS.F ht⟩) hS.2.2 dX0_mean_49
    · skip
      have hLi : i < ct := gc_lt c_18 (by omega) (by omega)
      refine lv_iload_n hx hb dX0_mean_21 rfl (lv_at hl 1 rfl) ?_
      refine lv_aload_n hx hb dX0_mean_22 rfl (lv_at hl 2 rfl) ?_
      refine va_get (D := (dC, dI)) (ci := 0) (v := .ref (h 6)) (C := RX0) (T := TX0) (N := 10) hx hb hts hin0 hown hK hP 0 rfl rfl 5 (by decide) (hts (.fieldLink RX0 25 "GuestChairs" "seated" "[I") (by decide +kernel)) (fun _ h9 => h9) rfl dX0_mean_23 ?_
      refine lv_iload_n hx hb dX0_mean_26 rfl (lv_at hl 0 rfl) ?_
      have hPc : va_P (dC, dI) vwCl ([((h 6), .inl ((kc 6), 1024, .inl se))]) _ := hP.sub [6] rfl
      have hKc : va_K (dC, dI) vwCl ([((kc 6), .int)]) s := hK.sub [5] rfl
      refine va_calli (va_runS (As := [.ref (h 6), .int (nI i)]) (rest := [.int x]) ⟨hx, hb, hml, hown, hts⟩ (c_X0_at l dC dI (h 6) (kc 6) 1024 se (nI i) (by decide)) (va_cwS 2 hts gX0_mean_X0_at rfl rfl rfl (by decide +kernel) ⟨Nat.le_of_ble_eq_true rfl, Nat.le_of_ble_eq_true rfl⟩) ⟨gcPR_blind, fun U hU hW => ⟨rfl, by rw [hU]; exact hPc, va_K.moved hW.alike hKc⟩⟩ rfl rfl hl.1 rfl (lv_room (Nat.le_of_ble_eq_true rfl)) dX0_mean_27 ⟨Nat.zero_le _, Nat.zero_le _⟩) hS (fun q _ h => h.elim) (fun q h => h.elim) (fun r1 u t H locs ht hvm hw hB hz1 hk1 hS => ?_)
      have hP := gc_keep hP hk1
      have hw : r1 = gAt 1024 se (nI i) := hw
      subst hw
      clear hw
      clear hB hz1 hk1 ht hvm
      clear hPc hKc
      refine va_calli (va_runS (As := [.int (gAt 1024 se (nI i))]) (rest := [.int x]) ⟨hx, hb, hml, hown, hts⟩ (c_X0_countComing l (gAt 1024 se (nI i))) (va_cwS 1 hts gX0_mean_X0_countComing rfl rfl rfl (by decide +kernel) ⟨Nat.le_of_ble_eq_true rfl, Nat.le_of_ble_eq_true rfl⟩) ⟨fun a U g mk q => q, fun U hU hW => ⟨rfl, trivial⟩⟩ rfl rfl hl.1 rfl (lv_room (Nat.le_of_ble_eq_true rfl)) dX0_mean_30 ⟨Nat.zero_le _, Nat.zero_le _⟩) hS (fun q _ h => h.elim) (fun q h => h.elim) (fun r2 u t H locs ht hvm hw hB hz1 hk1 hS => ?_)
      have hP := gc_keep hP hk1
      have hw : r2 = gBC ((gAt 1024 se (nI i)) &&& 349525) := hw
      subst hw
      clear hw
      clear hB hz1 hk1 ht hvm
      refine lv_iadd hx hb dX0_mean_33 ?_
      refine lv_istore_n (lv' := [(1, .int (x + gBC ((gAt 1024 se (nI i)) &&& 349525))), (2, .int (nI i)), (0, .ref (h 0))]) hx hb dX0_mean_34 rfl hl (by decide) rfl (fun ls hl => ?_)
      refine lv_iinc (v := nI (i + 1)) (lv' := [(2, .int (nI (i + 1))), (1, .int (x + gBC ((gAt 1024 se (nI i)) &&& 349525))), (0, .ref (h 0))]) hx hb dX0_mean_35 hl (k := 1) rfl (nI_1 i) (by decide) rfl (fun ls hl => ?_)
      refine lv_goto (tgt := 13) hx hb dX0_mean_38 (by decide) ?_
      exact ihi H _ ls (by omega) ⟨(x + gBC ((gAt 1024 se (nI i)) &&& 349525)), (by rw [e_x]; rfl), hP, hS, lv_sub hl [0, 1, 2] rfl⟩
  · skip
    refine lv_dconst0 hx hb dX0_mean_7 ?_
    have hpost : alike64 FP.dconst0 (gMv (gSu se ct) (nI ct)) = true := by rw [gMv, if_pos c_4]; simp [alike64]
    refine W.endD hd0 ?_
    exact W.dret (v := FP.dconst0) hx hb hr (fun t ht hW => ⟨⟨FP.dconst0, (), rfl, hpost, trivial⟩, hS.F ht⟩) hS.2.2 dX0_mean_8
