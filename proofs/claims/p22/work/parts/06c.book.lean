set_option maxHeartbeats 4000000 in
set_option maxRecDepth 100000 in
theorem c_X0_settle (l : Launch) (dC : Nat → ClassId) (dI : Nat → Nat → Nat) (h : Nat → Nat) (kc : Nat → ClassId) (f1 : Nat → Int32) (f2 : Nat → Int32) (dr : Nat → Int32) (cl : Nat → Int32) (tr : Nat → Int32) (se : Nat → Int32) (g : Nat) (r : Nat) (inf : Int32) (ct : Nat) (co : Int32) (sz : Nat) (hc : ct ≤ 1024) : Met l yX0_settle wsX0_settle ({ frames := 2, cells := 0, slots := 0, locals := 42 }) (gcPM (dC, dI) [.ref (h 0), .int co] (gcW h kc f1 f2 dr cl tr se (nI g) (nI r) inf (nI ct)) (gcT kc) sz) (va_Qv (fun (_u : Unit) => True) (fun _u t9 => va_P (dC, dI) vwCl (gcW h kc f1 f2 dr cl tr ((gSt cl co se ct ct).1) (nI g) (nI r) inf (nI (gSt cl co se ct ct).2)) t9.heap ∧ va_D (va_A (gcW h kc f1 f2 dr cl tr se (nI g) (nI r) inf (nI ct)) sz) (gcW h kc f1 f2 dr cl tr ((gSt cl co se ct ct).1) (nI g) (nI r) inf (nI (gSt cl co se ct ct).2))) (va_A (gcW h kc f1 f2 dr cl tr se (nI g) (nI r) inf (nI ct)) sz)) 0 0 (va_A (gcW h kc f1 f2 dr cl tr se (nI g) (nI r) inf (nI ct)) sz) := by
  refine Met.ofW (cc := cX0_settle) (maxL := 6) (ret := none) (by decide) rfl ?_
  intro p e s m args below meth c s₁ B hml hv
  obtain ⟨rfl, hsz, hP, hK, hD0⟩ := hv
  have hx := B.exec
  have hb := B.bytes
  have hr := B.returns
  have hts := atoms_spec (ws := wsX0_settle) B.pre
  have hown : s.vm.findClass RX0 = some m.cls := findClass_of_methodNamed B.named
  have hlocks := B.notSynchronized
  subst hsz
  have hD := hD0.self (sz := s.heap.size)
  generalize hAe : va_A (gcW h kc f1 f2 dr cl tr se (nI g) (nI r) inf (nI ct)) s.heap.size = A at hD ⊢
  have hA : ∀ q : Nat, s.heap.size ≤ q → A q := fun q h => by rw [← hAe]; exact Or.inr h
  have hS : va_S A s.heap s.heap [] := va_S.rf
  have hP : va_P (dC, dI) vwCl (gcW h kc f1 f2 dr cl tr se (nI g) (nI r) inf (nI ct)) s.heap := hP
  have hin0 : ∀ w ∈ wsX00, w ∈ wsX0_settle := by decide +kernel
  have hl := lv_entry [.ref (h 0), .int co] (n := 6) (Nat.le_of_ble_eq_true rfl)
  rw [lg_entry_eq]
  generalize (lg_sl [.ref (h 0), .int co] ++ List.replicate (6 - (lg_sl [.ref (h 0), .int co]).length) Slot.unset).toArray = ls at hl ⊢
  have hl : lv_has ls 6 [(0, .ref (h 0)), (1, .int co)] := hl
  refine lv_iload_n hx hb dX0_settle_0 rfl (lv_at hl 1 rfl) ?_
  refine va_calli (va_runS (As := [.int co]) (rest := []) ⟨hx, hb, hml, hown, hts⟩ (c_X0_against l co) (va_cwS 1 hts gX0_settle_X0_against rfl rfl rfl (by decide +kernel) ⟨Nat.le_of_ble_eq_true rfl, Nat.le_of_ble_eq_true rfl⟩) ⟨fun a U g mk q => q, fun U hU hW => ⟨rfl, trivial⟩⟩ rfl rfl hl.1 rfl (lv_room (Nat.le_of_ble_eq_true rfl)) dX0_settle_1 ⟨Nat.zero_le _, Nat.zero_le _⟩) hS (fun q _ h => h.elim) (fun q h => h.elim) (fun r1 u t H locs ht hvm hw hB hz1 hk1 hS => ?_)
  have hP := gc_keep hP hk1
  have hw : r1 = (co ^^^ 1) := hw
  subst hw
  clear hw
  clear hB hz1 hk1 ht hvm
  refine lv_istore_n (lv' := [(2, .int (co ^^^ 1)), (0, .ref (h 0)), (1, .int co)]) hx hb dX0_settle_4 rfl hl (by decide) rfl (fun ls hl => ?_)
  refine lv_aload_n hx hb dX0_settle_5 rfl (lv_at hl 1 rfl) ?_
  refine va_get (D := (dC, dI)) (ci := 0) (v := .int (nI ct)) (C := RX0) (T := TX0) (N := 10) hx hb hts hin0 hown hK hP 0 rfl rfl 9 (by decide) (hts (.fieldLink RX0 111 "GuestChairs" "seatingCount" "I") (by decide +kernel)) (fun _ h9 => h9) rfl dX0_settle_6 ?_
  refine lv_istore_n (lv' := [(3, .int (nI ct)), (2, .int (co ^^^ 1)), (0, .ref (h 0)), (1, .int co)]) hx hb dX0_settle_9 rfl hl (by decide) rfl (fun ls hl => ?_)
  refine lv_iconst (v := 0) hx hb dX0_settle_10 (by decide) ?_
  refine lv_istore (lv' := [(4, .int 0), (3, .int (nI ct)), (2, .int (co ^^^ 1)), (0, .ref (h 0)), (1, .int co)]) hx hb dX0_settle_11 hl (by decide) rfl (fun ls hl => ?_)
  refine gc_loop (ct) (fun (i : Nat) (H : Heap) (locs : List Loc) (ls : Array Slot) => ∃ (sv : Nat → Int32) (k : Nat), sv = (gSt cl co se ct i).1 ∧ k = (gSt cl co se ct i).2 ∧ va_P (dC, dI) vwCl (gcW h kc f1 f2 dr cl tr sv (nI g) (nI r) inf (nI k)) H ∧ va_D A (gcW h kc f1 f2 dr cl tr sv (nI g) (nI r) inf (nI k)) ∧ va_S A s.heap H locs ∧ lv_has ls 6 [(4, .int (nI i)), (3, .int (nI ct)), (2, .int (co ^^^ 1)), (0, .ref (h 0)), (1, .int co)]) 0 (Nat.zero_le _) ⟨se, ct, (by first | rfl | assumption | omega), (by first | rfl | assumption | omega), hP, hD, hS, lv_sub hl [0, 1, 2, 3, 4] rfl⟩ ?_
  intro i H locs ls hi hI ihi
  obtain ⟨sv, k, e_sv, e_k, hP, hD, hS, hl⟩ := hI
  refine lv_iload hx hb dX0_settle_13 (lv_at hl 0 rfl) ?_
  refine lv_iload_n hx hb dX0_settle_15 rfl (lv_at hl 1 rfl) ?_
  refine lv_icmp_ge (tgt := 154) hx hb dX0_settle_16 (by decide) (fun c_16 => ?_) (fun c_16 => ?_)
  · skip
    have hEi : i = ct := gc_ge c_16 (by omega) (by omega)
    have hWe : ((gcW h kc f1 f2 dr cl tr sv (nI g) (nI r) inf (nI k)) : va_W) = (gcW h kc f1 f2 dr cl tr ((gSt cl co se ct ct).1) (nI g) (nI r) inf (nI (gSt cl co se ct ct).2)) := by rw [e_sv, e_k, hEi]
    rw [hWe] at hP hD
    exact W.vret hx hb hr (fun t ht hW => ⟨⟨(), rfl, trivial, ⟨by rw [ht]; exact hP, hD⟩⟩, hS.F ht⟩) hS.2.2 dX0_settle_154
  · skip
    have hLi : i < ct := gc_lt c_16 (by omega) (by omega)
    refine lv_aload_n hx hb dX0_settle_19 rfl (lv_at hl 3 rfl) ?_
    refine va_get (D := (dC, dI)) (ci := 0) (v := .ref (h 6)) (C := RX0) (T := TX0) (N := 10) hx hb hts hin0 hown hK hP 0 rfl rfl 5 (by decide) (hts (.fieldLink RX0 25 "GuestChairs" "seated" "[I") (by decide +kernel)) (fun _ h9 => h9) rfl dX0_settle_20 ?_
    refine lv_iload hx hb dX0_settle_23 (lv_at hl 0 rfl) ?_
    have hPc : va_P (dC, dI) vwCl ([((h 6), .inl ((kc 6), 1024, .inl sv))]) _ := hP.sub [6] rfl
    have hKc : va_K (dC, dI) vwCl ([((kc 6), .int)]) s := hK.sub [5] rfl
    refine va_calli (va_runS (As := [.ref (h 6), .int (nI i)]) (rest := []) ⟨hx, hb, hml, hown, hts⟩ (c_X0_at l dC dI (h 6) (kc 6) 1024 sv (nI i) (by decide)) (va_cwS 2 hts gX0_settle_X0_at rfl rfl rfl (by decide +kernel) ⟨Nat.le_of_ble_eq_true rfl, Nat.le_of_ble_eq_true rfl⟩) ⟨gcPR_blind, fun U hU hW => ⟨rfl, by rw [hU]; exact hPc, va_K.moved hW.alike hKc⟩⟩ rfl rfl hl.1 rfl (lv_room (Nat.le_of_ble_eq_true rfl)) dX0_settle_25 ⟨Nat.zero_le _, Nat.zero_le _⟩) hS (fun q _ h => h.elim) (fun q h => h.elim) (fun r2 u t H locs ht hvm hw hB hz1 hk1 hS => ?_)
    have hP := gc_keep hP hk1
    have hw : r2 = gAt 1024 sv (nI i) := hw
    subst hw
    clear hw
    clear hB hz1 hk1 ht hvm
    clear hPc hKc
    refine lv_istore (lv' := [(5, .int (gAt 1024 sv (nI i))), (4, .int (nI i)), (3, .int (nI ct)), (2, .int (co ^^^ 1)), (0, .ref (h 0)), (1, .int co)]) hx hb dX0_settle_28 hl (by decide) rfl (fun ls hl => ?_)
    refine lv_iload hx hb dX0_settle_30 (lv_at hl 0 rfl) ?_
    refine lv_iload_n hx hb dX0_settle_32 rfl (lv_at hl 5 rfl) ?_
    refine va_calli (va_runS (As := [.int (gAt 1024 sv (nI i)), .int co]) (rest := []) ⟨hx, hb, hml, hown, hts⟩ (c_X0_has l (gAt 1024 sv (nI i)) co) (va_cwS 2 hts gX0_settle_X0_has rfl rfl rfl (by decide +kernel) ⟨Nat.le_of_ble_eq_true rfl, Nat.le_of_ble_eq_true rfl⟩) ⟨fun a U g mk q => q, fun U hU hW => ⟨rfl, trivial⟩⟩ rfl rfl hl.1 rfl (lv_room (Nat.le_of_ble_eq_true rfl)) dX0_settle_33 ⟨Nat.zero_le _, Nat.zero_le _⟩) hS (fun q _ h => h.elim) (fun q h => h.elim) (fun r3 u t H locs ht hvm hw hB hz1 hk1 hS => ?_)
    have hP := gc_keep hP hk1
    have hw : r3 = gB (gHas (gAt 1024 sv (nI i)) co) := hw
    subst hw
    clear hw
    clear hB hz1 hk1 ht hvm
    refine lv_if_ne (tgt := 148) hx hb dX0_settle_36 (by decide) (fun c_36 => ?_) (fun c_36 => ?_)
    · skip
      have c_36 := gB_t c_36
      refine lv_iinc (v := nI (i + 1)) (lv' := [(4, .int (nI (i + 1))), (5, .int (gAt 1024 sv (nI i))), (3, .int (nI ct)), (2, .int (co ^^^ 1)), (0, .ref (h 0)), (1, .int co)]) hx hb dX0_settle_148 hl (k := 1) rfl (nI_1 i) (by decide) rfl (fun ls hl => ?_)
      refine lv_goto (tgt := 13) hx hb dX0_settle_151 (by decide) ?_
      exact ihi H _ ls (by omega) ⟨sv, k, (by simp only [gSt, ← e_sv, ← e_k]; simp [gSt, c_36] <;> assumption), (by simp only [gSt, ← e_sv, ← e_k]; simp [gSt, c_36] <;> assumption), hP, hD, hS, lv_sub hl [0, 2, 3, 4, 5] rfl⟩
    · skip
      have c_36 := gB_f c_36
      refine lv_iload hx hb dX0_settle_39 (lv_at hl 0 rfl) ?_
      refine lv_iload_n hx hb dX0_settle_41 rfl (lv_at hl 3 rfl) ?_
      refine va_calli (va_runS (As := [.int (gAt 1024 sv (nI i)), .int (co ^^^ 1)]) (rest := []) ⟨hx, hb, hml, hown, hts⟩ (c_X0_has l (gAt 1024 sv (nI i)) (co ^^^ 1)) (va_cwS 2 hts gX0_settle_X0_has rfl rfl rfl (by decide +kernel) ⟨Nat.le_of_ble_eq_true rfl, Nat.le_of_ble_eq_true rfl⟩) ⟨fun a U g mk q => q, fun U hU hW => ⟨rfl, trivial⟩⟩ rfl rfl hl.1 rfl (lv_room (Nat.le_of_ble_eq_true rfl)) dX0_settle_42 ⟨Nat.zero_le _, Nat.zero_le _⟩) hS (fun q _ h => h.elim) (fun q h => h.elim) (fun r4 u t H locs ht hvm hw hB hz1 hk1 hS => ?_)
      have hP := gc_keep hP hk1
      have hw : r4 = gB (gHas (gAt 1024 sv (nI i)) (co ^^^ 1)) := hw
      subst hw
      clear hw
      clear hB hz1 hk1 ht hvm
      refine lv_if_eq (tgt := 51) hx hb dX0_settle_45 (by decide) (fun c_45 => ?_) (fun c_45 => ?_)
      · skip
        have c_45 := gB_f c_45
        refine lv_aload_n hx hb dX0_settle_51 rfl (lv_at hl 4 rfl) ?_
        refine va_get (D := (dC, dI)) (ci := 0) (v := .ref (h 4)) (C := RX0) (T := TX0) (N := 10) hx hb hts hin0 hown hK hP 0 rfl rfl 3 (by decide) (hts (.fieldLink RX0 19 "GuestChairs" "closed" "[I") (by decide +kernel)) (fun _ h9 => h9) rfl dX0_settle_52 ?_
        refine lv_iload_n hx hb dX0_settle_55 rfl (lv_at hl 5 rfl) ?_
        have hPc : va_P (dC, dI) vwCl ([((h 4), .inl ((kc 4), 20, .inl cl))]) _ := hP.sub [4] rfl
        have hKc : va_K (dC, dI) vwCl ([((kc 4), .int)]) s := hK.sub [3] rfl
        refine va_calli (va_runS (As := [.ref (h 4), .int co]) (rest := []) ⟨hx, hb, hml, hown, hts⟩ (c_X0_isVain l dC dI (h 4) (kc 4) 20 cl co (by decide)) (va_cwS 2 hts gX0_settle_X0_isVain rfl rfl rfl (by decide +kernel) ⟨Nat.le_of_ble_eq_true rfl, Nat.le_of_ble_eq_true rfl⟩) ⟨gcPR_blind, fun U hU hW => ⟨rfl, by rw [hU]; exact hPc, va_K.moved hW.alike hKc⟩⟩ rfl rfl hl.1 rfl (lv_room (Nat.le_of_ble_eq_true rfl)) dX0_settle_56 ⟨Nat.zero_le _, Nat.zero_le _⟩) hS (fun q _ h => h.elim) (fun q h => h.elim) (fun r5 u t H locs ht hvm hw hB hz1 hk1 hS => ?_)
        have hP := gc_keep hP hk1
        have hw : r5 = gB (gVain 20 cl co) := hw
        subst hw
        clear hw
        clear hB hz1 hk1 ht hvm
        clear hPc hKc
        refine lv_if_eq (tgt := 85) hx hb dX0_settle_59 (by decide) (fun c_59 => ?_) (fun c_59 => ?_)
        · skip
          have c_59 := gB_f c_59
          refine lv_aload_n hx hb dX0_settle_85 rfl (lv_at hl 4 rfl) ?_
          refine va_get (D := (dC, dI)) (ci := 0) (v := .ref (h 6)) (C := RX0) (T := TX0) (N := 10) hx hb hts hin0 hown hK hP 0 rfl rfl 5 (by decide) (hts (.fieldLink RX0 25 "GuestChairs" "seated" "[I") (by decide +kernel)) (fun _ h9 => h9) rfl dX0_settle_86 ?_
          refine lv_iload hx hb dX0_settle_89 (lv_at hl 1 rfl) ?_
          refine lv_iload hx hb dX0_settle_91 (lv_at hl 0 rfl) ?_
          refine lv_aload_n hx hb dX0_settle_93 rfl (lv_at hl 4 rfl) ?_
          refine va_get (D := (dC, dI)) (ci := 0) (v := .ref (h 4)) (C := RX0) (T := TX0) (N := 10) hx hb hts hin0 hown hK hP 0 rfl rfl 3 (by decide) (hts (.fieldLink RX0 19 "GuestChairs" "closed" "[I") (by decide +kernel)) (fun _ h9 => h9) rfl dX0_settle_94 ?_
          refine lv_iload_n hx hb dX0_settle_97 rfl (lv_at hl 5 rfl) ?_
          have hPc : va_P (dC, dI) vwCl ([((h 4), .inl ((kc 4), 20, .inl cl))]) _ := hP.sub [4] rfl
          have hKc : va_K (dC, dI) vwCl ([((kc 4), .int)]) s := hK.sub [3] rfl
          refine va_calli (va_runS (As := [.ref (h 4), .int co]) (rest := [.int (gAt 1024 sv (nI i)), .int (nI i), .ref (h 6)]) ⟨hx, hb, hml, hown, hts⟩ (c_X0_at l dC dI (h 4) (kc 4) 20 cl co (by decide)) (va_cwS 2 hts gX0_settle_X0_at rfl rfl rfl (by decide +kernel) ⟨Nat.le_of_ble_eq_true rfl, Nat.le_of_ble_eq_true rfl⟩) ⟨gcPR_blind, fun U hU hW => ⟨rfl, by rw [hU]; exact hPc, va_K.moved hW.alike hKc⟩⟩ rfl rfl hl.1 rfl (lv_room (Nat.le_of_ble_eq_true rfl)) dX0_settle_98 ⟨Nat.zero_le _, Nat.zero_le _⟩) hS (fun q _ h => h.elim) (fun q h => h.elim) (fun r6 u t H locs ht hvm hw hB hz1 hk1 hS => ?_)
          have hP := gc_keep hP hk1
          have hw : r6 = gAt 20 cl co := hw
          subst hw
          clear hw
          clear hB hz1 hk1 ht hvm
          clear hPc hKc
          refine lv_ior hx hb dX0_settle_101 ?_
          have hPc : va_P (dC, dI) vwCl ([((h 6), .inl ((kc 6), 1024, .inl sv))]) _ := hP.sub [6] rfl
          have hKc : va_K (dC, dI) vwCl ([((kc 6), .int)]) s := hK.sub [5] rfl
          have hDc : va_D A ([((h 6), .inl ((kc 6), 1024, .inl sv))]) := hD.sub [6] (by decide) rfl
          have hFc := va_free (wc := ([((h 6), .inl ((kc 6), 1024, .inl sv))])) hD hS hA [6] rfl
          refine va_callv (va_runS (As := [.ref (h 6), .int (nI i), .int (gAt 1024 sv (nI i) ||| gAt 20 cl co)]) (rest := []) ⟨hx, hb, hml, hown, hts⟩ (c_X0_put l dC dI (h 6) (kc 6) 1024 sv (nI i) (gAt 1024 sv (nI i) ||| gAt 20 cl co) H.size (by decide)) (va_cwS 3 hts gX0_settle_X0_put rfl rfl rfl (by decide +kernel) ⟨Nat.le_of_ble_eq_true rfl, Nat.le_of_ble_eq_true rfl⟩) ⟨gcPM_blind, fun U hU hW => ⟨rfl, by rw [hU], by rw [hU]; exact hPc, va_K.moved hW.alike hKc, hDc.weaken (fun _ _ _ _ => trivial)⟩⟩ rfl rfl hl.1 rfl (lv_room (Nat.le_of_ble_eq_true rfl)) dX0_settle_102 ⟨Nat.zero_le _, Nat.zero_le _⟩) hS (fun q _ h => hFc q h) hFc (fun u t H locs ht hvm hw hB hz1 hk1 hS => ?_)
          obtain ⟨hP1, hD1⟩ := hB
          rw [ht] at hP1
          obtain ⟨hP, hD⟩ := va_join (wr := [(h 0, .inr (0, [.ref (h 1), .ref (h 2), .ref (h 3), .ref (h 4), .ref (h 5), .ref (h 6), .int (nI g), .int (nI r), .int inf, .int (nI k)])), (h 1, .inl (kc 1, 30, .inl f1)), (h 2, .inl (kc 2, 30, .inl f2)), (h 3, .inl (kc 3, 20, .inl dr)), (h 4, .inl (kc 4, 20, .inl cl)), (h 5, .inl (kc 5, 20, .inl tr))]) (w1 := ([((h 6), .inl ((kc 6), 1024, .inl (gPut 1024 sv (nI i) (gAt 1024 sv (nI i) ||| gAt 20 cl co))))])) hP hD [6] [0, 1, 2, 3, 4, 5] rfl rfl (by decide) (by decide) hk1 hFc hP1 hD1
          have hP : va_P (dC, dI) vwCl (gcW h kc f1 f2 dr cl tr (gPut 1024 sv (nI i) (gAt 1024 sv (nI i) ||| gAt 20 cl co)) (nI g) (nI r) inf (nI k)) H := hP.sub [0, 1, 2, 3, 4, 5, 6] rfl
          have hD : va_D A (gcW h kc f1 f2 dr cl tr (gPut 1024 sv (nI i) (gAt 1024 sv (nI i) ||| gAt 20 cl co)) (nI g) (nI r) inf (nI k)) := hD.sub [0, 1, 2, 3, 4, 5, 6] (by decide) rfl
          clear hz1 hk1 ht hvm hP1 hD1 hFc hDc
          clear hPc hKc
          refine lv_aload_n hx hb dX0_settle_105 rfl (lv_at hl 4 rfl) ?_
          refine va_get (D := (dC, dI)) (ci := 0) (v := .ref (h 4)) (C := RX0) (T := TX0) (N := 10) hx hb hts hin0 hown hK hP 0 rfl rfl 3 (by decide) (hts (.fieldLink RX0 19 "GuestChairs" "closed" "[I") (by decide +kernel)) (fun _ h9 => h9) rfl dX0_settle_106 ?_
          refine lv_iload_n hx hb dX0_settle_109 rfl (lv_at hl 3 rfl) ?_
          have hPc : va_P (dC, dI) vwCl ([((h 4), .inl ((kc 4), 20, .inl cl))]) _ := hP.sub [4] rfl
          have hKc : va_K (dC, dI) vwCl ([((kc 4), .int)]) s := hK.sub [3] rfl
          refine va_calli (va_runS (As := [.ref (h 4), .int (co ^^^ 1)]) (rest := []) ⟨hx, hb, hml, hown, hts⟩ (c_X0_isVain l dC dI (h 4) (kc 4) 20 cl (co ^^^ 1) (by decide)) (va_cwS 2 hts gX0_settle_X0_isVain rfl rfl rfl (by decide +kernel) ⟨Nat.le_of_ble_eq_true rfl, Nat.le_of_ble_eq_true rfl⟩) ⟨gcPR_blind, fun U hU hW => ⟨rfl, by rw [hU]; exact hPc, va_K.moved hW.alike hKc⟩⟩ rfl rfl hl.1 rfl (lv_room (Nat.le_of_ble_eq_true rfl)) dX0_settle_110 ⟨Nat.zero_le _, Nat.zero_le _⟩) hS (fun q _ h => h.elim) (fun q h => h.elim) (fun r8 u t H locs ht hvm hw hB hz1 hk1 hS => ?_)
          have hP := gc_keep hP hk1
          have hw : r8 = gB (gVain 20 cl (co ^^^ 1)) := hw
          subst hw
          clear hw
          clear hB hz1 hk1 ht hvm
          clear hPc hKc
          refine lv_if_ne (tgt := 148) hx hb dX0_settle_113 (by decide) (fun c_113 => ?_) (fun c_113 => ?_)
          · skip
            have c_113 := gB_t c_113
            refine lv_iinc (v := nI (i + 1)) (lv' := [(4, .int (nI (i + 1))), (5, .int (gAt 1024 sv (nI i))), (3, .int (nI ct)), (2, .int (co ^^^ 1)), (0, .ref (h 0)), (1, .int co)]) hx hb dX0_settle_148 hl (k := 1) rfl (nI_1 i) (by decide) rfl (fun ls hl => ?_)
            refine lv_goto (tgt := 13) hx hb dX0_settle_151 (by decide) ?_
            exact ihi H _ ls (by omega) ⟨(gPut 1024 sv (nI i) (gAt 1024 sv (nI i) ||| gAt 20 cl co)), k, (by simp only [gSt, ← e_sv, ← e_k]; simp [gSt, c_36, c_45, c_59, c_113] <;> assumption), (by simp only [gSt, ← e_sv, ← e_k]; simp [gSt, c_36, c_45, c_59, c_113] <;> assumption), hP, hD, hS, lv_sub hl [0, 2, 3, 4, 5] rfl⟩
          · skip
            have c_113 := gB_f c_113
            refine lv_aload_n hx hb dX0_settle_116 rfl (lv_at hl 4 rfl) ?_
            refine va_get (D := (dC, dI)) (ci := 0) (v := .ref (h 6)) (C := RX0) (T := TX0) (N := 10) hx hb hts hin0 hown hK hP 0 rfl rfl 5 (by decide) (hts (.fieldLink RX0 25 "GuestChairs" "seated" "[I") (by decide +kernel)) (fun _ h9 => h9) rfl dX0_settle_117 ?_
            refine lv_aload_n hx hb dX0_settle_120 rfl (lv_at hl 4 rfl) ?_
            refine va_get (D := (dC, dI)) (ci := 0) (v := .int (nI k)) (C := RX0) (T := TX0) (N := 10) hx hb hts hin0 hown hK hP 0 rfl rfl 9 (by decide) (hts (.fieldLink RX0 111 "GuestChairs" "seatingCount" "I") (by decide +kernel)) (fun _ h9 => h9) rfl dX0_settle_121 ?_
            refine lv_iload hx hb dX0_settle_124 (lv_at hl 0 rfl) ?_
            refine lv_aload_n hx hb dX0_settle_126 rfl (lv_at hl 4 rfl) ?_
            refine va_get (D := (dC, dI)) (ci := 0) (v := .ref (h 4)) (C := RX0) (T := TX0) (N := 10) hx hb hts hin0 hown hK hP 0 rfl rfl 3 (by decide) (hts (.fieldLink RX0 19 "GuestChairs" "closed" "[I") (by decide +kernel)) (fun _ h9 => h9) rfl dX0_settle_127 ?_
            refine lv_iload_n hx hb dX0_settle_130 rfl (lv_at hl 3 rfl) ?_
            have hPc : va_P (dC, dI) vwCl ([((h 4), .inl ((kc 4), 20, .inl cl))]) _ := hP.sub [4] rfl
            have hKc : va_K (dC, dI) vwCl ([((kc 4), .int)]) s := hK.sub [3] rfl
            refine va_calli (va_runS (As := [.ref (h 4), .int (co ^^^ 1)]) (rest := [.int (gAt 1024 sv (nI i)), .int (nI k), .ref (h 6)]) ⟨hx, hb, hml, hown, hts⟩ (c_X0_at l dC dI (h 4) (kc 4) 20 cl (co ^^^ 1) (by decide)) (va_cwS 2 hts gX0_settle_X0_at rfl rfl rfl (by decide +kernel) ⟨Nat.le_of_ble_eq_true rfl, Nat.le_of_ble_eq_true rfl⟩) ⟨gcPR_blind, fun U hU hW => ⟨rfl, by rw [hU]; exact hPc, va_K.moved hW.alike hKc⟩⟩ rfl rfl hl.1 rfl (lv_room (Nat.le_of_ble_eq_true rfl)) dX0_settle_131 ⟨Nat.zero_le _, Nat.zero_le _⟩) hS (fun q _ h => h.elim) (fun q h => h.elim) (fun r9 u t H locs ht hvm hw hB hz1 hk1 hS => ?_)
            have hP := gc_keep hP hk1
            have hw : r9 = gAt 20 cl (co ^^^ 1) := hw
            subst hw
            clear hw
            clear hB hz1 hk1 ht hvm
            clear hPc hKc
            refine lv_ior hx hb dX0_settle_134 ?_
            have hPc : va_P (dC, dI) vwCl ([((h 6), .inl ((kc 6), 1024, .inl (gPut 1024 sv (nI i) (gAt 1024 sv (nI i) ||| gAt 20 cl co))))]) _ := hP.sub [6] rfl
            have hKc : va_K (dC, dI) vwCl ([((kc 6), .int)]) s := hK.sub [5] rfl
            have hDc : va_D A ([((h 6), .inl ((kc 6), 1024, .inl (gPut 1024 sv (nI i) (gAt 1024 sv (nI i) ||| gAt 20 cl co))))]) := hD.sub [6] (by decide) rfl
            have hFc := va_free (wc := ([((h 6), .inl ((kc 6), 1024, .inl (gPut 1024 sv (nI i) (gAt 1024 sv (nI i) ||| gAt 20 cl co))))])) hD hS hA [6] rfl
            refine va_callv (va_runS (As := [.ref (h 6), .int (nI k), .int (gAt 1024 sv (nI i) ||| gAt 20 cl (co ^^^ 1))]) (rest := []) ⟨hx, hb, hml, hown, hts⟩ (c_X0_put l dC dI (h 6) (kc 6) 1024 (gPut 1024 sv (nI i) (gAt 1024 sv (nI i) ||| gAt 20 cl co)) (nI k) (gAt 1024 sv (nI i) ||| gAt 20 cl (co ^^^ 1)) H.size (by decide)) (va_cwS 3 hts gX0_settle_X0_put rfl rfl rfl (by decide +kernel) ⟨Nat.le_of_ble_eq_true rfl, Nat.le_of_ble_eq_true rfl⟩) ⟨gcPM_blind, fun U hU hW => ⟨rfl, by rw [hU], by rw [hU]; exact hPc, va_K.moved hW.alike hKc, hDc.weaken (fun _ _ _ _ => trivial)⟩⟩ rfl rfl hl.1 rfl (lv_room (Nat.le_of_ble_eq_true rfl)) dX0_settle_135 ⟨Nat.zero_le _, Nat.zero_le _⟩) hS (fun q _ h => hFc q h) hFc (fun u t H locs ht hvm hw hB hz1 hk1 hS => ?_)
            obtain ⟨hP1, hD1⟩ := hB
            rw [ht] at hP1
            obtain ⟨hP, hD⟩ := va_join (wr := [(h 0, .inr (0, [.ref (h 1), .ref (h 2), .ref (h 3), .ref (h 4), .ref (h 5), .ref (h 6), .int (nI g), .int (nI r), .int inf, .int (nI k)])), (h 1, .inl (kc 1, 30, .inl f1)), (h 2, .inl (kc 2, 30, .inl f2)), (h 3, .inl (kc 3, 20, .inl dr)), (h 4, .inl (kc 4, 20, .inl cl)), (h 5, .inl (kc 5, 20, .inl tr))]) (w1 := ([((h 6), .inl ((kc 6), 1024, .inl (gPut 1024 (gPut 1024 sv (nI i) (gAt 1024 sv (nI i) ||| gAt 20 cl co)) (nI k) (gAt 1024 sv (nI i) ||| gAt 20 cl (co ^^^ 1)))))])) hP hD [6] [0, 1, 2, 3, 4, 5] rfl rfl (by decide) (by decide) hk1 hFc hP1 hD1
            have hP : va_P (dC, dI) vwCl (gcW h kc f1 f2 dr cl tr (gPut 1024 (gPut 1024 sv (nI i) (gAt 1024 sv (nI i) ||| gAt 20 cl co)) (nI k) (gAt 1024 sv (nI i) ||| gAt 20 cl (co ^^^ 1))) (nI g) (nI r) inf (nI k)) H := hP.sub [0, 1, 2, 3, 4, 5, 6] rfl
            have hD : va_D A (gcW h kc f1 f2 dr cl tr (gPut 1024 (gPut 1024 sv (nI i) (gAt 1024 sv (nI i) ||| gAt 20 cl co)) (nI k) (gAt 1024 sv (nI i) ||| gAt 20 cl (co ^^^ 1))) (nI g) (nI r) inf (nI k)) := hD.sub [0, 1, 2, 3, 4, 5, 6] (by decide) rfl
            clear hz1 hk1 ht hvm hP1 hD1 hFc hDc
            clear hPc hKc
            refine lv_aload_n hx hb dX0_settle_138 rfl (lv_at hl 4 rfl) ?_
            refine lv_dup hx hb dX0_settle_139 rfl ?_
            refine va_get (D := (dC, dI)) (ci := 0) (v := .int (nI k)) (C := RX0) (T := TX0) (N := 10) hx hb hts hin0 hown hK hP 0 rfl rfl 9 (by decide) (hts (.fieldLink RX0 111 "GuestChairs" "seatingCount" "I") (by decide +kernel)) (fun _ h9 => h9) rfl dX0_settle_140 ?_
            refine lv_iconst (v := 1) hx hb dX0_settle_143 (by decide) ?_
            refine lv_iadd hx hb dX0_settle_144 ?_
            refine gc_topi (y := nI (k + 1)) (nI_1 k) ?_
            refine va_put (D := (dC, dI)) (ci := 0) (v := .int (nI (k + 1))) (ty := .int) (C := RX0) (T := TX0) (N := 10) hx hb hts hin0 tyX0 tyX0_ok nmX0 hown hK hP hD hS 0 rfl rfl 9 (by decide) (hts (.fieldLink RX0 111 "GuestChairs" "seatingCount" "I") (by decide +kernel)) (fun _ h9 => h9) rfl (by decide +kernel) rfl rfl (Nat.le_of_ble_eq_true rfl) dX0_settle_145 (fun H locs hP hD hS => ?_)
            have hP : va_P (dC, dI) vwCl (gcW h kc f1 f2 dr cl tr (gPut 1024 (gPut 1024 sv (nI i) (gAt 1024 sv (nI i) ||| gAt 20 cl co)) (nI k) (gAt 1024 sv (nI i) ||| gAt 20 cl (co ^^^ 1))) (nI g) (nI r) inf (nI (k + 1))) H := hP
            have hD : va_D A (gcW h kc f1 f2 dr cl tr (gPut 1024 (gPut 1024 sv (nI i) (gAt 1024 sv (nI i) ||| gAt 20 cl co)) (nI k) (gAt 1024 sv (nI i) ||| gAt 20 cl (co ^^^ 1))) (nI g) (nI r) inf (nI (k + 1))) := hD
            refine lv_iinc (v := nI (i + 1)) (lv' := [(4, .int (nI (i + 1))), (5, .int (gAt 1024 sv (nI i))), (3, .int (nI ct)), (2, .int (co ^^^ 1)), (0, .ref (h 0)), (1, .int co)]) hx hb dX0_settle_148 hl (k := 1) rfl (nI_1 i) (by decide) rfl (fun ls hl => ?_)
            refine lv_goto (tgt := 13) hx hb dX0_settle_151 (by decide) ?_
            exact ihi H _ ls (by omega) ⟨(gPut 1024 (gPut 1024 sv (nI i) (gAt 1024 sv (nI i) ||| gAt 20 cl co)) (nI k) (gAt 1024 sv (nI i) ||| gAt 20 cl (co ^^^ 1))), (k + 1), (by simp only [gSt, ← e_sv, ← e_k]; simp [gSt, c_36, c_45, c_59, c_113] <;> assumption), (by simp only [gSt, ← e_sv, ← e_k]; simp [gSt, c_36, c_45, c_59, c_113] <;> assumption), hP, hD, hS, lv_sub hl [0, 2, 3, 4, 5] rfl⟩
        · skip
          have c_59 := gB_t c_59
          refine lv_aload_n hx hb dX0_settle_62 rfl (lv_at hl 4 rfl) ?_
          refine va_get (D := (dC, dI)) (ci := 0) (v := .ref (h 6)) (C := RX0) (T := TX0) (N := 10) hx hb hts hin0 hown hK hP 0 rfl rfl 5 (by decide) (hts (.fieldLink RX0 25 "GuestChairs" "seated" "[I") (by decide +kernel)) (fun _ h9 => h9) rfl dX0_settle_63 ?_
          refine lv_iload hx hb dX0_settle_66 (lv_at hl 1 rfl) ?_
          refine lv_iload hx hb dX0_settle_68 (lv_at hl 0 rfl) ?_
          refine lv_aload_n hx hb dX0_settle_70 rfl (lv_at hl 4 rfl) ?_
          refine va_get (D := (dC, dI)) (ci := 0) (v := .ref (h 4)) (C := RX0) (T := TX0) (N := 10) hx hb hts hin0 hown hK hP 0 rfl rfl 3 (by decide) (hts (.fieldLink RX0 19 "GuestChairs" "closed" "[I") (by decide +kernel)) (fun _ h9 => h9) rfl dX0_settle_71 ?_
          refine lv_iload_n hx hb dX0_settle_74 rfl (lv_at hl 3 rfl) ?_
          have hPc : va_P (dC, dI) vwCl ([((h 4), .inl ((kc 4), 20, .inl cl))]) _ := hP.sub [4] rfl
          have hKc : va_K (dC, dI) vwCl ([((kc 4), .int)]) s := hK.sub [3] rfl
          refine va_calli (va_runS (As := [.ref (h 4), .int (co ^^^ 1)]) (rest := [.int (gAt 1024 sv (nI i)), .int (nI i), .ref (h 6)]) ⟨hx, hb, hml, hown, hts⟩ (c_X0_at l dC dI (h 4) (kc 4) 20 cl (co ^^^ 1) (by decide)) (va_cwS 2 hts gX0_settle_X0_at rfl rfl rfl (by decide +kernel) ⟨Nat.le_of_ble_eq_true rfl, Nat.le_of_ble_eq_true rfl⟩) ⟨gcPR_blind, fun U hU hW => ⟨rfl, by rw [hU]; exact hPc, va_K.moved hW.alike hKc⟩⟩ rfl rfl hl.1 rfl (lv_room (Nat.le_of_ble_eq_true rfl)) dX0_settle_75 ⟨Nat.zero_le _, Nat.zero_le _⟩) hS (fun q _ h => h.elim) (fun q h => h.elim) (fun r11 u t H locs ht hvm hw hB hz1 hk1 hS => ?_)
          have hP := gc_keep hP hk1
          have hw : r11 = gAt 20 cl (co ^^^ 1) := hw
          subst hw
          clear hw
          clear hB hz1 hk1 ht hvm
          clear hPc hKc
          refine lv_ior hx hb dX0_settle_78 ?_
          have hPc : va_P (dC, dI) vwCl ([((h 6), .inl ((kc 6), 1024, .inl sv))]) _ := hP.sub [6] rfl
          have hKc : va_K (dC, dI) vwCl ([((kc 6), .int)]) s := hK.sub [5] rfl
          have hDc : va_D A ([((h 6), .inl ((kc 6), 1024, .inl sv))]) := hD.sub [6] (by decide) rfl
          have hFc := va_free (wc := ([((h 6), .inl ((kc 6), 1024, .inl sv))])) hD hS hA [6] rfl
          refine va_callv (va_runS (As := [.ref (h 6), .int (nI i), .int (gAt 1024 sv (nI i) ||| gAt 20 cl (co ^^^ 1))]) (rest := []) ⟨hx, hb, hml, hown, hts⟩ (c_X0_put l dC dI (h 6) (kc 6) 1024 sv (nI i) (gAt 1024 sv (nI i) ||| gAt 20 cl (co ^^^ 1)) H.size (by decide)) (va_cwS 3 hts gX0_settle_X0_put rfl rfl rfl (by decide +kernel) ⟨Nat.le_of_ble_eq_true rfl, Nat.le_of_ble_eq_true rfl⟩) ⟨gcPM_blind, fun U hU hW => ⟨rfl, by rw [hU], by rw [hU]; exact hPc, va_K.moved hW.alike hKc, hDc.weaken (fun _ _ _ _ => trivial)⟩⟩ rfl rfl hl.1 rfl (lv_room (Nat.le_of_ble_eq_true rfl)) dX0_settle_79 ⟨Nat.zero_le _, Nat.zero_le _⟩) hS (fun q _ h => hFc q h) hFc (fun u t H locs ht hvm hw hB hz1 hk1 hS => ?_)
          obtain ⟨hP1, hD1⟩ := hB
          rw [ht] at hP1
          obtain ⟨hP, hD⟩ := va_join (wr := [(h 0, .inr (0, [.ref (h 1), .ref (h 2), .ref (h 3), .ref (h 4), .ref (h 5), .ref (h 6), .int (nI g), .int (nI r), .int inf, .int (nI k)])), (h 1, .inl (kc 1, 30, .inl f1)), (h 2, .inl (kc 2, 30, .inl f2)), (h 3, .inl (kc 3, 20, .inl dr)), (h 4, .inl (kc 4, 20, .inl cl)), (h 5, .inl (kc 5, 20, .inl tr))]) (w1 := ([((h 6), .inl ((kc 6), 1024, .inl (gPut 1024 sv (nI i) (gAt 1024 sv (nI i) ||| gAt 20 cl (co ^^^ 1)))))])) hP hD [6] [0, 1, 2, 3, 4, 5] rfl rfl (by decide) (by decide) hk1 hFc hP1 hD1
          have hP : va_P (dC, dI) vwCl (gcW h kc f1 f2 dr cl tr (gPut 1024 sv (nI i) (gAt 1024 sv (nI i) ||| gAt 20 cl (co ^^^ 1))) (nI g) (nI r) inf (nI k)) H := hP.sub [0, 1, 2, 3, 4, 5, 6] rfl
          have hD : va_D A (gcW h kc f1 f2 dr cl tr (gPut 1024 sv (nI i) (gAt 1024 sv (nI i) ||| gAt 20 cl (co ^^^ 1))) (nI g) (nI r) inf (nI k)) := hD.sub [0, 1, 2, 3, 4, 5, 6] (by decide) rfl
          clear hz1 hk1 ht hvm hP1 hD1 hFc hDc
          clear hPc hKc
          refine lv_goto (tgt := 148) hx hb dX0_settle_82 (by decide) ?_
          refine lv_iinc (v := nI (i + 1)) (lv' := [(4, .int (nI (i + 1))), (5, .int (gAt 1024 sv (nI i))), (3, .int (nI ct)), (2, .int (co ^^^ 1)), (0, .ref (h 0)), (1, .int co)]) hx hb dX0_settle_148 hl (k := 1) rfl (nI_1 i) (by decide) rfl (fun ls hl => ?_)
          refine lv_goto (tgt := 13) hx hb dX0_settle_151 (by decide) ?_
          exact ihi H _ ls (by omega) ⟨(gPut 1024 sv (nI i) (gAt 1024 sv (nI i) ||| gAt 20 cl (co ^^^ 1))), k, (by simp only [gSt, ← e_sv, ← e_k]; simp [gSt, c_36, c_45, c_59] <;> assumption), (by simp only [gSt, ← e_sv, ← e_k]; simp [gSt, c_36, c_45, c_59] <;> assumption), hP, hD, hS, lv_sub hl [0, 2, 3, 4, 5] rfl⟩
      · skip
        have c_45 := gB_t c_45
        refine lv_goto (tgt := 148) hx hb dX0_settle_48 (by decide) ?_
        refine lv_iinc (v := nI (i + 1)) (lv' := [(4, .int (nI (i + 1))), (5, .int (gAt 1024 sv (nI i))), (3, .int (nI ct)), (2, .int (co ^^^ 1)), (0, .ref (h 0)), (1, .int co)]) hx hb dX0_settle_148 hl (k := 1) rfl (nI_1 i) (by decide) rfl (fun ls hl => ?_)
        refine lv_goto (tgt := 13) hx hb dX0_settle_151 (by decide) ?_
        exact ihi H _ ls (by omega) ⟨sv, k, (by simp only [gSt, ← e_sv, ← e_k]; simp [gSt, c_36, c_45] <;> assumption), (by simp only [gSt, ← e_sv, ← e_k]; simp [gSt, c_36, c_45] <;> assumption), hP, hD, hS, lv_sub hl [0, 2, 3, 4, 5] rfl⟩
set_option maxHeartbeats 4000000 in
set_option maxRecDepth 100000 in
theorem c_X0_listSeatings (l : Launch) (dC : Nat → ClassId) (dI : Nat → Nat → Nat) (h : Nat → Nat) (kc : Nat → ClassId) (f1 : Nat → Int32) (f2 : Nat → Int32) (dr : Nat → Int32) (cl : Nat → Int32) (tr : Nat → Int32) (se : Nat → Int32) (g : Nat) (r : Nat) (inf : Int32) (ct : Nat) (sz : Nat) (hg : g ≤ 10) : Met l yX0_listSeatings wsX0_listSeatings ({ frames := 4, cells := 0, slots := 0, locals := 86 }) (gcPM (dC, dI) [.ref (h 0)] (gcW h kc f1 f2 dr cl tr se (nI g) (nI r) inf (nI ct)) (gcT kc) sz) (va_Qv (fun (_u : Unit) => True) (fun _u t9 => va_P (dC, dI) vwCl (gcW h kc f1 f2 dr cl tr ((gLs cl se g g).1) (nI g) (nI r) inf (nI (gLs cl se g g).2)) t9.heap ∧ va_D (va_A (gcW h kc f1 f2 dr cl tr se (nI g) (nI r) inf (nI ct)) sz) (gcW h kc f1 f2 dr cl tr ((gLs cl se g g).1) (nI g) (nI r) inf (nI (gLs cl se g g).2))) (va_A (gcW h kc f1 f2 dr cl tr se (nI g) (nI r) inf (nI ct)) sz)) 0 0 (va_A (gcW h kc f1 f2 dr cl tr se (nI g) (nI r) inf (nI ct)) sz) := by
  refine Met.ofW (cc := cX0_listSeatings) (maxL := 2) (ret := none) (by decide) rfl ?_
  intro p e s m args below meth c s₁ B hml hv
  obtain ⟨rfl, hsz, hP, hK, hD0⟩ := hv
  have hx := B.exec
  have hb := B.bytes
  have hr := B.returns
  have hts := atoms_spec (ws := wsX0_listSeatings) B.pre
  have hown : s.vm.findClass RX0 = some m.cls := findClass_of_methodNamed B.named
  have hlocks := B.notSynchronized
  subst hsz
  have hD := hD0.self (sz := s.heap.size)
  generalize hAe : va_A (gcW h kc f1 f2 dr cl tr se (nI g) (nI r) inf (nI ct)) s.heap.size = A at hD ⊢
  have hA : ∀ q : Nat, s.heap.size ≤ q → A q := fun q h => by rw [← hAe]; exact Or.inr h
  have hS : va_S A s.heap s.heap [] := va_S.rf
  have hP : va_P (dC, dI) vwCl (gcW h kc f1 f2 dr cl tr se (nI g) (nI r) inf (nI ct)) s.heap := hP
  have hin0 : ∀ w ∈ wsX00, w ∈ wsX0_listSeatings := by decide +kernel
  have hl := lv_entry [.ref (h 0)] (n := 2) (Nat.le_of_ble_eq_true rfl)
  rw [lg_entry_eq]
  generalize (lg_sl [.ref (h 0)] ++ List.replicate (2 - (lg_sl [.ref (h 0)]).length) Slot.unset).toArray = ls at hl ⊢
  have hl : lv_has ls 2 [(0, .ref (h 0))] := hl
  refine lv_aload_n hx hb dX0_listSeatings_0 rfl (lv_at hl 0 rfl) ?_
  refine lv_aload_n hx hb dX0_listSeatings_1 rfl (lv_at hl 0 rfl) ?_
  refine lv_aload_n hx hb dX0_listSeatings_2 rfl (lv_at hl 0 rfl) ?_
  refine va_get (D := (dC, dI)) (ci := 0) (v := .ref (h 4)) (C := RX0) (T := TX0) (N := 10) hx hb hts hin0 hown hK hP 0 rfl rfl 3 (by decide) (hts (.fieldLink RX0 19 "GuestChairs" "closed" "[I") (by decide +kernel)) (fun _ h9 => h9) rfl dX0_listSeatings_3 ?_
  have hPc : va_P (dC, dI) vwCl (gcW h kc f1 f2 dr cl tr se (nI g) (nI r) inf (nI ct)) _ := hP.sub [0, 1, 2, 3, 4, 5, 6] rfl
  have hKc : va_K (dC, dI) vwCl (gcT kc) s := hK.sub [0, 1, 2, 3, 4, 5] rfl
  refine va_calli (va_runV (As := [.ref (h 4)]) (rest := [.ref (h 0)]) ⟨hx, hb, hml, hown, hts⟩ (c_X0_countTorn_cl l dC dI h kc f1 f2 dr cl tr se g r inf ct (by first | assumption | omega)) (cwV 1 hts gX0_listSeatings_X0_countTorn rfl rfl rfl (by decide +kernel) ⟨Nat.le_of_ble_eq_true rfl, Nat.le_of_ble_eq_true rfl⟩) ⟨gcPR_blind, va_recv hK hP (ci := 0) (q0 := 0) rfl rfl, fun U hU hW => ⟨rfl, by rw [hU]; exact hPc, va_K.moved hW.alike hKc⟩⟩ rfl rfl hl.1 rfl (lv_room (Nat.le_of_ble_eq_true rfl)) dX0_listSeatings_6 ⟨Nat.zero_le _, Nat.zero_le _⟩) hS (fun q _ h => h.elim) (fun q h => h.elim) (fun r1 u t H locs ht hvm hw hB hz1 hk1 hS => ?_)
  have hP := gc_keep hP hk1
  have hw : r1 = gCT cl g := hw
  subst hw
  clear hw
  clear hB hz1 hk1 ht hvm
  clear hPc hKc
  refine lv_if_ne (tgt := 16) hx hb dX0_listSeatings_9 (by decide) (fun c_9 => ?_) (fun c_9 => ?_)
  · skip
    refine lv_iconst (v := 0) hx hb dX0_listSeatings_16 (by decide) ?_
    refine va_calli (va_runS (As := [.int 0]) (rest := [.ref (h 0)]) ⟨hx, hb, hml, hown, hts⟩ (c_X0_oneIf l false) (va_cwS 1 hts gX0_listSeatings_X0_oneIf rfl rfl rfl (by decide +kernel) ⟨Nat.le_of_ble_eq_true rfl, Nat.le_of_ble_eq_true rfl⟩) ⟨fun a U g mk q => q, fun U hU hW => ⟨rfl, trivial⟩⟩ rfl rfl hl.1 rfl (lv_room (Nat.le_of_ble_eq_true rfl)) dX0_listSeatings_17 ⟨Nat.zero_le _, Nat.zero_le _⟩) hS (fun q _ h => h.elim) (fun q h => h.elim) (fun r2 u t H locs ht hvm hw hB hz1 hk1 hS => ?_)
    have hP := gc_keep hP hk1
    have hw : r2 = gB false := hw
    subst hw
    clear hw
    clear hB hz1 hk1 ht hvm
    refine gc_topi (y := nI (gF0 cl g)) (by rw [← gF0_eq]; simp [gB, gFt, c_9]) ?_
    refine va_put (D := (dC, dI)) (ci := 0) (v := .int (nI (gF0 cl g))) (ty := .int) (C := RX0) (T := TX0) (N := 10) hx hb hts hin0 tyX0 tyX0_ok nmX0 hown hK hP hD hS 0 rfl rfl 9 (by decide) (hts (.fieldLink RX0 111 "GuestChairs" "seatingCount" "I") (by decide +kernel)) (fun _ h9 => h9) rfl (by decide +kernel) rfl rfl (Nat.le_of_ble_eq_true rfl) dX0_listSeatings_20 (fun H locs hP hD hS => ?_)
    have hP : va_P (dC, dI) vwCl (gcW h kc f1 f2 dr cl tr se (nI g) (nI r) inf (nI (gF0 cl g))) H := hP
    have hD : va_D A (gcW h kc f1 f2 dr cl tr se (nI g) (nI r) inf (nI (gF0 cl g))) := hD
    refine lv_aload_n hx hb dX0_listSeatings_23 rfl (lv_at hl 0 rfl) ?_
    refine va_get (D := (dC, dI)) (ci := 0) (v := .ref (h 6)) (C := RX0) (T := TX0) (N := 10) hx hb hts hin0 hown hK hP 0 rfl rfl 5 (by decide) (hts (.fieldLink RX0 25 "GuestChairs" "seated" "[I") (by decide +kernel)) (fun _ h9 => h9) rfl dX0_listSeatings_24 ?_
    refine lv_iconst (v := 0) hx hb dX0_listSeatings_27 (by decide) ?_
    refine lv_iconst (v := 0) hx hb dX0_listSeatings_28 (by decide) ?_
    have hPc : va_P (dC, dI) vwCl ([((h 6), .inl ((kc 6), 1024, .inl se))]) _ := hP.sub [6] rfl
    have hKc : va_K (dC, dI) vwCl ([((kc 6), .int)]) s := hK.sub [5] rfl
    have hDc : va_D A ([((h 6), .inl ((kc 6), 1024, .inl se))]) := hD.sub [6] (by decide) rfl
    have hFc := va_free (wc := ([((h 6), .inl ((kc 6), 1024, .inl se))])) hD hS hA [6] rfl
    refine va_callv (va_runS (As := [.ref (h 6), .int 0, .int 0]) (rest := []) ⟨hx, hb, hml, hown, hts⟩ (c_X0_put l dC dI (h 6) (kc 6) 1024 se 0 0 H.size (by decide)) (va_cwS 3 hts gX0_listSeatings_X0_put rfl rfl rfl (by decide +kernel) ⟨Nat.le_of_ble_eq_true rfl, Nat.le_of_ble_eq_true rfl⟩) ⟨gcPM_blind, fun U hU hW => ⟨rfl, by rw [hU], by rw [hU]; exact hPc, va_K.moved hW.alike hKc, hDc.weaken (fun _ _ _ _ => trivial)⟩⟩ rfl rfl hl.1 rfl (lv_room (Nat.le_of_ble_eq_true rfl)) dX0_listSeatings_29 ⟨Nat.zero_le _, Nat.zero_le _⟩) hS (fun q _ h => hFc q h) hFc (fun u t H locs ht hvm hw hB hz1 hk1 hS => ?_)
    obtain ⟨hP1, hD1⟩ := hB
    rw [ht] at hP1
    obtain ⟨hP, hD⟩ := va_join (wr := [(h 0, .inr (0, [.ref (h 1), .ref (h 2), .ref (h 3), .ref (h 4), .ref (h 5), .ref (h 6), .int (nI g), .int (nI r), .int inf, .int (nI (gF0 cl g))])), (h 1, .inl (kc 1, 30, .inl f1)), (h 2, .inl (kc 2, 30, .inl f2)), (h 3, .inl (kc 3, 20, .inl dr)), (h 4, .inl (kc 4, 20, .inl cl)), (h 5, .inl (kc 5, 20, .inl tr))]) (w1 := ([((h 6), .inl ((kc 6), 1024, .inl (gPut 1024 se 0 0)))])) hP hD [6] [0, 1, 2, 3, 4, 5] rfl rfl (by decide) (by decide) hk1 hFc hP1 hD1
    have hP : va_P (dC, dI) vwCl (gcW h kc f1 f2 dr cl tr (gPut 1024 se 0 0) (nI g) (nI r) inf (nI (gF0 cl g))) H := hP.sub [0, 1, 2, 3, 4, 5, 6] rfl
    have hD : va_D A (gcW h kc f1 f2 dr cl tr (gPut 1024 se 0 0) (nI g) (nI r) inf (nI (gF0 cl g))) := hD.sub [0, 1, 2, 3, 4, 5, 6] (by decide) rfl
    clear hz1 hk1 ht hvm hP1 hD1 hFc hDc
    clear hPc hKc
    refine lv_iconst (v := 0) hx hb dX0_listSeatings_32 (by decide) ?_
    refine lv_istore_n (lv' := [(1, .int 0), (0, .ref (h 0))]) hx hb dX0_listSeatings_33 rfl hl (by decide) rfl (fun ls hl => ?_)
    refine gc_loop (g) (fun (i : Nat) (H : Heap) (locs : List Loc) (ls : Array Slot) => ∃ (sv : Nat → Int32) (k : Nat), sv = (gLs cl se g i).1 ∧ k = (gLs cl se g i).2 ∧ va_P (dC, dI) vwCl (gcW h kc f1 f2 dr cl tr sv (nI g) (nI r) inf (nI k)) H ∧ va_D A (gcW h kc f1 f2 dr cl tr sv (nI g) (nI r) inf (nI k)) ∧ va_S A s.heap H locs ∧ lv_has ls 2 [(1, .int (nI i)), (0, .ref (h 0))]) 0 (Nat.zero_le _) ⟨gPut 1024 se 0 0, (gF0 cl g), (by first | rfl | assumption | omega), (by first | rfl | assumption | omega), hP, hD, hS, lv_sub hl [0, 1] rfl⟩ ?_
    intro i H locs ls hi hI ihi
    obtain ⟨sv, k, e_sv, e_k, hP, hD, hS, hl⟩ := hI
    refine lv_iload_n hx hb dX0_listSeatings_34 rfl (lv_at hl 0 rfl) ?_
    refine lv_aload_n hx hb dX0_listSeatings_35 rfl (lv_at hl 1 rfl) ?_
    refine va_get (D := (dC, dI)) (ci := 0) (v := .int (nI g)) (C := RX0) (T := TX0) (N := 10) hx hb hts hin0 hown hK hP 0 rfl rfl 6 (by decide) (hts (.fieldLink RX0 31 "GuestChairs" "guestCount" "I") (by decide +kernel)) (fun _ h9 => h9) rfl dX0_listSeatings_36 ?_
    refine lv_icmp_ge (tgt := 55) hx hb dX0_listSeatings_39 (by decide) (fun c_39 => ?_) (fun c_39 => ?_)
    · skip
      have hEi : i = g := gc_ge c_39 (by omega) (by omega)
      have hWe : ((gcW h kc f1 f2 dr cl tr sv (nI g) (nI r) inf (nI k)) : va_W) = (gcW h kc f1 f2 dr cl tr ((gLs cl se g g).1) (nI g) (nI r) inf (nI (gLs cl se g g).2)) := by rw [e_sv, e_k, hEi]
      rw [hWe] at hP hD
      exact W.vret hx hb hr (fun t ht hW => ⟨⟨(), rfl, trivial, ⟨by rw [ht]; exact hP, hD⟩⟩, hS.F ht⟩) hS.2.2 dX0_listSeatings_55
    · skip
      have hLi : i < g := gc_lt c_39 (by omega) (by omega)
      refine lv_aload_n hx hb dX0_listSeatings_42 rfl (lv_at hl 1 rfl) ?_
      refine lv_iconst (v := 2) hx hb dX0_listSeatings_43 (by decide) ?_
      refine lv_iload_n hx hb dX0_listSeatings_44 rfl (lv_at hl 0 rfl) ?_
      refine lv_imul hx hb dX0_listSeatings_45 ?_
      have hPc : va_P (dC, dI) vwCl (gcW h kc f1 f2 dr cl tr sv (nI g) (nI r) inf (nI k)) _ := hP.sub [0, 1, 2, 3, 4, 5, 6] rfl
      have hKc : va_K (dC, dI) vwCl (gcT kc) s := hK.sub [0, 1, 2, 3, 4, 5] rfl
      have hDc : va_D A (gcW h kc f1 f2 dr cl tr sv (nI g) (nI r) inf (nI k)) := hD.sub [0, 1, 2, 3, 4, 5, 6] (by decide) rfl
      have hFc := va_free (wc := (gcW h kc f1 f2 dr cl tr sv (nI g) (nI r) inf (nI k))) hD hS hA [0, 1, 2, 3, 4, 5, 6] rfl
      refine va_callv (va_runV (As := [.int (2 * nI i)]) (rest := []) ⟨hx, hb, hml, hown, hts⟩ (c_X0_settle l dC dI h kc f1 f2 dr cl tr sv g r inf k (2 * nI i) H.size (by rw [e_k]; exact gLs_le' cl se g (by omega))) (cwV 1 hts gX0_listSeatings_X0_settle rfl rfl rfl (by decide +kernel) ⟨Nat.le_of_ble_eq_true rfl, Nat.le_of_ble_eq_true rfl⟩) ⟨gcPM_blind, va_recv hK hP (ci := 0) (q0 := 0) rfl rfl, fun U hU hW => ⟨rfl, by rw [hU], by rw [hU]; exact hPc, va_K.moved hW.alike hKc, hDc.weaken (fun _ _ _ _ => trivial)⟩⟩ rfl rfl hl.1 rfl (lv_room (Nat.le_of_ble_eq_true rfl)) dX0_listSeatings_46 ⟨Nat.zero_le _, Nat.zero_le _⟩) hS (fun q _ h => hFc q h) hFc (fun u t H locs ht hvm hw hB hz1 hk1 hS => ?_)
      obtain ⟨hP1, hD1⟩ := hB
      rw [ht] at hP1
      obtain ⟨hP, hD⟩ := va_join (wr := []) (w1 := (gcW h kc f1 f2 dr cl tr ((gSt cl (2 * nI i) sv k k).1) (nI g) (nI r) inf (nI (gSt cl (2 * nI i) sv k k).2))) hP hD [0, 1, 2, 3, 4, 5, 6] [] rfl rfl (by decide) (by decide) hk1 hFc hP1 hD1
      have hP : va_P (dC, dI) vwCl (gcW h kc f1 f2 dr cl tr ((gSt cl (2 * nI i) sv k k).1) (nI g) (nI r) inf (nI (gSt cl (2 * nI i) sv k k).2)) H := hP.sub [0, 1, 2, 3, 4, 5, 6] rfl
      have hD : va_D A (gcW h kc f1 f2 dr cl tr ((gSt cl (2 * nI i) sv k k).1) (nI g) (nI r) inf (nI (gSt cl (2 * nI i) sv k k).2)) := hD.sub [0, 1, 2, 3, 4, 5, 6] (by decide) rfl
      clear hz1 hk1 ht hvm hP1 hD1 hFc hDc
      clear hPc hKc
      refine lv_iinc (v := nI (i + 1)) (lv' := [(1, .int (nI (i + 1))), (0, .ref (h 0))]) hx hb dX0_listSeatings_49 hl (k := 0) rfl (nI_1 i) (by decide) rfl (fun ls hl => ?_)
      refine lv_goto (tgt := 34) hx hb dX0_listSeatings_52 (by decide) ?_
      exact ihi H _ ls (by omega) ⟨((gSt cl (2 * nI i) sv k k).1), ((gSt cl (2 * nI i) sv k k).2), (by simp only [gLs, ← e_sv, ← e_k]), (by simp only [gLs, ← e_sv, ← e_k]), hP, hD, hS, lv_sub hl [0, 1] rfl⟩
  · skip
    refine lv_iconst (v := 1) hx hb dX0_listSeatings_12 (by decide) ?_
    refine lv_goto (tgt := 17) hx hb dX0_listSeatings_13 (by decide) ?_
    refine va_calli (va_runS (As := [.int 1]) (rest := [.ref (h 0)]) ⟨hx, hb, hml, hown, hts⟩ (c_X0_oneIf l true) (va_cwS 1 hts gX0_listSeatings_X0_oneIf rfl rfl rfl (by decide +kernel) ⟨Nat.le_of_ble_eq_true rfl, Nat.le_of_ble_eq_true rfl⟩) ⟨fun a U g mk q => q, fun U hU hW => ⟨rfl, trivial⟩⟩ rfl rfl hl.1 rfl (lv_room (Nat.le_of_ble_eq_true rfl)) dX0_listSeatings_17 ⟨Nat.zero_le _, Nat.zero_le _⟩) hS (fun q _ h => h.elim) (fun q h => h.elim) (fun r5 u t H locs ht hvm hw hB hz1 hk1 hS => ?_)
    have hP := gc_keep hP hk1
    have hw : r5 = gB true := hw
    subst hw
    clear hw
    clear hB hz1 hk1 ht hvm
    refine gc_topi (y := nI (gF0 cl g)) (by rw [← gF0_eq]; simp [gB, gFt, c_9]) ?_
    refine va_put (D := (dC, dI)) (ci := 0) (v := .int (nI (gF0 cl g))) (ty := .int) (C := RX0) (T := TX0) (N := 10) hx hb hts hin0 tyX0 tyX0_ok nmX0 hown hK hP hD hS 0 rfl rfl 9 (by decide) (hts (.fieldLink RX0 111 "GuestChairs" "seatingCount" "I") (by decide +kernel)) (fun _ h9 => h9) rfl (by decide +kernel) rfl rfl (Nat.le_of_ble_eq_true rfl) dX0_listSeatings_20 (fun H locs hP hD hS => ?_)
    have hP : va_P (dC, dI) vwCl (gcW h kc f1 f2 dr cl tr se (nI g) (nI r) inf (nI (gF0 cl g))) H := hP
    have hD : va_D A (gcW h kc f1 f2 dr cl tr se (nI g) (nI r) inf (nI (gF0 cl g))) := hD
    refine lv_aload_n hx hb dX0_listSeatings_23 rfl (lv_at hl 0 rfl) ?_
    refine va_get (D := (dC, dI)) (ci := 0) (v := .ref (h 6)) (C := RX0) (T := TX0) (N := 10) hx hb hts hin0 hown hK hP 0 rfl rfl 5 (by decide) (hts (.fieldLink RX0 25 "GuestChairs" "seated" "[I") (by decide +kernel)) (fun _ h9 => h9) rfl dX0_listSeatings_24 ?_
    refine lv_iconst (v := 0) hx hb dX0_listSeatings_27 (by decide) ?_
    refine lv_iconst (v := 0) hx hb dX0_listSeatings_28 (by decide) ?_
    have hPc : va_P (dC, dI) vwCl ([((h 6), .inl ((kc 6), 1024, .inl se))]) _ := hP.sub [6] rfl
    have hKc : va_K (dC, dI) vwCl ([((kc 6), .int)]) s := hK.sub [5] rfl
    have hDc : va_D A ([((h 6), .inl ((kc 6), 1024, .inl se))]) := hD.sub [6] (by decide) rfl
    have hFc := va_free (wc := ([((h 6), .inl ((kc 6), 1024, .inl se))])) hD hS hA [6] rfl
    refine va_callv (va_runS (As := [.ref (h 6), .int 0, .int 0]) (rest := []) ⟨hx, hb, hml, hown, hts⟩ (c_X0_put l dC dI (h 6) (kc 6) 1024 se 0 0 H.size (by decide)) (va_cwS 3 hts gX0_listSeatings_X0_put rfl rfl rfl (by decide +kernel) ⟨Nat.le_of_ble_eq_true rfl, Nat.le_of_ble_eq_true rfl⟩) ⟨gcPM_blind, fun U hU hW => ⟨rfl, by rw [hU], by rw [hU]; exact hPc, va_K.moved hW.alike hKc, hDc.weaken (fun _ _ _ _ => trivial)⟩⟩ rfl rfl hl.1 rfl (lv_room (Nat.le_of_ble_eq_true rfl)) dX0_listSeatings_29 ⟨Nat.zero_le _, Nat.zero_le _⟩) hS (fun q _ h => hFc q h) hFc (fun u t H locs ht hvm hw hB hz1 hk1 hS => ?_)
    obtain ⟨hP1, hD1⟩ := hB
    rw [ht] at hP1
    obtain ⟨hP, hD⟩ := va_join (wr := [(h 0, .inr (0, [.ref (h 1), .ref (h 2), .ref (h 3), .ref (h 4), .ref (h 5), .ref (h 6), .int (nI g), .int (nI r), .int inf, .int (nI (gF0 cl g))])), (h 1, .inl (kc 1, 30, .inl f1)), (h 2, .inl (kc 2, 30, .inl f2)), (h 3, .inl (kc 3, 20, .inl dr)), (h 4, .inl (kc 4, 20, .inl cl)), (h 5, .inl (kc 5, 20, .inl tr))]) (w1 := ([((h 6), .inl ((kc 6), 1024, .inl (gPut 1024 se 0 0)))])) hP hD [6] [0, 1, 2, 3, 4, 5] rfl rfl (by decide) (by decide) hk1 hFc hP1 hD1
    have hP : va_P (dC, dI) vwCl (gcW h kc f1 f2 dr cl tr (gPut 1024 se 0 0) (nI g) (nI r) inf (nI (gF0 cl g))) H := hP.sub [0, 1, 2, 3, 4, 5, 6] rfl
    have hD : va_D A (gcW h kc f1 f2 dr cl tr (gPut 1024 se 0 0) (nI g) (nI r) inf (nI (gF0 cl g))) := hD.sub [0, 1, 2, 3, 4, 5, 6] (by decide) rfl
    clear hz1 hk1 ht hvm hP1 hD1 hFc hDc
    clear hPc hKc
    refine lv_iconst (v := 0) hx hb dX0_listSeatings_32 (by decide) ?_
    refine lv_istore_n (lv' := [(1, .int 0), (0, .ref (h 0))]) hx hb dX0_listSeatings_33 rfl hl (by decide) rfl (fun ls hl => ?_)
    refine gc_loop (g) (fun (i : Nat) (H : Heap) (locs : List Loc) (ls : Array Slot) => ∃ (sv : Nat → Int32) (k : Nat), sv = (gLs cl se g i).1 ∧ k = (gLs cl se g i).2 ∧ va_P (dC, dI) vwCl (gcW h kc f1 f2 dr cl tr sv (nI g) (nI r) inf (nI k)) H ∧ va_D A (gcW h kc f1 f2 dr cl tr sv (nI g) (nI r) inf (nI k)) ∧ va_S A s.heap H locs ∧ lv_has ls 2 [(1, .int (nI i)), (0, .ref (h 0))]) 0 (Nat.zero_le _) ⟨gPut 1024 se 0 0, (gF0 cl g), (by first | rfl | assumption | omega), (by first | rfl | assumption | omega), hP, hD, hS, lv_sub hl [0, 1] rfl⟩ ?_
    intro i H locs ls hi hI ihi
    obtain ⟨sv, k, e_sv, e_k, hP, hD, hS, hl⟩ := hI
    refine lv_iload_n hx hb dX0_listSeatings_34 rfl (lv_at hl 0 rfl) ?_
    refine lv_aload_n hx hb dX0_listSeatings_35 rfl (lv_at hl 1 rfl) ?_
    refine va_get (D := (dC, dI)) (ci := 0) (v := .int (nI g)) (C := RX0) (T := TX0) (N := 10) hx hb hts hin0 hown hK hP 0 rfl rfl 6 (by decide) (hts (.fieldLink RX0 31 "GuestChairs" "guestCount" "I") (by decide +kernel)) (fun _ h9 => h9) rfl dX0_listSeatings_36 ?_
    refine lv_icmp_ge (tgt := 55) hx hb dX0_listSeatings_39 (by decide) (fun c_39 => ?_) (fun c_39 => ?_)
    · skip
      have hEi : i = g := gc_ge c_39 (by omega) (by omega)
      have hWe : ((gcW h kc f1 f2 dr cl tr sv (nI g) (nI r) inf (nI k)) : va_W) = (gcW h kc f1 f2 dr cl tr ((gLs cl se g g).1) (nI g) (nI r) inf (nI (gLs cl se g g).2)) := by rw [e_sv, e_k, hEi]
      rw [hWe] at hP hD
      exact W.vret hx hb hr (fun t ht hW => ⟨⟨(), rfl, trivial, ⟨by rw [ht]; exact hP, hD⟩⟩, hS.F ht⟩) hS.2.2 dX0_listSeatings_55
    · skip
      have hLi : i < g := gc_lt c_39 (by omega) (by omega)
      refine lv_aload_n hx hb dX0_listSeatings_42 rfl (lv_at hl 1 rfl) ?_
      refine lv_iconst (v := 2) hx hb dX0_listSeatings_43 (by decide) ?_
      refine lv_iload_n hx hb dX0_listSeatings_44 rfl (lv_at hl 0 rfl) ?_
      refine lv_imul hx hb dX0_listSeatings_45 ?_
      have hPc : va_P (dC, dI) vwCl (gcW h kc f1 f2 dr cl tr sv (nI g) (nI r) inf (nI k)) _ := hP.sub [0, 1, 2, 3, 4, 5, 6] rfl
      have hKc : va_K (dC, dI) vwCl (gcT kc) s := hK.sub [0, 1, 2, 3, 4, 5] rfl
      have hDc : va_D A (gcW h kc f1 f2 dr cl tr sv (nI g) (nI r) inf (nI k)) := hD.sub [0, 1, 2, 3, 4, 5, 6] (by decide) rfl
      have hFc := va_free (wc := (gcW h kc f1 f2 dr cl tr sv (nI g) (nI r) inf (nI k))) hD hS hA [0, 1, 2, 3, 4, 5, 6] rfl
      refine va_callv (va_runV (As := [.int (2 * nI i)]) (rest := []) ⟨hx, hb, hml, hown, hts⟩ (c_X0_settle l dC dI h kc f1 f2 dr cl tr sv g r inf k (2 * nI i) H.size (by rw [e_k]; exact gLs_le' cl se g (by omega))) (cwV 1 hts gX0_listSeatings_X0_settle rfl rfl rfl (by decide +kernel) ⟨Nat.le_of_ble_eq_true rfl, Nat.le_of_ble_eq_true rfl⟩) ⟨gcPM_blind, va_recv hK hP (ci := 0) (q0 := 0) rfl rfl, fun U hU hW => ⟨rfl, by rw [hU], by rw [hU]; exact hPc, va_K.moved hW.alike hKc, hDc.weaken (fun _ _ _ _ => trivial)⟩⟩ rfl rfl hl.1 rfl (lv_room (Nat.le_of_ble_eq_true rfl)) dX0_listSeatings_46 ⟨Nat.zero_le _, Nat.zero_le _⟩) hS (fun q _ h => hFc q h) hFc (fun u t H locs ht hvm hw hB hz1 hk1 hS => ?_)
      obtain ⟨hP1, hD1⟩ := hB
      rw [ht] at hP1
      obtain ⟨hP, hD⟩ := va_join (wr := []) (w1 := (gcW h kc f1 f2 dr cl tr ((gSt cl (2 * nI i) sv k k).1) (nI g) (nI r) inf (nI (gSt cl (2 * nI i) sv k k).2))) hP hD [0, 1, 2, 3, 4, 5, 6] [] rfl rfl (by decide) (by decide) hk1 hFc hP1 hD1
      have hP : va_P (dC, dI) vwCl (gcW h kc f1 f2 dr cl tr ((gSt cl (2 * nI i) sv k k).1) (nI g) (nI r) inf (nI (gSt cl (2 * nI i) sv k k).2)) H := hP.sub [0, 1, 2, 3, 4, 5, 6] rfl
      have hD : va_D A (gcW h kc f1 f2 dr cl tr ((gSt cl (2 * nI i) sv k k).1) (nI g) (nI r) inf (nI (gSt cl (2 * nI i) sv k k).2)) := hD.sub [0, 1, 2, 3, 4, 5, 6] (by decide) rfl
      clear hz1 hk1 ht hvm hP1 hD1 hFc hDc
      clear hPc hKc
      refine lv_iinc (v := nI (i + 1)) (lv' := [(1, .int (nI (i + 1))), (0, .ref (h 0))]) hx hb dX0_listSeatings_49 hl (k := 0) rfl (nI_1 i) (by decide) rfl (fun ls hl => ?_)
      refine lv_goto (tgt := 34) hx hb dX0_listSeatings_52 (by decide) ?_
      exact ihi H _ ls (by omega) ⟨((gSt cl (2 * nI i) sv k k).1), ((gSt cl (2 * nI i) sv k k).2), (by simp only [gLs, ← e_sv, ← e_k]), (by simp only [gLs, ← e_sv, ← e_k]), hP, hD, hS, lv_sub hl [0, 1] rfl⟩
set_option maxHeartbeats 4000000 in
set_option maxRecDepth 100000 in
theorem c_X0_fitsWithout (l : Launch) (dC : Nat → ClassId) (dI : Nat → Nat → Nat) (h : Nat → Nat) (kc : Nat → ClassId) (f1 : Nat → Int32) (f2 : Nat → Int32) (dr : Nat → Int32) (cl : Nat → Int32) (tr : Nat → Int32) (se : Nat → Int32) (g : Nat) (r : Nat) (inf : Int32) (ct : Nat) (x : Int32) (sz : Nat) (hg : g ≤ 10) (hr30 : r ≤ 30) : Met l yX0_fitsWithout wsX0_fitsWithout ({ frames := 4, cells := 0, slots := 0, locals := 86 }) (gcPM (dC, dI) [.ref (h 0), .int x] (gcW h kc f1 f2 dr cl tr se (nI g) (nI r) inf (nI ct)) (gcT kc) sz) (va_Qi (fun (rv : Int32) (_u : Unit) => rv = gB (gFt (gCl (gLA f1 f2 inf x r tr) 20) g)) (fun _u t9 => va_P (dC, dI) vwCl (gcW h kc f1 f2 dr cl (gCl (gLA f1 f2 inf x r tr) 20) se (nI g) (nI r) inf (nI ct)) t9.heap ∧ va_D (va_A (gcW h kc f1 f2 dr cl tr se (nI g) (nI r) inf (nI ct)) sz) (gcW h kc f1 f2 dr cl (gCl (gLA f1 f2 inf x r tr) 20) se (nI g) (nI r) inf (nI ct))) (va_A (gcW h kc f1 f2 dr cl tr se (nI g) (nI r) inf (nI ct)) sz)) 0 0 (va_A (gcW h kc f1 f2 dr cl tr se (nI g) (nI r) inf (nI ct)) sz) := by
  refine Met.ofW (cc := cX0_fitsWithout) (maxL := 2) (ret := (some .boolean)) (by decide) rfl ?_
  intro p e s m args below meth c s₁ B hml hv
  obtain ⟨rfl, hsz, hP, hK, hD0⟩ := hv
  have hx := B.exec
  have hb := B.bytes
  have hr := B.returns
  have hts := atoms_spec (ws := wsX0_fitsWithout) B.pre
  have hown : s.vm.findClass RX0 = some m.cls := findClass_of_methodNamed B.named
  have hlocks := B.notSynchronized
  subst hsz
  have hD := hD0.self (sz := s.heap.size)
  generalize hAe : va_A (gcW h kc f1 f2 dr cl tr se (nI g) (nI r) inf (nI ct)) s.heap.size = A at hD ⊢
  have hA : ∀ q : Nat, s.heap.size ≤ q → A q := fun q h => by rw [← hAe]; exact Or.inr h
  have hS : va_S A s.heap s.heap [] := va_S.rf
  have hP : va_P (dC, dI) vwCl (gcW h kc f1 f2 dr cl tr se (nI g) (nI r) inf (nI ct)) s.heap := hP
  have hin0 : ∀ w ∈ wsX00, w ∈ wsX0_fitsWithout := by decide +kernel
  have hl := lv_entry [.ref (h 0), .int x] (n := 2) (Nat.le_of_ble_eq_true rfl)
  rw [lg_entry_eq]
  generalize (lg_sl [.ref (h 0), .int x] ++ List.replicate (2 - (lg_sl [.ref (h 0), .int x]).length) Slot.unset).toArray = ls at hl ⊢
  have hl : lv_has ls 2 [(0, .ref (h 0)), (1, .int x)] := hl
  refine lv_aload_n hx hb dX0_fitsWithout_0 rfl (lv_at hl 0 rfl) ?_
  refine lv_iload_n hx hb dX0_fitsWithout_1 rfl (lv_at hl 1 rfl) ?_
  refine lv_aload_n hx hb dX0_fitsWithout_2 rfl (lv_at hl 0 rfl) ?_
  refine va_get (D := (dC, dI)) (ci := 0) (v := .ref (h 5)) (C := RX0) (T := TX0) (N := 10) hx hb hts hin0 hown hK hP 0 rfl rfl 4 (by decide) (hts (.fieldLink RX0 22 "GuestChairs" "trial" "[I") (by decide +kernel)) (fun _ h9 => h9) rfl dX0_fitsWithout_3 ?_
  have hPc : va_P (dC, dI) vwCl (gcW h kc f1 f2 dr cl tr se (nI g) (nI r) inf (nI ct)) _ := hP.sub [0, 1, 2, 3, 4, 5, 6] rfl
  have hKc : va_K (dC, dI) vwCl (gcT kc) s := hK.sub [0, 1, 2, 3, 4, 5] rfl
  have hDc : va_D A (gcW h kc f1 f2 dr cl tr se (nI g) (nI r) inf (nI ct)) := hD.sub [0, 1, 2, 3, 4, 5, 6] (by decide) rfl
  have hFc := va_free (wc := (gcW h kc f1 f2 dr cl tr se (nI g) (nI r) inf (nI ct))) hD hS hA [0, 1, 2, 3, 4, 5, 6] rfl
  refine va_callv (va_runV (As := [.int x, .ref (h 5)]) (rest := []) ⟨hx, hb, hml, hown, hts⟩ (c_X0_linkAllBut_tr l dC dI h kc f1 f2 dr cl tr se g r inf ct x s.heap.size (by first | assumption | omega)) (cwV 2 hts gX0_fitsWithout_X0_linkAllBut rfl rfl rfl (by decide +kernel) ⟨Nat.le_of_ble_eq_true rfl, Nat.le_of_ble_eq_true rfl⟩) ⟨gcPM_blind, va_recv hK hP (ci := 0) (q0 := 0) rfl rfl, fun U hU hW => ⟨rfl, by rw [hU], by rw [hU]; exact hPc, va_K.moved hW.alike hKc, hDc.weaken (fun _ _ _ _ => trivial)⟩⟩ rfl rfl hl.1 rfl (lv_room (Nat.le_of_ble_eq_true rfl)) dX0_fitsWithout_6 ⟨Nat.zero_le _, Nat.zero_le _⟩) hS (fun q _ h => hFc q h) hFc (fun u t H locs ht hvm hw hB hz1 hk1 hS => ?_)
  obtain ⟨hP1, hD1⟩ := hB
  rw [ht] at hP1
  obtain ⟨hP, hD⟩ := va_join (wr := []) (w1 := (gcW h kc f1 f2 dr cl (gLA f1 f2 inf x r tr) se (nI g) (nI r) inf (nI ct))) hP hD [0, 1, 2, 3, 4, 5, 6] [] rfl rfl (by decide) (by decide) hk1 hFc hP1 hD1
  have hP : va_P (dC, dI) vwCl (gcW h kc f1 f2 dr cl (gLA f1 f2 inf x r tr) se (nI g) (nI r) inf (nI ct)) H := hP.sub [0, 1, 2, 3, 4, 5, 6] rfl
  have hD : va_D A (gcW h kc f1 f2 dr cl (gLA f1 f2 inf x r tr) se (nI g) (nI r) inf (nI ct)) := hD.sub [0, 1, 2, 3, 4, 5, 6] (by decide) rfl
  clear hz1 hk1 ht hvm hP1 hD1 hFc hDc
  clear hPc hKc
  refine lv_aload_n hx hb dX0_fitsWithout_9 rfl (lv_at hl 0 rfl) ?_
  refine va_get (D := (dC, dI)) (ci := 0) (v := .ref (h 5)) (C := RX0) (T := TX0) (N := 10) hx hb hts hin0 hown hK hP 0 rfl rfl 4 (by decide) (hts (.fieldLink RX0 22 "GuestChairs" "trial" "[I") (by decide +kernel)) (fun _ h9 => h9) rfl dX0_fitsWithout_10 ?_
  have hPc : va_P (dC, dI) vwCl ([((h 5), .inl ((kc 5), 20, .inl (gLA f1 f2 inf x r tr)))]) _ := hP.sub [5] rfl
  have hKc : va_K (dC, dI) vwCl ([((kc 5), .int)]) s := hK.sub [4] rfl
  have hDc : va_D A ([((h 5), .inl ((kc 5), 20, .inl (gLA f1 f2 inf x r tr)))]) := hD.sub [5] (by decide) rfl
  have hFc := va_free (wc := ([((h 5), .inl ((kc 5), 20, .inl (gLA f1 f2 inf x r tr)))])) hD hS hA [5] rfl
  refine va_callv (va_runS (As := [.ref (h 5)]) (rest := []) ⟨hx, hb, hml, hown, hts⟩ (c_X0_close l dC dI (h 5) (kc 5) (gLA f1 f2 inf x r tr) H.size) (va_cwS 1 hts gX0_fitsWithout_X0_close rfl rfl rfl (by decide +kernel) ⟨Nat.le_of_ble_eq_true rfl, Nat.le_of_ble_eq_true rfl⟩) ⟨gcPM_blind, fun U hU hW => ⟨rfl, by rw [hU], by rw [hU]; exact hPc, va_K.moved hW.alike hKc, hDc.weaken (fun _ _ _ _ => trivial)⟩⟩ rfl rfl hl.1 rfl (lv_room (Nat.le_of_ble_eq_true rfl)) dX0_fitsWithout_13 ⟨Nat.zero_le _, Nat.zero_le _⟩) hS (fun q _ h => hFc q h) hFc (fun u t H locs ht hvm hw hB hz1 hk1 hS => ?_)
  obtain ⟨hP1, hD1⟩ := hB
  rw [ht] at hP1
  obtain ⟨hP, hD⟩ := va_join (wr := [(h 0, .inr (0, [.ref (h 1), .ref (h 2), .ref (h 3), .ref (h 4), .ref (h 5), .ref (h 6), .int (nI g), .int (nI r), .int inf, .int (nI ct)])), (h 1, .inl (kc 1, 30, .inl f1)), (h 2, .inl (kc 2, 30, .inl f2)), (h 3, .inl (kc 3, 20, .inl dr)), (h 4, .inl (kc 4, 20, .inl cl)), (h 6, .inl (kc 6, 1024, .inl se))]) (w1 := ([((h 5), .inl ((kc 5), 20, .inl (gCl (gLA f1 f2 inf x r tr) 20)))])) hP hD [5] [0, 1, 2, 3, 4, 6] rfl rfl (by decide) (by decide) hk1 hFc hP1 hD1
  have hP : va_P (dC, dI) vwCl (gcW h kc f1 f2 dr cl (gCl (gLA f1 f2 inf x r tr) 20) se (nI g) (nI r) inf (nI ct)) H := hP.sub [0, 1, 2, 3, 4, 6, 5] rfl
  have hD : va_D A (gcW h kc f1 f2 dr cl (gCl (gLA f1 f2 inf x r tr) 20) se (nI g) (nI r) inf (nI ct)) := hD.sub [0, 1, 2, 3, 4, 6, 5] (by decide) rfl
  clear hz1 hk1 ht hvm hP1 hD1 hFc hDc
  clear hPc hKc
  refine lv_aload_n hx hb dX0_fitsWithout_16 rfl (lv_at hl 0 rfl) ?_
  refine lv_aload_n hx hb dX0_fitsWithout_17 rfl (lv_at hl 0 rfl) ?_
  refine va_get (D := (dC, dI)) (ci := 0) (v := .ref (h 5)) (C := RX0) (T := TX0) (N := 10) hx hb hts hin0 hown hK hP 0 rfl rfl 4 (by decide) (hts (.fieldLink RX0 22 "GuestChairs" "trial" "[I") (by decide +kernel)) (fun _ h9 => h9) rfl dX0_fitsWithout_18 ?_
  have hPc : va_P (dC, dI) vwCl (gcW h kc f1 f2 dr cl (gCl (gLA f1 f2 inf x r tr) 20) se (nI g) (nI r) inf (nI ct)) _ := hP.sub [0, 1, 2, 3, 4, 5, 6] rfl
  have hKc : va_K (dC, dI) vwCl (gcT kc) s := hK.sub [0, 1, 2, 3, 4, 5] rfl
  refine va_calli (va_runV (As := [.ref (h 5)]) (rest := []) ⟨hx, hb, hml, hown, hts⟩ (c_X0_countTorn_tr l dC dI h kc f1 f2 dr cl (gCl (gLA f1 f2 inf x r tr) 20) se g r inf ct (by first | assumption | omega)) (cwV 1 hts gX0_fitsWithout_X0_countTorn rfl rfl rfl (by decide +kernel) ⟨Nat.le_of_ble_eq_true rfl, Nat.le_of_ble_eq_true rfl⟩) ⟨gcPR_blind, va_recv hK hP (ci := 0) (q0 := 0) rfl rfl, fun U hU hW => ⟨rfl, by rw [hU]; exact hPc, va_K.moved hW.alike hKc⟩⟩ rfl rfl hl.1 rfl (lv_room (Nat.le_of_ble_eq_true rfl)) dX0_fitsWithout_21 ⟨Nat.zero_le _, Nat.zero_le _⟩) hS (fun q _ h => h.elim) (fun q h => h.elim) (fun r3 u t H locs ht hvm hw hB hz1 hk1 hS => ?_)
  have hP := gc_keep hP hk1
  have hw : r3 = gCT (gCl (gLA f1 f2 inf x r tr) 20) g := hw
  subst hw
  clear hw
  clear hB hz1 hk1 ht hvm
  clear hPc hKc
  refine lv_if_ne (tgt := 31) hx hb dX0_fitsWithout_24 (by decide) (fun c_24 => ?_) (fun c_24 => ?_)
  · skip
    refine lv_iconst (v := 0) hx hb dX0_fitsWithout_31 (by decide) ?_
    have hpost : (0 : Int32) = gB (gFt (gCl (gLA f1 f2 inf x r tr) 20) g) := by simp [gB, gFt, c_24]
    exact W.zret (ty := .boolean) (v := 0) hx hb hr (by first | rfl | decide | exact gB_nar _) (fun t ht hW => ⟨⟨0, (), rfl, hpost, ⟨by rw [ht]; exact hP, hD⟩⟩, hS.F ht⟩) hS.2.2 dX0_fitsWithout_32
  · skip
    refine lv_iconst (v := 1) hx hb dX0_fitsWithout_27 (by decide) ?_
    refine lv_goto (tgt := 32) hx hb dX0_fitsWithout_28 (by decide) ?_
    have hpost : (1 : Int32) = gB (gFt (gCl (gLA f1 f2 inf x r tr) 20) g) := by simp [gB, gFt, c_24]
    exact W.zret (ty := .boolean) (v := 1) hx hb hr (by first | rfl | decide | exact gB_nar _) (fun t ht hW => ⟨⟨1, (), rfl, hpost, ⟨by rw [ht]; exact hP, hD⟩⟩, hS.F ht⟩) hS.2.2 dX0_fitsWithout_32
set_option maxHeartbeats 4000000 in
set_option maxRecDepth 100000 in
theorem c_X0_refresh (l : Launch) (dC : Nat → ClassId) (dI : Nat → Nat → Nat) (h : Nat → Nat) (kc : Nat → ClassId) (f1 : Nat → Int32) (f2 : Nat → Int32) (dr : Nat → Int32) (cl : Nat → Int32) (tr : Nat → Int32) (se : Nat → Int32) (g : Nat) (r : Nat) (inf : Int32) (ct : Nat) (sz : Nat) (hg : g ≤ 10) (hr30 : r ≤ 30) : Met l yX0_refresh wsX0_refresh ({ frames := 5, cells := 0, slots := 0, locals := 107 }) (gcPM (dC, dI) [.ref (h 0)] (gcW h kc f1 f2 dr cl tr se (nI g) (nI r) inf (nI ct)) (gcT kc) sz) (va_Qv (fun (_u : Unit) => True) (fun _u t9 => va_P (dC, dI) vwCl (gcW h kc f1 f2 (gLA f1 f2 inf (-1) r dr) (gCl (gLA f1 f2 inf (-1) r cl) 20) tr ((gLs (gCl (gLA f1 f2 inf (-1) r cl) 20) se g g).1) (nI g) (nI r) inf (nI (gLs (gCl (gLA f1 f2 inf (-1) r cl) 20) se g g).2)) t9.heap ∧ va_D (va_A (gcW h kc f1 f2 dr cl tr se (nI g) (nI r) inf (nI ct)) sz) (gcW h kc f1 f2 (gLA f1 f2 inf (-1) r dr) (gCl (gLA f1 f2 inf (-1) r cl) 20) tr ((gLs (gCl (gLA f1 f2 inf (-1) r cl) 20) se g g).1) (nI g) (nI r) inf (nI (gLs (gCl (gLA f1 f2 inf (-1) r cl) 20) se g g).2))) (va_A (gcW h kc f1 f2 dr cl tr se (nI g) (nI r) inf (nI ct)) sz)) 0 0 (va_A (gcW h kc f1 f2 dr cl tr se (nI g) (nI r) inf (nI ct)) sz) := by
  refine Met.ofW (cc := cX0_refresh) (maxL := 1) (ret := none) (by decide) rfl ?_
  intro p e s m args below meth c s₁ B hml hv
  obtain ⟨rfl, hsz, hP, hK, hD0⟩ := hv
  have hx := B.exec
  have hb := B.bytes
  have hr := B.returns
  have hts := atoms_spec (ws := wsX0_refresh) B.pre
  have hown : s.vm.findClass RX0 = some m.cls := findClass_of_methodNamed B.named
  have hlocks := B.notSynchronized
  subst hsz
  have hD := hD0.self (sz := s.heap.size)
  generalize hAe : va_A (gcW h kc f1 f2 dr cl tr se (nI g) (nI r) inf (nI ct)) s.heap.size = A at hD ⊢
  have hA : ∀ q : Nat, s.heap.size ≤ q → A q := fun q h => by rw [← hAe]; exact Or.inr h
  have hS : va_S A s.heap s.heap [] := va_S.rf
  have hP : va_P (dC, dI) vwCl (gcW h kc f1 f2 dr cl tr se (nI g) (nI r) inf (nI ct)) s.heap := hP
  have hin0 : ∀ w ∈ wsX00, w ∈ wsX0_refresh := by decide +kernel
  have hl := lv_entry [.ref (h 0)] (n := 1) (Nat.le_of_ble_eq_true rfl)
  rw [lg_entry_eq]
  generalize (lg_sl [.ref (h 0)] ++ List.replicate (1 - (lg_sl [.ref (h 0)]).length) Slot.unset).toArray = ls at hl ⊢
  have hl : lv_has ls 1 [(0, .ref (h 0))] := hl
  refine lv_aload_n hx hb dX0_refresh_0 rfl (lv_at hl 0 rfl) ?_
  refine lv_iconst (v := -1) hx hb dX0_refresh_1 (by decide) ?_
  refine lv_aload_n hx hb dX0_refresh_2 rfl (lv_at hl 0 rfl) ?_
  refine va_get (D := (dC, dI)) (ci := 0) (v := .ref (h 3)) (C := RX0) (T := TX0) (N := 10) hx hb hts hin0 hown hK hP 0 rfl rfl 2 (by decide) (hts (.fieldLink RX0 16 "GuestChairs" "direct" "[I") (by decide +kernel)) (fun _ h9 => h9) rfl dX0_refresh_3 ?_
  have hPc : va_P (dC, dI) vwCl (gcW h kc f1 f2 dr cl tr se (nI g) (nI r) inf (nI ct)) _ := hP.sub [0, 1, 2, 3, 4, 5, 6] rfl
  have hKc : va_K (dC, dI) vwCl (gcT kc) s := hK.sub [0, 1, 2, 3, 4, 5] rfl
  have hDc : va_D A (gcW h kc f1 f2 dr cl tr se (nI g) (nI r) inf (nI ct)) := hD.sub [0, 1, 2, 3, 4, 5, 6] (by decide) rfl
  have hFc := va_free (wc := (gcW h kc f1 f2 dr cl tr se (nI g) (nI r) inf (nI ct))) hD hS hA [0, 1, 2, 3, 4, 5, 6] rfl
  refine va_callv (va_runV (As := [.int (-1), .ref (h 3)]) (rest := []) ⟨hx, hb, hml, hown, hts⟩ (c_X0_linkAllBut_dr l dC dI h kc f1 f2 dr cl tr se g r inf ct (-1) s.heap.size (by first | assumption | omega)) (cwV 2 hts gX0_refresh_X0_linkAllBut rfl rfl rfl (by decide +kernel) ⟨Nat.le_of_ble_eq_true rfl, Nat.le_of_ble_eq_true rfl⟩) ⟨gcPM_blind, va_recv hK hP (ci := 0) (q0 := 0) rfl rfl, fun U hU hW => ⟨rfl, by rw [hU], by rw [hU]; exact hPc, va_K.moved hW.alike hKc, hDc.weaken (fun _ _ _ _ => trivial)⟩⟩ rfl rfl hl.1 rfl (lv_room (Nat.le_of_ble_eq_true rfl)) dX0_refresh_6 ⟨Nat.zero_le _, Nat.zero_le _⟩) hS (fun q _ h => hFc q h) hFc (fun u t H locs ht hvm hw hB hz1 hk1 hS => ?_)
  obtain ⟨hP1, hD1⟩ := hB
  rw [ht] at hP1
  obtain ⟨hP, hD⟩ := va_join (wr := []) (w1 := (gcW h kc f1 f2 (gLA f1 f2 inf (-1) r dr) cl tr se (nI g) (nI r) inf (nI ct))) hP hD [0, 1, 2, 3, 4, 5, 6] [] rfl rfl (by decide) (by decide) hk1 hFc hP1 hD1
  have hP : va_P (dC, dI) vwCl (gcW h kc f1 f2 (gLA f1 f2 inf (-1) r dr) cl tr se (nI g) (nI r) inf (nI ct)) H := hP.sub [0, 1, 2, 3, 4, 5, 6] rfl
  have hD : va_D A (gcW h kc f1 f2 (gLA f1 f2 inf (-1) r dr) cl tr se (nI g) (nI r) inf (nI ct)) := hD.sub [0, 1, 2, 3, 4, 5, 6] (by decide) rfl
  clear hz1 hk1 ht hvm hP1 hD1 hFc hDc
  clear hPc hKc
  refine lv_aload_n hx hb dX0_refresh_9 rfl (lv_at hl 0 rfl) ?_
  refine lv_iconst (v := -1) hx hb dX0_refresh_10 (by decide) ?_
  refine lv_aload_n hx hb dX0_refresh_11 rfl (lv_at hl 0 rfl) ?_
  refine va_get (D := (dC, dI)) (ci := 0) (v := .ref (h 4)) (C := RX0) (T := TX0) (N := 10) hx hb hts hin0 hown hK hP 0 rfl rfl 3 (by decide) (hts (.fieldLink RX0 19 "GuestChairs" "closed" "[I") (by decide +kernel)) (fun _ h9 => h9) rfl dX0_refresh_12 ?_
  have hPc : va_P (dC, dI) vwCl (gcW h kc f1 f2 (gLA f1 f2 inf (-1) r dr) cl tr se (nI g) (nI r) inf (nI ct)) _ := hP.sub [0, 1, 2, 3, 4, 5, 6] rfl
  have hKc : va_K (dC, dI) vwCl (gcT kc) s := hK.sub [0, 1, 2, 3, 4, 5] rfl
  have hDc : va_D A (gcW h kc f1 f2 (gLA f1 f2 inf (-1) r dr) cl tr se (nI g) (nI r) inf (nI ct)) := hD.sub [0, 1, 2, 3, 4, 5, 6] (by decide) rfl
  have hFc := va_free (wc := (gcW h kc f1 f2 (gLA f1 f2 inf (-1) r dr) cl tr se (nI g) (nI r) inf (nI ct))) hD hS hA [0, 1, 2, 3, 4, 5, 6] rfl
  refine va_callv (va_runV (As := [.int (-1), .ref (h 4)]) (rest := []) ⟨hx, hb, hml, hown, hts⟩ (c_X0_linkAllBut_cl l dC dI h kc f1 f2 (gLA f1 f2 inf (-1) r dr) cl tr se g r inf ct (-1) H.size (by first | assumption | omega)) (cwV 2 hts gX0_refresh_X0_linkAllBut rfl rfl rfl (by decide +kernel) ⟨Nat.le_of_ble_eq_true rfl, Nat.le_of_ble_eq_true rfl⟩) ⟨gcPM_blind, va_recv hK hP (ci := 0) (q0 := 0) rfl rfl, fun U hU hW => ⟨rfl, by rw [hU], by rw [hU]; exact hPc, va_K.moved hW.alike hKc, hDc.weaken (fun _ _ _ _ => trivial)⟩⟩ rfl rfl hl.1 rfl (lv_room (Nat.le_of_ble_eq_true rfl)) dX0_refresh_15 ⟨Nat.zero_le _, Nat.zero_le _⟩) hS (fun q _ h => hFc q h) hFc (fun u t H locs ht hvm hw hB hz1 hk1 hS => ?_)
  obtain ⟨hP1, hD1⟩ := hB
  rw [ht] at hP1
  obtain ⟨hP, hD⟩ := va_join (wr := []) (w1 := (gcW h kc f1 f2 (gLA f1 f2 inf (-1) r dr) (gLA f1 f2 inf (-1) r cl) tr se (nI g) (nI r) inf (nI ct))) hP hD [0, 1, 2, 3, 4, 5, 6] [] rfl rfl (by decide) (by decide) hk1 hFc hP1 hD1
  have hP : va_P (dC, dI) vwCl (gcW h kc f1 f2 (gLA f1 f2 inf (-1) r dr) (gLA f1 f2 inf (-1) r cl) tr se (nI g) (nI r) inf (nI ct)) H := hP.sub [0, 1, 2, 3, 4, 5, 6] rfl
  have hD : va_D A (gcW h kc f1 f2 (gLA f1 f2 inf (-1) r dr) (gLA f1 f2 inf (-1) r cl) tr se (nI g) (nI r) inf (nI ct)) := hD.sub [0, 1, 2, 3, 4, 5, 6] (by decide) rfl
  clear hz1 hk1 ht hvm hP1 hD1 hFc hDc
  clear hPc hKc
  refine lv_aload_n hx hb dX0_refresh_18 rfl (lv_at hl 0 rfl) ?_
  refine va_get (D := (dC, dI)) (ci := 0) (v := .ref (h 4)) (C := RX0) (T := TX0) (N := 10) hx hb hts hin0 hown hK hP 0 rfl rfl 3 (by decide) (hts (.fieldLink RX0 19 "GuestChairs" "closed" "[I") (by decide +kernel)) (fun _ h9 => h9) rfl dX0_refresh_19 ?_
  have hPc : va_P (dC, dI) vwCl ([((h 4), .inl ((kc 4), 20, .inl (gLA f1 f2 inf (-1) r cl)))]) _ := hP.sub [4] rfl
  have hKc : va_K (dC, dI) vwCl ([((kc 4), .int)]) s := hK.sub [3] rfl
  have hDc : va_D A ([((h 4), .inl ((kc 4), 20, .inl (gLA f1 f2 inf (-1) r cl)))]) := hD.sub [4] (by decide) rfl
  have hFc := va_free (wc := ([((h 4), .inl ((kc 4), 20, .inl (gLA f1 f2 inf (-1) r cl)))])) hD hS hA [4] rfl
  refine va_callv (va_runS (As := [.ref (h 4)]) (rest := []) ⟨hx, hb, hml, hown, hts⟩ (c_X0_close l dC dI (h 4) (kc 4) (gLA f1 f2 inf (-1) r cl) H.size) (va_cwS 1 hts gX0_refresh_X0_close rfl rfl rfl (by decide +kernel) ⟨Nat.le_of_ble_eq_true rfl, Nat.le_of_ble_eq_true rfl⟩) ⟨gcPM_blind, fun U hU hW => ⟨rfl, by rw [hU], by rw [hU]; exact hPc, va_K.moved hW.alike hKc, hDc.weaken (fun _ _ _ _ => trivial)⟩⟩ rfl rfl hl.1 rfl (lv_room (Nat.le_of_ble_eq_true rfl)) dX0_refresh_22 ⟨Nat.zero_le _, Nat.zero_le _⟩) hS (fun q _ h => hFc q h) hFc (fun u t H locs ht hvm hw hB hz1 hk1 hS => ?_)
  obtain ⟨hP1, hD1⟩ := hB
  rw [ht] at hP1
  obtain ⟨hP, hD⟩ := va_join (wr := [(h 0, .inr (0, [.ref (h 1), .ref (h 2), .ref (h 3), .ref (h 4), .ref (h 5), .ref (h 6), .int (nI g), .int (nI r), .int inf, .int (nI ct)])), (h 1, .inl (kc 1, 30, .inl f1)), (h 2, .inl (kc 2, 30, .inl f2)), (h 3, .inl (kc 3, 20, .inl (gLA f1 f2 inf (-1) r dr))), (h 5, .inl (kc 5, 20, .inl tr)), (h 6, .inl (kc 6, 1024, .inl se))]) (w1 := ([((h 4), .inl ((kc 4), 20, .inl (gCl (gLA f1 f2 inf (-1) r cl) 20)))])) hP hD [4] [0, 1, 2, 3, 5, 6] rfl rfl (by decide) (by decide) hk1 hFc hP1 hD1
  have hP : va_P (dC, dI) vwCl (gcW h kc f1 f2 (gLA f1 f2 inf (-1) r dr) (gCl (gLA f1 f2 inf (-1) r cl) 20) tr se (nI g) (nI r) inf (nI ct)) H := hP.sub [0, 1, 2, 3, 6, 4, 5] rfl
  have hD : va_D A (gcW h kc f1 f2 (gLA f1 f2 inf (-1) r dr) (gCl (gLA f1 f2 inf (-1) r cl) 20) tr se (nI g) (nI r) inf (nI ct)) := hD.sub [0, 1, 2, 3, 6, 4, 5] (by decide) rfl
  clear hz1 hk1 ht hvm hP1 hD1 hFc hDc
  clear hPc hKc
  refine lv_aload_n hx hb dX0_refresh_25 rfl (lv_at hl 0 rfl) ?_
  have hPc : va_P (dC, dI) vwCl (gcW h kc f1 f2 (gLA f1 f2 inf (-1) r dr) (gCl (gLA f1 f2 inf (-1) r cl) 20) tr se (nI g) (nI r) inf (nI ct)) _ := hP.sub [0, 1, 2, 3, 4, 5, 6] rfl
  have hKc : va_K (dC, dI) vwCl (gcT kc) s := hK.sub [0, 1, 2, 3, 4, 5] rfl
  have hDc : va_D A (gcW h kc f1 f2 (gLA f1 f2 inf (-1) r dr) (gCl (gLA f1 f2 inf (-1) r cl) 20) tr se (nI g) (nI r) inf (nI ct)) := hD.sub [0, 1, 2, 3, 4, 5, 6] (by decide) rfl
  have hFc := va_free (wc := (gcW h kc f1 f2 (gLA f1 f2 inf (-1) r dr) (gCl (gLA f1 f2 inf (-1) r cl) 20) tr se (nI g) (nI r) inf (nI ct))) hD hS hA [0, 1, 2, 3, 4, 5, 6] rfl
  refine va_callv (va_runV (As := []) (rest := []) ⟨hx, hb, hml, hown, hts⟩ (c_X0_listSeatings l dC dI h kc f1 f2 (gLA f1 f2 inf (-1) r dr) (gCl (gLA f1 f2 inf (-1) r cl) 20) tr se g r inf ct H.size (by first | assumption | omega)) (cwV 0 hts gX0_refresh_X0_listSeatings rfl rfl rfl (by decide +kernel) ⟨Nat.le_of_ble_eq_true rfl, Nat.le_of_ble_eq_true rfl⟩) ⟨gcPM_blind, va_recv hK hP (ci := 0) (q0 := 0) rfl rfl, fun U hU hW => ⟨rfl, by rw [hU], by rw [hU]; exact hPc, va_K.moved hW.alike hKc, hDc.weaken (fun _ _ _ _ => trivial)⟩⟩ rfl rfl hl.1 rfl (lv_room (Nat.le_of_ble_eq_true rfl)) dX0_refresh_26 ⟨Nat.zero_le _, Nat.zero_le _⟩) hS (fun q _ h => hFc q h) hFc (fun u t H locs ht hvm hw hB hz1 hk1 hS => ?_)
  obtain ⟨hP1, hD1⟩ := hB
  rw [ht] at hP1
  obtain ⟨hP, hD⟩ := va_join (wr := []) (w1 := (gcW h kc f1 f2 (gLA f1 f2 inf (-1) r dr) (gCl (gLA f1 f2 inf (-1) r cl) 20) tr ((gLs (gCl (gLA f1 f2 inf (-1) r cl) 20) se g g).1) (nI g) (nI r) inf (nI (gLs (gCl (gLA f1 f2 inf (-1) r cl) 20) se g g).2))) hP hD [0, 1, 2, 3, 4, 5, 6] [] rfl rfl (by decide) (by decide) hk1 hFc hP1 hD1
  have hP : va_P (dC, dI) vwCl (gcW h kc f1 f2 (gLA f1 f2 inf (-1) r dr) (gCl (gLA f1 f2 inf (-1) r cl) 20) tr ((gLs (gCl (gLA f1 f2 inf (-1) r cl) 20) se g g).1) (nI g) (nI r) inf (nI (gLs (gCl (gLA f1 f2 inf (-1) r cl) 20) se g g).2)) H := hP.sub [0, 1, 2, 3, 4, 5, 6] rfl
  have hD : va_D A (gcW h kc f1 f2 (gLA f1 f2 inf (-1) r dr) (gCl (gLA f1 f2 inf (-1) r cl) 20) tr ((gLs (gCl (gLA f1 f2 inf (-1) r cl) 20) se g g).1) (nI g) (nI r) inf (nI (gLs (gCl (gLA f1 f2 inf (-1) r cl) 20) se g g).2)) := hD.sub [0, 1, 2, 3, 4, 5, 6] (by decide) rfl
  clear hz1 hk1 ht hvm hP1 hD1 hFc hDc
  clear hPc hKc
  exact W.vret hx hb hr (fun t ht hW => ⟨⟨(), rfl, trivial, ⟨by rw [ht]; exact hP, hD⟩⟩, hS.F ht⟩) hS.2.2 dX0_refresh_29
