set_option maxHeartbeats 4000000 in
set_option maxRecDepth 100000 in
theorem c_X0_linkAllBut_dr (l : Launch) (dC : Nat → ClassId) (dI : Nat → Nat → Nat) (h : Nat → Nat) (kc : Nat → ClassId) (f1 : Nat → Int32) (f2 : Nat → Int32) (dr : Nat → Int32) (cl : Nat → Int32) (tr : Nat → Int32) (se : Nat → Int32) (g : Nat) (r : Nat) (inf : Int32) (ct : Nat) (left : Int32) (sz : Nat) (hr30 : r ≤ 30) : Met l yX0_linkAllBut wsX0_linkAllBut ({ frames := 2, cells := 0, slots := 0, locals := 44 }) (gcPM (dC, dI) [.ref (h 0), .int left, .ref (h 3)] (gcW h kc f1 f2 dr cl tr se (nI g) (nI r) inf (nI ct)) (gcT kc) sz) (va_Qv (fun (_u : Unit) => True) (fun _u t9 => va_P (dC, dI) vwCl (gcW h kc f1 f2 (gLA f1 f2 inf left r dr) cl tr se (nI g) (nI r) inf (nI ct)) t9.heap ∧ va_D (va_A (gcW h kc f1 f2 dr cl tr se (nI g) (nI r) inf (nI ct)) sz) (gcW h kc f1 f2 (gLA f1 f2 inf left r dr) cl tr se (nI g) (nI r) inf (nI ct))) (va_A (gcW h kc f1 f2 dr cl tr se (nI g) (nI r) inf (nI ct)) sz)) 0 0 (va_A (gcW h kc f1 f2 dr cl tr se (nI g) (nI r) inf (nI ct)) sz) := by
  refine Met.ofW (cc := cX0_linkAllBut) (maxL := 6) (ret := none) (by decide) rfl ?_
  intro p e s m args below meth c s₁ B hml hv
  obtain ⟨rfl, hsz, hP, hK, hD0⟩ := hv
  have hx := B.exec
  have hb := B.bytes
  have hr := B.returns
  have hts := atoms_spec (ws := wsX0_linkAllBut) B.pre
  have hown : s.vm.findClass RX0 = some m.cls := findClass_of_methodNamed B.named
  have hlocks := B.notSynchronized
  subst hsz
  have hD := hD0.self (sz := s.heap.size)
  generalize hAe : va_A (gcW h kc f1 f2 dr cl tr se (nI g) (nI r) inf (nI ct)) s.heap.size = A at hD ⊢
  have hA : ∀ q : Nat, s.heap.size ≤ q → A q := fun q h => by rw [← hAe]; exact Or.inr h
  have hS : va_S A s.heap s.heap [] := va_S.rf
  have hP : va_P (dC, dI) vwCl (gcW h kc f1 f2 dr cl tr se (nI g) (nI r) inf (nI ct)) s.heap := hP
  have hin0 : ∀ w ∈ wsX00, w ∈ wsX0_linkAllBut := by decide +kernel
  have hl := lv_entry [.ref (h 0), .int left, .ref (h 3)] (n := 6) (Nat.le_of_ble_eq_true rfl)
  rw [lg_entry_eq]
  generalize (lg_sl [.ref (h 0), .int left, .ref (h 3)] ++ List.replicate (6 - (lg_sl [.ref (h 0), .int left, .ref (h 3)]).length) Slot.unset).toArray = ls at hl ⊢
  have hl : lv_has ls 6 [(0, .ref (h 0)), (1, .int left), (2, .ref (h 3))] := hl
  refine lv_iconst (v := 0) hx hb dX0_linkAllBut_0 (by decide) ?_
  refine lv_istore_n (lv' := [(3, .int 0), (0, .ref (h 0)), (1, .int left), (2, .ref (h 3))]) hx hb dX0_linkAllBut_1 rfl hl (by decide) rfl (fun ls hl => ?_)
  refine gc_loop (20) (fun (a : Nat) (H : Heap) (locs : List Loc) (ls : Array Slot) => ∃ (fa : Nat → Int32), fa = gIn dr a ∧ va_P (dC, dI) vwCl (gcW h kc f1 f2 fa cl tr se (nI g) (nI r) inf (nI ct)) H ∧ va_D A (gcW h kc f1 f2 fa cl tr se (nI g) (nI r) inf (nI ct)) ∧ va_S A s.heap H locs ∧ lv_has ls 6 [(3, .int (nI a)), (0, .ref (h 0)), (1, .int left), (2, .ref (h 3))]) 0 (Nat.zero_le _) ⟨dr, (by first | rfl | assumption | omega), hP, hD, hS, lv_sub hl [0, 1, 2, 3] rfl⟩ ?_
  intro a H locs ls ha hI iha
  obtain ⟨fa, e_fa, hP, hD, hS, hl⟩ := hI
  refine lv_iload_n hx hb dX0_linkAllBut_2 rfl (lv_at hl 0 rfl) ?_
  refine lv_aload_n hx hb dX0_linkAllBut_3 rfl (lv_at hl 3 rfl) ?_
  refine va_alen hx hb hK hP 3 2 rfl rfl (v := nI 20) rfl dX0_linkAllBut_4 ?_
  refine lv_icmp_ge (tgt := 20) hx hb dX0_linkAllBut_5 (by decide) (fun c_5 => ?_) (fun c_5 => ?_)
  · skip
    have hEa : a = 20 := gc_ge c_5 (by omega) (by omega)
    refine lv_iconst (v := 0) hx hb dX0_linkAllBut_20 (by decide) ?_
    refine lv_istore_n (lv' := [(3, .int 0), (0, .ref (h 0)), (1, .int left), (2, .ref (h 3))]) hx hb dX0_linkAllBut_21 rfl hl (by decide) rfl (fun ls hl => ?_)
    refine gc_loop (r) (fun (i : Nat) (H : Heap) (locs : List Loc) (ls : Array Slot) => ∃ (fb : Nat → Int32), fb = gLk f1 f2 inf left (gIn dr 20) i ∧ va_P (dC, dI) vwCl (gcW h kc f1 f2 fb cl tr se (nI g) (nI r) inf (nI ct)) H ∧ va_D A (gcW h kc f1 f2 fb cl tr se (nI g) (nI r) inf (nI ct)) ∧ va_S A s.heap H locs ∧ lv_has ls 6 [(3, .int (nI i)), (0, .ref (h 0)), (1, .int left), (2, .ref (h 3))]) 0 (Nat.zero_le _) ⟨fa, (by rw [e_fa, hEa]; rfl), hP, hD, hS, lv_sub hl [0, 1, 2, 3] rfl⟩ ?_
    intro i H locs ls hi hI ihi
    obtain ⟨fb, e_fb, hP, hD, hS, hl⟩ := hI
    refine lv_iload_n hx hb dX0_linkAllBut_22 rfl (lv_at hl 0 rfl) ?_
    refine lv_aload_n hx hb dX0_linkAllBut_23 rfl (lv_at hl 1 rfl) ?_
    refine va_get (D := (dC, dI)) (ci := 0) (v := .int (nI r)) (C := RX0) (T := TX0) (N := 10) hx hb hts hin0 hown hK hP 0 rfl rfl 7 (by decide) (hts (.fieldLink RX0 51 "GuestChairs" "ruleCount" "I") (by decide +kernel)) (fun _ h9 => h9) rfl dX0_linkAllBut_24 ?_
    refine lv_icmp_ge (tgt := 94) hx hb dX0_linkAllBut_27 (by decide) (fun c_27 => ?_) (fun c_27 => ?_)
    · skip
      have hEi : i = r := gc_ge c_27 (by omega) (by omega)
      have hWe : ((gcW h kc f1 f2 fb cl tr se (nI g) (nI r) inf (nI ct)) : va_W) = (gcW h kc f1 f2 (gLA f1 f2 inf left r dr) cl tr se (nI g) (nI r) inf (nI ct)) := by rw [e_fb, hEi]; rfl
      rw [hWe] at hP hD
      exact W.vret hx hb hr (fun t ht hW => ⟨⟨(), rfl, trivial, ⟨by rw [ht]; exact hP, hD⟩⟩, hS.F ht⟩) hS.2.2 dX0_linkAllBut_94
    · skip
      have hLi : i < r := gc_lt c_27 (by omega) (by omega)
      refine lv_iload_n hx hb dX0_linkAllBut_30 rfl (lv_at hl 0 rfl) ?_
      refine lv_iload_n hx hb dX0_linkAllBut_31 rfl (lv_at hl 2 rfl) ?_
      refine lv_icmp_eq (tgt := 88) hx hb dX0_linkAllBut_32 (by decide) (fun c_32 => ?_) (fun c_32 => ?_)
      · skip
        refine lv_iinc (v := nI (i + 1)) (lv' := [(3, .int (nI (i + 1))), (0, .ref (h 0)), (1, .int left), (2, .ref (h 3))]) hx hb dX0_linkAllBut_88 hl (k := 0) rfl (nI_1 i) (by decide) rfl (fun ls hl => ?_)
        refine lv_goto (tgt := 22) hx hb dX0_linkAllBut_91 (by decide) ?_
        exact ihi H _ ls (by omega) ⟨fb, (by simp only [gLk, ← e_fb]; simp [gLk, c_32]), hP, hD, hS, lv_sub hl [0, 1, 2, 3] rfl⟩
      · skip
        refine lv_aload_n hx hb dX0_linkAllBut_35 rfl (lv_at hl 1 rfl) ?_
        refine va_get (D := (dC, dI)) (ci := 0) (v := .int inf) (C := RX0) (T := TX0) (N := 10) hx hb hts hin0 hown hK hP 0 rfl rfl 8 (by decide) (hts (.fieldLink RX0 60 "GuestChairs" "inForce" "I") (by decide +kernel)) (fun _ h9 => h9) rfl dX0_linkAllBut_36 ?_
        refine lv_iload_n hx hb dX0_linkAllBut_39 rfl (lv_at hl 0 rfl) ?_
        refine va_calli (va_runS (As := [.int inf, .int (nI i)]) (rest := []) ⟨hx, hb, hml, hown, hts⟩ (c_X0_has l inf (nI i)) (va_cwS 2 hts gX0_linkAllBut_X0_has rfl rfl rfl (by decide +kernel) ⟨Nat.le_of_ble_eq_true rfl, Nat.le_of_ble_eq_true rfl⟩) ⟨fun a U g mk q => q, fun U hU hW => ⟨rfl, trivial⟩⟩ rfl rfl hl.1 rfl (lv_room (Nat.le_of_ble_eq_true rfl)) dX0_linkAllBut_40 ⟨Nat.zero_le _, Nat.zero_le _⟩) hS (fun q _ h => h.elim) (fun q h => h.elim) (fun r1 u t H locs ht hvm hw hB hz1 hk1 hS => ?_)
        have hP := gc_keep hP hk1
        have hw : r1 = gB (gHas inf (nI i)) := hw
        subst hw
        clear hw
        clear hB hz1 hk1 ht hvm
        refine lv_if_eq (tgt := 88) hx hb dX0_linkAllBut_43 (by decide) (fun c_43 => ?_) (fun c_43 => ?_)
        · skip
          have c_43 := gB_f c_43
          refine lv_iinc (v := nI (i + 1)) (lv' := [(3, .int (nI (i + 1))), (0, .ref (h 0)), (1, .int left), (2, .ref (h 3))]) hx hb dX0_linkAllBut_88 hl (k := 0) rfl (nI_1 i) (by decide) rfl (fun ls hl => ?_)
          refine lv_goto (tgt := 22) hx hb dX0_linkAllBut_91 (by decide) ?_
          exact ihi H _ ls (by omega) ⟨fb, (by simp only [gLk, ← e_fb]; simp [gLk, c_32, c_43]), hP, hD, hS, lv_sub hl [0, 1, 2, 3] rfl⟩
        · skip
          have c_43 := gB_t c_43
          refine lv_aload_n hx hb dX0_linkAllBut_46 rfl (lv_at hl 1 rfl) ?_
          refine va_get (D := (dC, dI)) (ci := 0) (v := .ref (h 1)) (C := RX0) (T := TX0) (N := 10) hx hb hts hin0 hown hK hP 0 rfl rfl 0 (by decide) (hts (.fieldLink RX0 9 "GuestChairs" "firsts" "[I") (by decide +kernel)) (fun _ h9 => h9) rfl dX0_linkAllBut_47 ?_
          refine lv_iload_n hx hb dX0_linkAllBut_50 rfl (lv_at hl 0 rfl) ?_
          have hPc : va_P (dC, dI) vwCl ([((h 1), .inl ((kc 1), 30, .inl f1))]) _ := hP.sub [1] rfl
          have hKc : va_K (dC, dI) vwCl ([((kc 1), .int)]) s := hK.sub [0] rfl
          refine va_calli (va_runS (As := [.ref (h 1), .int (nI i)]) (rest := []) ⟨hx, hb, hml, hown, hts⟩ (c_X0_at l dC dI (h 1) (kc 1) 30 f1 (nI i) (by decide)) (va_cwS 2 hts gX0_linkAllBut_X0_at rfl rfl rfl (by decide +kernel) ⟨Nat.le_of_ble_eq_true rfl, Nat.le_of_ble_eq_true rfl⟩) ⟨gcPR_blind, fun U hU hW => ⟨rfl, by rw [hU]; exact hPc, va_K.moved hW.alike hKc⟩⟩ rfl rfl hl.1 rfl (lv_room (Nat.le_of_ble_eq_true rfl)) dX0_linkAllBut_51 ⟨Nat.zero_le _, Nat.zero_le _⟩) hS (fun q _ h => h.elim) (fun q h => h.elim) (fun r2 u t H locs ht hvm hw hB hz1 hk1 hS => ?_)
          have hP := gc_keep hP hk1
          have hw : r2 = gAt 30 f1 (nI i) := hw
          subst hw
          clear hw
          clear hB hz1 hk1 ht hvm
          clear hPc hKc
          refine lv_istore (lv' := [(4, .int (gAt 30 f1 (nI i))), (3, .int (nI i)), (0, .ref (h 0)), (1, .int left), (2, .ref (h 3))]) hx hb dX0_linkAllBut_54 hl (by decide) rfl (fun ls hl => ?_)
          refine lv_aload_n hx hb dX0_linkAllBut_56 rfl (lv_at hl 2 rfl) ?_
          refine va_get (D := (dC, dI)) (ci := 0) (v := .ref (h 2)) (C := RX0) (T := TX0) (N := 10) hx hb hts hin0 hown hK hP 0 rfl rfl 1 (by decide) (hts (.fieldLink RX0 13 "GuestChairs" "seconds" "[I") (by decide +kernel)) (fun _ h9 => h9) rfl dX0_linkAllBut_57 ?_
          refine lv_iload_n hx hb dX0_linkAllBut_60 rfl (lv_at hl 1 rfl) ?_
          have hPc : va_P (dC, dI) vwCl ([((h 2), .inl ((kc 2), 30, .inl f2))]) _ := hP.sub [2] rfl
          have hKc : va_K (dC, dI) vwCl ([((kc 2), .int)]) s := hK.sub [1] rfl
          refine va_calli (va_runS (As := [.ref (h 2), .int (nI i)]) (rest := []) ⟨hx, hb, hml, hown, hts⟩ (c_X0_at l dC dI (h 2) (kc 2) 30 f2 (nI i) (by decide)) (va_cwS 2 hts gX0_linkAllBut_X0_at rfl rfl rfl (by decide +kernel) ⟨Nat.le_of_ble_eq_true rfl, Nat.le_of_ble_eq_true rfl⟩) ⟨gcPR_blind, fun U hU hW => ⟨rfl, by rw [hU]; exact hPc, va_K.moved hW.alike hKc⟩⟩ rfl rfl hl.1 rfl (lv_room (Nat.le_of_ble_eq_true rfl)) dX0_linkAllBut_61 ⟨Nat.zero_le _, Nat.zero_le _⟩) hS (fun q _ h => h.elim) (fun q h => h.elim) (fun r3 u t H locs ht hvm hw hB hz1 hk1 hS => ?_)
          have hP := gc_keep hP hk1
          have hw : r3 = gAt 30 f2 (nI i) := hw
          subst hw
          clear hw
          clear hB hz1 hk1 ht hvm
          clear hPc hKc
          refine lv_istore (lv' := [(5, .int (gAt 30 f2 (nI i))), (4, .int (gAt 30 f1 (nI i))), (3, .int (nI i)), (0, .ref (h 0)), (1, .int left), (2, .ref (h 3))]) hx hb dX0_linkAllBut_64 hl (by decide) rfl (fun ls hl => ?_)
          refine lv_aload_n hx hb dX0_linkAllBut_66 rfl (lv_at hl 5 rfl) ?_
          refine lv_iload hx hb dX0_linkAllBut_67 (lv_at hl 1 rfl) ?_
          refine lv_iload hx hb dX0_linkAllBut_69 (lv_at hl 0 rfl) ?_
          have hPc : va_P (dC, dI) vwCl ([((h 3), .inl ((kc 3), 20, .inl fb))]) _ := hP.sub [3] rfl
          have hKc : va_K (dC, dI) vwCl ([((kc 3), .int)]) s := hK.sub [2] rfl
          have hDc : va_D A ([((h 3), .inl ((kc 3), 20, .inl fb))]) := hD.sub [3] (by decide) rfl
          have hFc := va_free (wc := ([((h 3), .inl ((kc 3), 20, .inl fb))])) hD hS hA [3] rfl
          refine va_callv (va_runS (As := [.ref (h 3), .int (gAt 30 f1 (nI i)), .int (gAt 30 f2 (nI i))]) (rest := []) ⟨hx, hb, hml, hown, hts⟩ (c_X0_link l dC dI (h 3) (kc 3) 20 fb (gAt 30 f1 (nI i)) (gAt 30 f2 (nI i)) H.size (by decide)) (va_cwS 3 hts gX0_linkAllBut_X0_link rfl rfl rfl (by decide +kernel) ⟨Nat.le_of_ble_eq_true rfl, Nat.le_of_ble_eq_true rfl⟩) ⟨gcPM_blind, fun U hU hW => ⟨rfl, by rw [hU], by rw [hU]; exact hPc, va_K.moved hW.alike hKc, hDc.weaken (fun _ _ _ _ => trivial)⟩⟩ rfl rfl hl.1 rfl (lv_room (Nat.le_of_ble_eq_true rfl)) dX0_linkAllBut_71 ⟨Nat.zero_le _, Nat.zero_le _⟩) hS (fun q _ h => hFc q h) hFc (fun u t H locs ht hvm hw hB hz1 hk1 hS => ?_)
          obtain ⟨hP1, hD1⟩ := hB
          rw [ht] at hP1
          obtain ⟨hP, hD⟩ := va_join (wr := [(h 0, .inr (0, [.ref (h 1), .ref (h 2), .ref (h 3), .ref (h 4), .ref (h 5), .ref (h 6), .int (nI g), .int (nI r), .int inf, .int (nI ct)])), (h 1, .inl (kc 1, 30, .inl f1)), (h 2, .inl (kc 2, 30, .inl f2)), (h 4, .inl (kc 4, 20, .inl cl)), (h 5, .inl (kc 5, 20, .inl tr)), (h 6, .inl (kc 6, 1024, .inl se))]) (w1 := ([((h 3), .inl ((kc 3), 20, .inl (gLink 20 fb (gAt 30 f1 (nI i)) (gAt 30 f2 (nI i)))))])) hP hD [3] [0, 1, 2, 4, 5, 6] rfl rfl (by decide) (by decide) hk1 hFc hP1 hD1
          have hP : va_P (dC, dI) vwCl (gcW h kc f1 f2 (gLink 20 fb (gAt 30 f1 (nI i)) (gAt 30 f2 (nI i))) cl tr se (nI g) (nI r) inf (nI ct)) H := hP.sub [0, 1, 2, 6, 3, 4, 5] rfl
          have hD : va_D A (gcW h kc f1 f2 (gLink 20 fb (gAt 30 f1 (nI i)) (gAt 30 f2 (nI i))) cl tr se (nI g) (nI r) inf (nI ct)) := hD.sub [0, 1, 2, 6, 3, 4, 5] (by decide) rfl
          clear hz1 hk1 ht hvm hP1 hD1 hFc hDc
          clear hPc hKc
          refine lv_aload_n hx hb dX0_linkAllBut_74 rfl (lv_at hl 5 rfl) ?_
          refine lv_iload hx hb dX0_linkAllBut_75 (lv_at hl 0 rfl) ?_
          refine va_calli (va_runS (As := [.int (gAt 30 f2 (nI i))]) (rest := [.ref (h 3)]) ⟨hx, hb, hml, hown, hts⟩ (c_X0_against l (gAt 30 f2 (nI i))) (va_cwS 1 hts gX0_linkAllBut_X0_against rfl rfl rfl (by decide +kernel) ⟨Nat.le_of_ble_eq_true rfl, Nat.le_of_ble_eq_true rfl⟩) ⟨fun a U g mk q => q, fun U hU hW => ⟨rfl, trivial⟩⟩ rfl rfl hl.1 rfl (lv_room (Nat.le_of_ble_eq_true rfl)) dX0_linkAllBut_77 ⟨Nat.zero_le _, Nat.zero_le _⟩) hS (fun q _ h => h.elim) (fun q h => h.elim) (fun r5 u t H locs ht hvm hw hB hz1 hk1 hS => ?_)
          have hP := gc_keep hP hk1
          have hw : r5 = ((gAt 30 f2 (nI i)) ^^^ 1) := hw
          subst hw
          clear hw
          clear hB hz1 hk1 ht hvm
          refine lv_iload hx hb dX0_linkAllBut_80 (lv_at hl 1 rfl) ?_
          refine va_calli (va_runS (As := [.int (gAt 30 f1 (nI i))]) (rest := [.int ((gAt 30 f2 (nI i)) ^^^ 1), .ref (h 3)]) ⟨hx, hb, hml, hown, hts⟩ (c_X0_against l (gAt 30 f1 (nI i))) (va_cwS 1 hts gX0_linkAllBut_X0_against rfl rfl rfl (by decide +kernel) ⟨Nat.le_of_ble_eq_true rfl, Nat.le_of_ble_eq_true rfl⟩) ⟨fun a U g mk q => q, fun U hU hW => ⟨rfl, trivial⟩⟩ rfl rfl hl.1 rfl (lv_room (Nat.le_of_ble_eq_true rfl)) dX0_linkAllBut_82 ⟨Nat.zero_le _, Nat.zero_le _⟩) hS (fun q _ h => h.elim) (fun q h => h.elim) (fun r6 u t H locs ht hvm hw hB hz1 hk1 hS => ?_)
          have hP := gc_keep hP hk1
          have hw : r6 = ((gAt 30 f1 (nI i)) ^^^ 1) := hw
          subst hw
          clear hw
          clear hB hz1 hk1 ht hvm
          have hPc : va_P (dC, dI) vwCl ([((h 3), .inl ((kc 3), 20, .inl (gLink 20 fb (gAt 30 f1 (nI i)) (gAt 30 f2 (nI i)))))]) _ := hP.sub [3] rfl
          have hKc : va_K (dC, dI) vwCl ([((kc 3), .int)]) s := hK.sub [2] rfl
          have hDc : va_D A ([((h 3), .inl ((kc 3), 20, .inl (gLink 20 fb (gAt 30 f1 (nI i)) (gAt 30 f2 (nI i)))))]) := hD.sub [3] (by decide) rfl
          have hFc := va_free (wc := ([((h 3), .inl ((kc 3), 20, .inl (gLink 20 fb (gAt 30 f1 (nI i)) (gAt 30 f2 (nI i)))))])) hD hS hA [3] rfl
          refine va_callv (va_runS (As := [.ref (h 3), .int ((gAt 30 f2 (nI i)) ^^^ 1), .int ((gAt 30 f1 (nI i)) ^^^ 1)]) (rest := []) ⟨hx, hb, hml, hown, hts⟩ (c_X0_link l dC dI (h 3) (kc 3) 20 (gLink 20 fb (gAt 30 f1 (nI i)) (gAt 30 f2 (nI i))) ((gAt 30 f2 (nI i)) ^^^ 1) ((gAt 30 f1 (nI i)) ^^^ 1) H.size (by decide)) (va_cwS 3 hts gX0_linkAllBut_X0_link rfl rfl rfl (by decide +kernel) ⟨Nat.le_of_ble_eq_true rfl, Nat.le_of_ble_eq_true rfl⟩) ⟨gcPM_blind, fun U hU hW => ⟨rfl, by rw [hU], by rw [hU]; exact hPc, va_K.moved hW.alike hKc, hDc.weaken (fun _ _ _ _ => trivial)⟩⟩ rfl rfl hl.1 rfl (lv_room (Nat.le_of_ble_eq_true rfl)) dX0_linkAllBut_85 ⟨Nat.zero_le _, Nat.zero_le _⟩) hS (fun q _ h => hFc q h) hFc (fun u t H locs ht hvm hw hB hz1 hk1 hS => ?_)
          obtain ⟨hP1, hD1⟩ := hB
          rw [ht] at hP1
          obtain ⟨hP, hD⟩ := va_join (wr := [(h 0, .inr (0, [.ref (h 1), .ref (h 2), .ref (h 3), .ref (h 4), .ref (h 5), .ref (h 6), .int (nI g), .int (nI r), .int inf, .int (nI ct)])), (h 1, .inl (kc 1, 30, .inl f1)), (h 2, .inl (kc 2, 30, .inl f2)), (h 4, .inl (kc 4, 20, .inl cl)), (h 5, .inl (kc 5, 20, .inl tr)), (h 6, .inl (kc 6, 1024, .inl se))]) (w1 := ([((h 3), .inl ((kc 3), 20, .inl (gLink 20 (gLink 20 fb (gAt 30 f1 (nI i)) (gAt 30 f2 (nI i))) ((gAt 30 f2 (nI i)) ^^^ 1) ((gAt 30 f1 (nI i)) ^^^ 1))))])) hP hD [3] [0, 1, 2, 4, 5, 6] rfl rfl (by decide) (by decide) hk1 hFc hP1 hD1
          have hP : va_P (dC, dI) vwCl (gcW h kc f1 f2 (gLink 20 (gLink 20 fb (gAt 30 f1 (nI i)) (gAt 30 f2 (nI i))) ((gAt 30 f2 (nI i)) ^^^ 1) ((gAt 30 f1 (nI i)) ^^^ 1)) cl tr se (nI g) (nI r) inf (nI ct)) H := hP.sub [0, 1, 2, 6, 3, 4, 5] rfl
          have hD : va_D A (gcW h kc f1 f2 (gLink 20 (gLink 20 fb (gAt 30 f1 (nI i)) (gAt 30 f2 (nI i))) ((gAt 30 f2 (nI i)) ^^^ 1) ((gAt 30 f1 (nI i)) ^^^ 1)) cl tr se (nI g) (nI r) inf (nI ct)) := hD.sub [0, 1, 2, 6, 3, 4, 5] (by decide) rfl
          clear hz1 hk1 ht hvm hP1 hD1 hFc hDc
          clear hPc hKc
          refine lv_iinc (v := nI (i + 1)) (lv' := [(3, .int (nI (i + 1))), (5, .int (gAt 30 f2 (nI i))), (4, .int (gAt 30 f1 (nI i))), (0, .ref (h 0)), (1, .int left), (2, .ref (h 3))]) hx hb dX0_linkAllBut_88 hl (k := 2) rfl (nI_1 i) (by decide) rfl (fun ls hl => ?_)
          refine lv_goto (tgt := 22) hx hb dX0_linkAllBut_91 (by decide) ?_
          exact ihi H _ ls (by omega) ⟨(gLink 20 (gLink 20 fb (gAt 30 f1 (nI i)) (gAt 30 f2 (nI i))) ((gAt 30 f2 (nI i)) ^^^ 1) ((gAt 30 f1 (nI i)) ^^^ 1)), (by simp only [gLk, ← e_fb]; simp [gLk, c_32, c_43]), hP, hD, hS, lv_sub hl [0, 3, 4, 5] rfl⟩
  · skip
    have hLa : a < 20 := gc_lt c_5 (by omega) (by omega)
    refine lv_aload_n hx hb dX0_linkAllBut_8 rfl (lv_at hl 3 rfl) ?_
    refine lv_iload_n hx hb dX0_linkAllBut_9 rfl (lv_at hl 0 rfl) ?_
    refine lv_iconst (v := 1) hx hb dX0_linkAllBut_10 (by decide) ?_
    refine lv_iload_n hx hb dX0_linkAllBut_11 rfl (lv_at hl 0 rfl) ?_
    refine lv_ishl hx hb dX0_linkAllBut_12 ?_
    refine va_iast hx hb hK hP hD hS 3 2 rfl rfl (vp_in_nI (n := a) (by omega) (by decide)) dX0_linkAllBut_13 (fun H locs hP hD hS => ?_)
    rw [nI_clamp (n := a) (by omega)] at hP hD
    have hP : va_P (dC, dI) vwCl (gcW h kc f1 f2 (upd fa a ((1 : Int32) <<< (nI a &&& 31))) cl tr se (nI g) (nI r) inf (nI ct)) H := hP
    have hD : va_D A (gcW h kc f1 f2 (upd fa a ((1 : Int32) <<< (nI a &&& 31))) cl tr se (nI g) (nI r) inf (nI ct)) := hD
    refine lv_iinc (v := nI (a + 1)) (lv' := [(3, .int (nI (a + 1))), (0, .ref (h 0)), (1, .int left), (2, .ref (h 3))]) hx hb dX0_linkAllBut_14 hl (k := 0) rfl (nI_1 a) (by decide) rfl (fun ls hl => ?_)
    refine lv_goto (tgt := 2) hx hb dX0_linkAllBut_17 (by decide) ?_
    exact iha H _ ls (by omega) ⟨(upd fa a ((1 : Int32) <<< (nI a &&& 31))), (by rw [e_fa]; rfl), hP, hD, hS, lv_sub hl [0, 1, 2, 3] rfl⟩
set_option maxHeartbeats 4000000 in
set_option maxRecDepth 100000 in
theorem c_X0_linkAllBut_cl (l : Launch) (dC : Nat → ClassId) (dI : Nat → Nat → Nat) (h : Nat → Nat) (kc : Nat → ClassId) (f1 : Nat → Int32) (f2 : Nat → Int32) (dr : Nat → Int32) (cl : Nat → Int32) (tr : Nat → Int32) (se : Nat → Int32) (g : Nat) (r : Nat) (inf : Int32) (ct : Nat) (left : Int32) (sz : Nat) (hr30 : r ≤ 30) : Met l yX0_linkAllBut wsX0_linkAllBut ({ frames := 2, cells := 0, slots := 0, locals := 44 }) (gcPM (dC, dI) [.ref (h 0), .int left, .ref (h 4)] (gcW h kc f1 f2 dr cl tr se (nI g) (nI r) inf (nI ct)) (gcT kc) sz) (va_Qv (fun (_u : Unit) => True) (fun _u t9 => va_P (dC, dI) vwCl (gcW h kc f1 f2 dr (gLA f1 f2 inf left r cl) tr se (nI g) (nI r) inf (nI ct)) t9.heap ∧ va_D (va_A (gcW h kc f1 f2 dr cl tr se (nI g) (nI r) inf (nI ct)) sz) (gcW h kc f1 f2 dr (gLA f1 f2 inf left r cl) tr se (nI g) (nI r) inf (nI ct))) (va_A (gcW h kc f1 f2 dr cl tr se (nI g) (nI r) inf (nI ct)) sz)) 0 0 (va_A (gcW h kc f1 f2 dr cl tr se (nI g) (nI r) inf (nI ct)) sz) := by
  refine Met.ofW (cc := cX0_linkAllBut) (maxL := 6) (ret := none) (by decide) rfl ?_
  intro p e s m args below meth c s₁ B hml hv
  obtain ⟨rfl, hsz, hP, hK, hD0⟩ := hv
  have hx := B.exec
  have hb := B.bytes
  have hr := B.returns
  have hts := atoms_spec (ws := wsX0_linkAllBut) B.pre
  have hown : s.vm.findClass RX0 = some m.cls := findClass_of_methodNamed B.named
  have hlocks := B.notSynchronized
  subst hsz
  have hD := hD0.self (sz := s.heap.size)
  generalize hAe : va_A (gcW h kc f1 f2 dr cl tr se (nI g) (nI r) inf (nI ct)) s.heap.size = A at hD ⊢
  have hA : ∀ q : Nat, s.heap.size ≤ q → A q := fun q h => by rw [← hAe]; exact Or.inr h
  have hS : va_S A s.heap s.heap [] := va_S.rf
  have hP : va_P (dC, dI) vwCl (gcW h kc f1 f2 dr cl tr se (nI g) (nI r) inf (nI ct)) s.heap := hP
  have hin0 : ∀ w ∈ wsX00, w ∈ wsX0_linkAllBut := by decide +kernel
  have hl := lv_entry [.ref (h 0), .int left, .ref (h 4)] (n := 6) (Nat.le_of_ble_eq_true rfl)
  rw [lg_entry_eq]
  generalize (lg_sl [.ref (h 0), .int left, .ref (h 4)] ++ List.replicate (6 - (lg_sl [.ref (h 0), .int left, .ref (h 4)]).length) Slot.unset).toArray = ls at hl ⊢
  have hl : lv_has ls 6 [(0, .ref (h 0)), (1, .int left), (2, .ref (h 4))] := hl
  refine lv_iconst (v := 0) hx hb dX0_linkAllBut_0 (by decide) ?_
  refine lv_istore_n (lv' := [(3, .int 0), (0, .ref (h 0)), (1, .int left), (2, .ref (h 4))]) hx hb dX0_linkAllBut_1 rfl hl (by decide) rfl (fun ls hl => ?_)
  refine gc_loop (20) (fun (a : Nat) (H : Heap) (locs : List Loc) (ls : Array Slot) => ∃ (fa : Nat → Int32), fa = gIn cl a ∧ va_P (dC, dI) vwCl (gcW h kc f1 f2 dr fa tr se (nI g) (nI r) inf (nI ct)) H ∧ va_D A (gcW h kc f1 f2 dr fa tr se (nI g) (nI r) inf (nI ct)) ∧ va_S A s.heap H locs ∧ lv_has ls 6 [(3, .int (nI a)), (0, .ref (h 0)), (1, .int left), (2, .ref (h 4))]) 0 (Nat.zero_le _) ⟨cl, (by first | rfl | assumption | omega), hP, hD, hS, lv_sub hl [0, 1, 2, 3] rfl⟩ ?_
  intro a H locs ls ha hI iha
  obtain ⟨fa, e_fa, hP, hD, hS, hl⟩ := hI
  refine lv_iload_n hx hb dX0_linkAllBut_2 rfl (lv_at hl 0 rfl) ?_
  refine lv_aload_n hx hb dX0_linkAllBut_3 rfl (lv_at hl 3 rfl) ?_
  refine va_alen hx hb hK hP 4 3 rfl rfl (v := nI 20) rfl dX0_linkAllBut_4 ?_
  refine lv_icmp_ge (tgt := 20) hx hb dX0_linkAllBut_5 (by decide) (fun c_5 => ?_) (fun c_5 => ?_)
  · skip
    have hEa : a = 20 := gc_ge c_5 (by omega) (by omega)
    refine lv_iconst (v := 0) hx hb dX0_linkAllBut_20 (by decide) ?_
    refine lv_istore_n (lv' := [(3, .int 0), (0, .ref (h 0)), (1, .int left), (2, .ref (h 4))]) hx hb dX0_linkAllBut_21 rfl hl (by decide) rfl (fun ls hl => ?_)
    refine gc_loop (r) (fun (i : Nat) (H : Heap) (locs : List Loc) (ls : Array Slot) => ∃ (fb : Nat → Int32), fb = gLk f1 f2 inf left (gIn cl 20) i ∧ va_P (dC, dI) vwCl (gcW h kc f1 f2 dr fb tr se (nI g) (nI r) inf (nI ct)) H ∧ va_D A (gcW h kc f1 f2 dr fb tr se (nI g) (nI r) inf (nI ct)) ∧ va_S A s.heap H locs ∧ lv_has ls 6 [(3, .int (nI i)), (0, .ref (h 0)), (1, .int left), (2, .ref (h 4))]) 0 (Nat.zero_le _) ⟨fa, (by rw [e_fa, hEa]; rfl), hP, hD, hS, lv_sub hl [0, 1, 2, 3] rfl⟩ ?_
    intro i H locs ls hi hI ihi
    obtain ⟨fb, e_fb, hP, hD, hS, hl⟩ := hI
    refine lv_iload_n hx hb dX0_linkAllBut_22 rfl (lv_at hl 0 rfl) ?_
    refine lv_aload_n hx hb dX0_linkAllBut_23 rfl (lv_at hl 1 rfl) ?_
    refine va_get (D := (dC, dI)) (ci := 0) (v := .int (nI r)) (C := RX0) (T := TX0) (N := 10) hx hb hts hin0 hown hK hP 0 rfl rfl 7 (by decide) (hts (.fieldLink RX0 51 "GuestChairs" "ruleCount" "I") (by decide +kernel)) (fun _ h9 => h9) rfl dX0_linkAllBut_24 ?_
    refine lv_icmp_ge (tgt := 94) hx hb dX0_linkAllBut_27 (by decide) (fun c_27 => ?_) (fun c_27 => ?_)
    · skip
      have hEi : i = r := gc_ge c_27 (by omega) (by omega)
      have hWe : ((gcW h kc f1 f2 dr fb tr se (nI g) (nI r) inf (nI ct)) : va_W) = (gcW h kc f1 f2 dr (gLA f1 f2 inf left r cl) tr se (nI g) (nI r) inf (nI ct)) := by rw [e_fb, hEi]; rfl
      rw [hWe] at hP hD
      exact W.vret hx hb hr (fun t ht hW => ⟨⟨(), rfl, trivial, ⟨by rw [ht]; exact hP, hD⟩⟩, hS.F ht⟩) hS.2.2 dX0_linkAllBut_94
    · skip
      have hLi : i < r := gc_lt c_27 (by omega) (by omega)
      refine lv_iload_n hx hb dX0_linkAllBut_30 rfl (lv_at hl 0 rfl) ?_
      refine lv_iload_n hx hb dX0_linkAllBut_31 rfl (lv_at hl 2 rfl) ?_
      refine lv_icmp_eq (tgt := 88) hx hb dX0_linkAllBut_32 (by decide) (fun c_32 => ?_) (fun c_32 => ?_)
      · skip
        refine lv_iinc (v := nI (i + 1)) (lv' := [(3, .int (nI (i + 1))), (0, .ref (h 0)), (1, .int left), (2, .ref (h 4))]) hx hb dX0_linkAllBut_88 hl (k := 0) rfl (nI_1 i) (by decide) rfl (fun ls hl => ?_)
        refine lv_goto (tgt := 22) hx hb dX0_linkAllBut_91 (by decide) ?_
        exact ihi H _ ls (by omega) ⟨fb, (by simp only [gLk, ← e_fb]; simp [gLk, c_32]), hP, hD, hS, lv_sub hl [0, 1, 2, 3] rfl⟩
      · skip
        refine lv_aload_n hx hb dX0_linkAllBut_35 rfl (lv_at hl 1 rfl) ?_
        refine va_get (D := (dC, dI)) (ci := 0) (v := .int inf) (C := RX0) (T := TX0) (N := 10) hx hb hts hin0 hown hK hP 0 rfl rfl 8 (by decide) (hts (.fieldLink RX0 60 "GuestChairs" "inForce" "I") (by decide +kernel)) (fun _ h9 => h9) rfl dX0_linkAllBut_36 ?_
        refine lv_iload_n hx hb dX0_linkAllBut_39 rfl (lv_at hl 0 rfl) ?_
        refine va_calli (va_runS (As := [.int inf, .int (nI i)]) (rest := []) ⟨hx, hb, hml, hown, hts⟩ (c_X0_has l inf (nI i)) (va_cwS 2 hts gX0_linkAllBut_X0_has rfl rfl rfl (by decide +kernel) ⟨Nat.le_of_ble_eq_true rfl, Nat.le_of_ble_eq_true rfl⟩) ⟨fun a U g mk q => q, fun U hU hW => ⟨rfl, trivial⟩⟩ rfl rfl hl.1 rfl (lv_room (Nat.le_of_ble_eq_true rfl)) dX0_linkAllBut_40 ⟨Nat.zero_le _, Nat.zero_le _⟩) hS (fun q _ h => h.elim) (fun q h => h.elim) (fun r1 u t H locs ht hvm hw hB hz1 hk1 hS => ?_)
        have hP := gc_keep hP hk1
        have hw : r1 = gB (gHas inf (nI i)) := hw
        subst hw
        clear hw
        clear hB hz1 hk1 ht hvm
        refine lv_if_eq (tgt := 88) hx hb dX0_linkAllBut_43 (by decide) (fun c_43 => ?_) (fun c_43 => ?_)
        · skip
          have c_43 := gB_f c_43
          refine lv_iinc (v := nI (i + 1)) (lv' := [(3, .int (nI (i + 1))), (0, .ref (h 0)), (1, .int left), (2, .ref (h 4))]) hx hb dX0_linkAllBut_88 hl (k := 0) rfl (nI_1 i) (by decide) rfl (fun ls hl => ?_)
          refine lv_goto (tgt := 22) hx hb dX0_linkAllBut_91 (by decide) ?_
          exact ihi H _ ls (by omega) ⟨fb, (by simp only [gLk, ← e_fb]; simp [gLk, c_32, c_43]), hP, hD, hS, lv_sub hl [0, 1, 2, 3] rfl⟩
        · skip
          have c_43 := gB_t c_43
          refine lv_aload_n hx hb dX0_linkAllBut_46 rfl (lv_at hl 1 rfl) ?_
          refine va_get (D := (dC, dI)) (ci := 0) (v := .ref (h 1)) (C := RX0) (T := TX0) (N := 10) hx hb hts hin0 hown hK hP 0 rfl rfl 0 (by decide) (hts (.fieldLink RX0 9 "GuestChairs" "firsts" "[I") (by decide +kernel)) (fun _ h9 => h9) rfl dX0_linkAllBut_47 ?_
          refine lv_iload_n hx hb dX0_linkAllBut_50 rfl (lv_at hl 0 rfl) ?_
          have hPc : va_P (dC, dI) vwCl ([((h 1), .inl ((kc 1), 30, .inl f1))]) _ := hP.sub [1] rfl
          have hKc : va_K (dC, dI) vwCl ([((kc 1), .int)]) s := hK.sub [0] rfl
          refine va_calli (va_runS (As := [.ref (h 1), .int (nI i)]) (rest := []) ⟨hx, hb, hml, hown, hts⟩ (c_X0_at l dC dI (h 1) (kc 1) 30 f1 (nI i) (by decide)) (va_cwS 2 hts gX0_linkAllBut_X0_at rfl rfl rfl (by decide +kernel) ⟨Nat.le_of_ble_eq_true rfl, Nat.le_of_ble_eq_true rfl⟩) ⟨gcPR_blind, fun U hU hW => ⟨rfl, by rw [hU]; exact hPc, va_K.moved hW.alike hKc⟩⟩ rfl rfl hl.1 rfl (lv_room (Nat.le_of_ble_eq_true rfl)) dX0_linkAllBut_51 ⟨Nat.zero_le _, Nat.zero_le _⟩) hS (fun q _ h => h.elim) (fun q h => h.elim) (fun r2 u t H locs ht hvm hw hB hz1 hk1 hS => ?_)
          have hP := gc_keep hP hk1
          have hw : r2 = gAt 30 f1 (nI i) := hw
          subst hw
          clear hw
          clear hB hz1 hk1 ht hvm
          clear hPc hKc
          refine lv_istore (lv' := [(4, .int (gAt 30 f1 (nI i))), (3, .int (nI i)), (0, .ref (h 0)), (1, .int left), (2, .ref (h 4))]) hx hb dX0_linkAllBut_54 hl (by decide) rfl (fun ls hl => ?_)
          refine lv_aload_n hx hb dX0_linkAllBut_56 rfl (lv_at hl 2 rfl) ?_
          refine va_get (D := (dC, dI)) (ci := 0) (v := .ref (h 2)) (C := RX0) (T := TX0) (N := 10) hx hb hts hin0 hown hK hP 0 rfl rfl 1 (by decide) (hts (.fieldLink RX0 13 "GuestChairs" "seconds" "[I") (by decide +kernel)) (fun _ h9 => h9) rfl dX0_linkAllBut_57 ?_
          refine lv_iload_n hx hb dX0_linkAllBut_60 rfl (lv_at hl 1 rfl) ?_
          have hPc : va_P (dC, dI) vwCl ([((h 2), .inl ((kc 2), 30, .inl f2))]) _ := hP.sub [2] rfl
          have hKc : va_K (dC, dI) vwCl ([((kc 2), .int)]) s := hK.sub [1] rfl
          refine va_calli (va_runS (As := [.ref (h 2), .int (nI i)]) (rest := []) ⟨hx, hb, hml, hown, hts⟩ (c_X0_at l dC dI (h 2) (kc 2) 30 f2 (nI i) (by decide)) (va_cwS 2 hts gX0_linkAllBut_X0_at rfl rfl rfl (by decide +kernel) ⟨Nat.le_of_ble_eq_true rfl, Nat.le_of_ble_eq_true rfl⟩) ⟨gcPR_blind, fun U hU hW => ⟨rfl, by rw [hU]; exact hPc, va_K.moved hW.alike hKc⟩⟩ rfl rfl hl.1 rfl (lv_room (Nat.le_of_ble_eq_true rfl)) dX0_linkAllBut_61 ⟨Nat.zero_le _, Nat.zero_le _⟩) hS (fun q _ h => h.elim) (fun q h => h.elim) (fun r3 u t H locs ht hvm hw hB hz1 hk1 hS => ?_)
          have hP := gc_keep hP hk1
          have hw : r3 = gAt 30 f2 (nI i) := hw
          subst hw
          clear hw
          clear hB hz1 hk1 ht hvm
          clear hPc hKc
          refine lv_istore (lv' := [(5, .int (gAt 30 f2 (nI i))), (4, .int (gAt 30 f1 (nI i))), (3, .int (nI i)), (0, .ref (h 0)), (1, .int left), (2, .ref (h 4))]) hx hb dX0_linkAllBut_64 hl (by decide) rfl (fun ls hl => ?_)
          refine lv_aload_n hx hb dX0_linkAllBut_66 rfl (lv_at hl 5 rfl) ?_
          refine lv_iload hx hb dX0_linkAllBut_67 (lv_at hl 1 rfl) ?_
          refine lv_iload hx hb dX0_linkAllBut_69 (lv_at hl 0 rfl) ?_
          have hPc : va_P (dC, dI) vwCl ([((h 4), .inl ((kc 4), 20, .inl fb))]) _ := hP.sub [4] rfl
          have hKc : va_K (dC, dI) vwCl ([((kc 4), .int)]) s := hK.sub [3] rfl
          have hDc : va_D A ([((h 4), .inl ((kc 4), 20, .inl fb))]) := hD.sub [4] (by decide) rfl
          have hFc := va_free (wc := ([((h 4), .inl ((kc 4), 20, .inl fb))])) hD hS hA [4] rfl
          refine va_callv (va_runS (As := [.ref (h 4), .int (gAt 30 f1 (nI i)), .int (gAt 30 f2 (nI i))]) (rest := []) ⟨hx, hb, hml, hown, hts⟩ (c_X0_link l dC dI (h 4) (kc 4) 20 fb (gAt 30 f1 (nI i)) (gAt 30 f2 (nI i)) H.size (by decide)) (va_cwS 3 hts gX0_linkAllBut_X0_link rfl rfl rfl (by decide +kernel) ⟨Nat.le_of_ble_eq_true rfl, Nat.le_of_ble_eq_true rfl⟩) ⟨gcPM_blind, fun U hU hW => ⟨rfl, by rw [hU], by rw [hU]; exact hPc, va_K.moved hW.alike hKc, hDc.weaken (fun _ _ _ _ => trivial)⟩⟩ rfl rfl hl.1 rfl (lv_room (Nat.le_of_ble_eq_true rfl)) dX0_linkAllBut_71 ⟨Nat.zero_le _, Nat.zero_le _⟩) hS (fun q _ h => hFc q h) hFc (fun u t H locs ht hvm hw hB hz1 hk1 hS => ?_)
          obtain ⟨hP1, hD1⟩ := hB
          rw [ht] at hP1
          obtain ⟨hP, hD⟩ := va_join (wr := [(h 0, .inr (0, [.ref (h 1), .ref (h 2), .ref (h 3), .ref (h 4), .ref (h 5), .ref (h 6), .int (nI g), .int (nI r), .int inf, .int (nI ct)])), (h 1, .inl (kc 1, 30, .inl f1)), (h 2, .inl (kc 2, 30, .inl f2)), (h 3, .inl (kc 3, 20, .inl dr)), (h 5, .inl (kc 5, 20, .inl tr)), (h 6, .inl (kc 6, 1024, .inl se))]) (w1 := ([((h 4), .inl ((kc 4), 20, .inl (gLink 20 fb (gAt 30 f1 (nI i)) (gAt 30 f2 (nI i)))))])) hP hD [4] [0, 1, 2, 3, 5, 6] rfl rfl (by decide) (by decide) hk1 hFc hP1 hD1
          have hP : va_P (dC, dI) vwCl (gcW h kc f1 f2 dr (gLink 20 fb (gAt 30 f1 (nI i)) (gAt 30 f2 (nI i))) tr se (nI g) (nI r) inf (nI ct)) H := hP.sub [0, 1, 2, 3, 6, 4, 5] rfl
          have hD : va_D A (gcW h kc f1 f2 dr (gLink 20 fb (gAt 30 f1 (nI i)) (gAt 30 f2 (nI i))) tr se (nI g) (nI r) inf (nI ct)) := hD.sub [0, 1, 2, 3, 6, 4, 5] (by decide) rfl
          clear hz1 hk1 ht hvm hP1 hD1 hFc hDc
          clear hPc hKc
          refine lv_aload_n hx hb dX0_linkAllBut_74 rfl (lv_at hl 5 rfl) ?_
          refine lv_iload hx hb dX0_linkAllBut_75 (lv_at hl 0 rfl) ?_
          refine va_calli (va_runS (As := [.int (gAt 30 f2 (nI i))]) (rest := [.ref (h 4)]) ⟨hx, hb, hml, hown, hts⟩ (c_X0_against l (gAt 30 f2 (nI i))) (va_cwS 1 hts gX0_linkAllBut_X0_against rfl rfl rfl (by decide +kernel) ⟨Nat.le_of_ble_eq_true rfl, Nat.le_of_ble_eq_true rfl⟩) ⟨fun a U g mk q => q, fun U hU hW => ⟨rfl, trivial⟩⟩ rfl rfl hl.1 rfl (lv_room (Nat.le_of_ble_eq_true rfl)) dX0_linkAllBut_77 ⟨Nat.zero_le _, Nat.zero_le _⟩) hS (fun q _ h => h.elim) (fun q h => h.elim) (fun r5 u t H locs ht hvm hw hB hz1 hk1 hS => ?_)
          have hP := gc_keep hP hk1
          have hw : r5 = ((gAt 30 f2 (nI i)) ^^^ 1) := hw
          subst hw
          clear hw
          clear hB hz1 hk1 ht hvm
          refine lv_iload hx hb dX0_linkAllBut_80 (lv_at hl 1 rfl) ?_
          refine va_calli (va_runS (As := [.int (gAt 30 f1 (nI i))]) (rest := [.int ((gAt 30 f2 (nI i)) ^^^ 1), .ref (h 4)]) ⟨hx, hb, hml, hown, hts⟩ (c_X0_against l (gAt 30 f1 (nI i))) (va_cwS 1 hts gX0_linkAllBut_X0_against rfl rfl rfl (by decide +kernel) ⟨Nat.le_of_ble_eq_true rfl, Nat.le_of_ble_eq_true rfl⟩) ⟨fun a U g mk q => q, fun U hU hW => ⟨rfl, trivial⟩⟩ rfl rfl hl.1 rfl (lv_room (Nat.le_of_ble_eq_true rfl)) dX0_linkAllBut_82 ⟨Nat.zero_le _, Nat.zero_le _⟩) hS (fun q _ h => h.elim) (fun q h => h.elim) (fun r6 u t H locs ht hvm hw hB hz1 hk1 hS => ?_)
          have hP := gc_keep hP hk1
          have hw : r6 = ((gAt 30 f1 (nI i)) ^^^ 1) := hw
          subst hw
          clear hw
          clear hB hz1 hk1 ht hvm
          have hPc : va_P (dC, dI) vwCl ([((h 4), .inl ((kc 4), 20, .inl (gLink 20 fb (gAt 30 f1 (nI i)) (gAt 30 f2 (nI i)))))]) _ := hP.sub [4] rfl
          have hKc : va_K (dC, dI) vwCl ([((kc 4), .int)]) s := hK.sub [3] rfl
          have hDc : va_D A ([((h 4), .inl ((kc 4), 20, .inl (gLink 20 fb (gAt 30 f1 (nI i)) (gAt 30 f2 (nI i)))))]) := hD.sub [4] (by decide) rfl
          have hFc := va_free (wc := ([((h 4), .inl ((kc 4), 20, .inl (gLink 20 fb (gAt 30 f1 (nI i)) (gAt 30 f2 (nI i)))))])) hD hS hA [4] rfl
          refine va_callv (va_runS (As := [.ref (h 4), .int ((gAt 30 f2 (nI i)) ^^^ 1), .int ((gAt 30 f1 (nI i)) ^^^ 1)]) (rest := []) ⟨hx, hb, hml, hown, hts⟩ (c_X0_link l dC dI (h 4) (kc 4) 20 (gLink 20 fb (gAt 30 f1 (nI i)) (gAt 30 f2 (nI i))) ((gAt 30 f2 (nI i)) ^^^ 1) ((gAt 30 f1 (nI i)) ^^^ 1) H.size (by decide)) (va_cwS 3 hts gX0_linkAllBut_X0_link rfl rfl rfl (by decide +kernel) ⟨Nat.le_of_ble_eq_true rfl, Nat.le_of_ble_eq_true rfl⟩) ⟨gcPM_blind, fun U hU hW => ⟨rfl, by rw [hU], by rw [hU]; exact hPc, va_K.moved hW.alike hKc, hDc.weaken (fun _ _ _ _ => trivial)⟩⟩ rfl rfl hl.1 rfl (lv_room (Nat.le_of_ble_eq_true rfl)) dX0_linkAllBut_85 ⟨Nat.zero_le _, Nat.zero_le _⟩) hS (fun q _ h => hFc q h) hFc (fun u t H locs ht hvm hw hB hz1 hk1 hS => ?_)
          obtain ⟨hP1, hD1⟩ := hB
          rw [ht] at hP1
          obtain ⟨hP, hD⟩ := va_join (wr := [(h 0, .inr (0, [.ref (h 1), .ref (h 2), .ref (h 3), .ref (h 4), .ref (h 5), .ref (h 6), .int (nI g), .int (nI r), .int inf, .int (nI ct)])), (h 1, .inl (kc 1, 30, .inl f1)), (h 2, .inl (kc 2, 30, .inl f2)), (h 3, .inl (kc 3, 20, .inl dr)), (h 5, .inl (kc 5, 20, .inl tr)), (h 6, .inl (kc 6, 1024, .inl se))]) (w1 := ([((h 4), .inl ((kc 4), 20, .inl (gLink 20 (gLink 20 fb (gAt 30 f1 (nI i)) (gAt 30 f2 (nI i))) ((gAt 30 f2 (nI i)) ^^^ 1) ((gAt 30 f1 (nI i)) ^^^ 1))))])) hP hD [4] [0, 1, 2, 3, 5, 6] rfl rfl (by decide) (by decide) hk1 hFc hP1 hD1
          have hP : va_P (dC, dI) vwCl (gcW h kc f1 f2 dr (gLink 20 (gLink 20 fb (gAt 30 f1 (nI i)) (gAt 30 f2 (nI i))) ((gAt 30 f2 (nI i)) ^^^ 1) ((gAt 30 f1 (nI i)) ^^^ 1)) tr se (nI g) (nI r) inf (nI ct)) H := hP.sub [0, 1, 2, 3, 6, 4, 5] rfl
          have hD : va_D A (gcW h kc f1 f2 dr (gLink 20 (gLink 20 fb (gAt 30 f1 (nI i)) (gAt 30 f2 (nI i))) ((gAt 30 f2 (nI i)) ^^^ 1) ((gAt 30 f1 (nI i)) ^^^ 1)) tr se (nI g) (nI r) inf (nI ct)) := hD.sub [0, 1, 2, 3, 6, 4, 5] (by decide) rfl
          clear hz1 hk1 ht hvm hP1 hD1 hFc hDc
          clear hPc hKc
          refine lv_iinc (v := nI (i + 1)) (lv' := [(3, .int (nI (i + 1))), (5, .int (gAt 30 f2 (nI i))), (4, .int (gAt 30 f1 (nI i))), (0, .ref (h 0)), (1, .int left), (2, .ref (h 4))]) hx hb dX0_linkAllBut_88 hl (k := 2) rfl (nI_1 i) (by decide) rfl (fun ls hl => ?_)
          refine lv_goto (tgt := 22) hx hb dX0_linkAllBut_91 (by decide) ?_
          exact ihi H _ ls (by omega) ⟨(gLink 20 (gLink 20 fb (gAt 30 f1 (nI i)) (gAt 30 f2 (nI i))) ((gAt 30 f2 (nI i)) ^^^ 1) ((gAt 30 f1 (nI i)) ^^^ 1)), (by simp only [gLk, ← e_fb]; simp [gLk, c_32, c_43]), hP, hD, hS, lv_sub hl [0, 3, 4, 5] rfl⟩
  · skip
    have hLa : a < 20 := gc_lt c_5 (by omega) (by omega)
    refine lv_aload_n hx hb dX0_linkAllBut_8 rfl (lv_at hl 3 rfl) ?_
    refine lv_iload_n hx hb dX0_linkAllBut_9 rfl (lv_at hl 0 rfl) ?_
    refine lv_iconst (v := 1) hx hb dX0_linkAllBut_10 (by decide) ?_
    refine lv_iload_n hx hb dX0_linkAllBut_11 rfl (lv_at hl 0 rfl) ?_
    refine lv_ishl hx hb dX0_linkAllBut_12 ?_
    refine va_iast hx hb hK hP hD hS 4 3 rfl rfl (vp_in_nI (n := a) (by omega) (by decide)) dX0_linkAllBut_13 (fun H locs hP hD hS => ?_)
    rw [nI_clamp (n := a) (by omega)] at hP hD
    have hP : va_P (dC, dI) vwCl (gcW h kc f1 f2 dr (upd fa a ((1 : Int32) <<< (nI a &&& 31))) tr se (nI g) (nI r) inf (nI ct)) H := hP
    have hD : va_D A (gcW h kc f1 f2 dr (upd fa a ((1 : Int32) <<< (nI a &&& 31))) tr se (nI g) (nI r) inf (nI ct)) := hD
    refine lv_iinc (v := nI (a + 1)) (lv' := [(3, .int (nI (a + 1))), (0, .ref (h 0)), (1, .int left), (2, .ref (h 4))]) hx hb dX0_linkAllBut_14 hl (k := 0) rfl (nI_1 a) (by decide) rfl (fun ls hl => ?_)
    refine lv_goto (tgt := 2) hx hb dX0_linkAllBut_17 (by decide) ?_
    exact iha H _ ls (by omega) ⟨(upd fa a ((1 : Int32) <<< (nI a &&& 31))), (by rw [e_fa]; rfl), hP, hD, hS, lv_sub hl [0, 1, 2, 3] rfl⟩
set_option maxHeartbeats 4000000 in
set_option maxRecDepth 100000 in
theorem c_X0_linkAllBut_tr (l : Launch) (dC : Nat → ClassId) (dI : Nat → Nat → Nat) (h : Nat → Nat) (kc : Nat → ClassId) (f1 : Nat → Int32) (f2 : Nat → Int32) (dr : Nat → Int32) (cl : Nat → Int32) (tr : Nat → Int32) (se : Nat → Int32) (g : Nat) (r : Nat) (inf : Int32) (ct : Nat) (left : Int32) (sz : Nat) (hr30 : r ≤ 30) : Met l yX0_linkAllBut wsX0_linkAllBut ({ frames := 2, cells := 0, slots := 0, locals := 44 }) (gcPM (dC, dI) [.ref (h 0), .int left, .ref (h 5)] (gcW h kc f1 f2 dr cl tr se (nI g) (nI r) inf (nI ct)) (gcT kc) sz) (va_Qv (fun (_u : Unit) => True) (fun _u t9 => va_P (dC, dI) vwCl (gcW h kc f1 f2 dr cl (gLA f1 f2 inf left r tr) se (nI g) (nI r) inf (nI ct)) t9.heap ∧ va_D (va_A (gcW h kc f1 f2 dr cl tr se (nI g) (nI r) inf (nI ct)) sz) (gcW h kc f1 f2 dr cl (gLA f1 f2 inf left r tr) se (nI g) (nI r) inf (nI ct))) (va_A (gcW h kc f1 f2 dr cl tr se (nI g) (nI r) inf (nI ct)) sz)) 0 0 (va_A (gcW h kc f1 f2 dr cl tr se (nI g) (nI r) inf (nI ct)) sz) := by
  refine Met.ofW (cc := cX0_linkAllBut) (maxL := 6) (ret := none) (by decide) rfl ?_
  intro p e s m args below meth c s₁ B hml hv
  obtain ⟨rfl, hsz, hP, hK, hD0⟩ := hv
  have hx := B.exec
  have hb := B.bytes
  have hr := B.returns
  have hts := atoms_spec (ws := wsX0_linkAllBut) B.pre
  have hown : s.vm.findClass RX0 = some m.cls := findClass_of_methodNamed B.named
  have hlocks := B.notSynchronized
  subst hsz
  have hD := hD0.self (sz := s.heap.size)
  generalize hAe : va_A (gcW h kc f1 f2 dr cl tr se (nI g) (nI r) inf (nI ct)) s.heap.size = A at hD ⊢
  have hA : ∀ q : Nat, s.heap.size ≤ q → A q := fun q h => by rw [← hAe]; exact Or.inr h
  have hS : va_S A s.heap s.heap [] := va_S.rf
  have hP : va_P (dC, dI) vwCl (gcW h kc f1 f2 dr cl tr se (nI g) (nI r) inf (nI ct)) s.heap := hP
  have hin0 : ∀ w ∈ wsX00, w ∈ wsX0_linkAllBut := by decide +kernel
  have hl := lv_entry [.ref (h 0), .int left, .ref (h 5)] (n := 6) (Nat.le_of_ble_eq_true rfl)
  rw [lg_entry_eq]
  generalize (lg_sl [.ref (h 0), .int left, .ref (h 5)] ++ List.replicate (6 - (lg_sl [.ref (h 0), .int left, .ref (h 5)]).length) Slot.unset).toArray = ls at hl ⊢
  have hl : lv_has ls 6 [(0, .ref (h 0)), (1, .int left), (2, .ref (h 5))] := hl
  refine lv_iconst (v := 0) hx hb dX0_linkAllBut_0 (by decide) ?_
  refine lv_istore_n (lv' := [(3, .int 0), (0, .ref (h 0)), (1, .int left), (2, .ref (h 5))]) hx hb dX0_linkAllBut_1 rfl hl (by decide) rfl (fun ls hl => ?_)
  refine gc_loop (20) (fun (a : Nat) (H : Heap) (locs : List Loc) (ls : Array Slot) => ∃ (fa : Nat → Int32), fa = gIn tr a ∧ va_P (dC, dI) vwCl (gcW h kc f1 f2 dr cl fa se (nI g) (nI r) inf (nI ct)) H ∧ va_D A (gcW h kc f1 f2 dr cl fa se (nI g) (nI r) inf (nI ct)) ∧ va_S A s.heap H locs ∧ lv_has ls 6 [(3, .int (nI a)), (0, .ref (h 0)), (1, .int left), (2, .ref (h 5))]) 0 (Nat.zero_le _) ⟨tr, (by first | rfl | assumption | omega), hP, hD, hS, lv_sub hl [0, 1, 2, 3] rfl⟩ ?_
  intro a H locs ls ha hI iha
  obtain ⟨fa, e_fa, hP, hD, hS, hl⟩ := hI
  refine lv_iload_n hx hb dX0_linkAllBut_2 rfl (lv_at hl 0 rfl) ?_
  refine lv_aload_n hx hb dX0_linkAllBut_3 rfl (lv_at hl 3 rfl) ?_
  refine va_alen hx hb hK hP 5 4 rfl rfl (v := nI 20) rfl dX0_linkAllBut_4 ?_
  refine lv_icmp_ge (tgt := 20) hx hb dX0_linkAllBut_5 (by decide) (fun c_5 => ?_) (fun c_5 => ?_)
  · skip
    have hEa : a = 20 := gc_ge c_5 (by omega) (by omega)
    refine lv_iconst (v := 0) hx hb dX0_linkAllBut_20 (by decide) ?_
    refine lv_istore_n (lv' := [(3, .int 0), (0, .ref (h 0)), (1, .int left), (2, .ref (h 5))]) hx hb dX0_linkAllBut_21 rfl hl (by decide) rfl (fun ls hl => ?_)
    refine gc_loop (r) (fun (i : Nat) (H : Heap) (locs : List Loc) (ls : Array Slot) => ∃ (fb : Nat → Int32), fb = gLk f1 f2 inf left (gIn tr 20) i ∧ va_P (dC, dI) vwCl (gcW h kc f1 f2 dr cl fb se (nI g) (nI r) inf (nI ct)) H ∧ va_D A (gcW h kc f1 f2 dr cl fb se (nI g) (nI r) inf (nI ct)) ∧ va_S A s.heap H locs ∧ lv_has ls 6 [(3, .int (nI i)), (0, .ref (h 0)), (1, .int left), (2, .ref (h 5))]) 0 (Nat.zero_le _) ⟨fa, (by rw [e_fa, hEa]; rfl), hP, hD, hS, lv_sub hl [0, 1, 2, 3] rfl⟩ ?_
    intro i H locs ls hi hI ihi
    obtain ⟨fb, e_fb, hP, hD, hS, hl⟩ := hI
    refine lv_iload_n hx hb dX0_linkAllBut_22 rfl (lv_at hl 0 rfl) ?_
    refine lv_aload_n hx hb dX0_linkAllBut_23 rfl (lv_at hl 1 rfl) ?_
    refine va_get (D := (dC, dI)) (ci := 0) (v := .int (nI r)) (C := RX0) (T := TX0) (N := 10) hx hb hts hin0 hown hK hP 0 rfl rfl 7 (by decide) (hts (.fieldLink RX0 51 "GuestChairs" "ruleCount" "I") (by decide +kernel)) (fun _ h9 => h9) rfl dX0_linkAllBut_24 ?_
    refine lv_icmp_ge (tgt := 94) hx hb dX0_linkAllBut_27 (by decide) (fun c_27 => ?_) (fun c_27 => ?_)
    · skip
      have hEi : i = r := gc_ge c_27 (by omega) (by omega)
      have hWe : ((gcW h kc f1 f2 dr cl fb se (nI g) (nI r) inf (nI ct)) : va_W) = (gcW h kc f1 f2 dr cl (gLA f1 f2 inf left r tr) se (nI g) (nI r) inf (nI ct)) := by rw [e_fb, hEi]; rfl
      rw [hWe] at hP hD
      exact W.vret hx hb hr (fun t ht hW => ⟨⟨(), rfl, trivial, ⟨by rw [ht]; exact hP, hD⟩⟩, hS.F ht⟩) hS.2.2 dX0_linkAllBut_94
    · skip
      have hLi : i < r := gc_lt c_27 (by omega) (by omega)
      refine lv_iload_n hx hb dX0_linkAllBut_30 rfl (lv_at hl 0 rfl) ?_
      refine lv_iload_n hx hb dX0_linkAllBut_31 rfl (lv_at hl 2 rfl) ?_
      refine lv_icmp_eq (tgt := 88) hx hb dX0_linkAllBut_32 (by decide) (fun c_32 => ?_) (fun c_32 => ?_)
      · skip
        refine lv_iinc (v := nI (i + 1)) (lv' := [(3, .int (nI (i + 1))), (0, .ref (h 0)), (1, .int left), (2, .ref (h 5))]) hx hb dX0_linkAllBut_88 hl (k := 0) rfl (nI_1 i) (by decide) rfl (fun ls hl => ?_)
        refine lv_goto (tgt := 22) hx hb dX0_linkAllBut_91 (by decide) ?_
        exact ihi H _ ls (by omega) ⟨fb, (by simp only [gLk, ← e_fb]; simp [gLk, c_32]), hP, hD, hS, lv_sub hl [0, 1, 2, 3] rfl⟩
      · skip
        refine lv_aload_n hx hb dX0_linkAllBut_35 rfl (lv_at hl 1 rfl) ?_
        refine va_get (D := (dC, dI)) (ci := 0) (v := .int inf) (C := RX0) (T := TX0) (N := 10) hx hb hts hin0 hown hK hP 0 rfl rfl 8 (by decide) (hts (.fieldLink RX0 60 "GuestChairs" "inForce" "I") (by decide +kernel)) (fun _ h9 => h9) rfl dX0_linkAllBut_36 ?_
        refine lv_iload_n hx hb dX0_linkAllBut_39 rfl (lv_at hl 0 rfl) ?_
        refine va_calli (va_runS (As := [.int inf, .int (nI i)]) (rest := []) ⟨hx, hb, hml, hown, hts⟩ (c_X0_has l inf (nI i)) (va_cwS 2 hts gX0_linkAllBut_X0_has rfl rfl rfl (by decide +kernel) ⟨Nat.le_of_ble_eq_true rfl, Nat.le_of_ble_eq_true rfl⟩) ⟨fun a U g mk q => q, fun U hU hW => ⟨rfl, trivial⟩⟩ rfl rfl hl.1 rfl (lv_room (Nat.le_of_ble_eq_true rfl)) dX0_linkAllBut_40 ⟨Nat.zero_le _, Nat.zero_le _⟩) hS (fun q _ h => h.elim) (fun q h => h.elim) (fun r1 u t H locs ht hvm hw hB hz1 hk1 hS => ?_)
        have hP := gc_keep hP hk1
        have hw : r1 = gB (gHas inf (nI i)) := hw
        subst hw
        clear hw
        clear hB hz1 hk1 ht hvm
        refine lv_if_eq (tgt := 88) hx hb dX0_linkAllBut_43 (by decide) (fun c_43 => ?_) (fun c_43 => ?_)
        · skip
          have c_43 := gB_f c_43
          refine lv_iinc (v := nI (i + 1)) (lv' := [(3, .int (nI (i + 1))), (0, .ref (h 0)), (1, .int left), (2, .ref (h 5))]) hx hb dX0_linkAllBut_88 hl (k := 0) rfl (nI_1 i) (by decide) rfl (fun ls hl => ?_)
          refine lv_goto (tgt := 22) hx hb dX0_linkAllBut_91 (by decide) ?_
          exact ihi H _ ls (by omega) ⟨fb, (by simp only [gLk, ← e_fb]; simp [gLk, c_32, c_43]), hP, hD, hS, lv_sub hl [0, 1, 2, 3] rfl⟩
        · skip
          have c_43 := gB_t c_43
          refine lv_aload_n hx hb dX0_linkAllBut_46 rfl (lv_at hl 1 rfl) ?_
          refine va_get (D := (dC, dI)) (ci := 0) (v := .ref (h 1)) (C := RX0) (T := TX0) (N := 10) hx hb hts hin0 hown hK hP 0 rfl rfl 0 (by decide) (hts (.fieldLink RX0 9 "GuestChairs" "firsts" "[I") (by decide +kernel)) (fun _ h9 => h9) rfl dX0_linkAllBut_47 ?_
          refine lv_iload_n hx hb dX0_linkAllBut_50 rfl (lv_at hl 0 rfl) ?_
          have hPc : va_P (dC, dI) vwCl ([((h 1), .inl ((kc 1), 30, .inl f1))]) _ := hP.sub [1] rfl
          have hKc : va_K (dC, dI) vwCl ([((kc 1), .int)]) s := hK.sub [0] rfl
          refine va_calli (va_runS (As := [.ref (h 1), .int (nI i)]) (rest := []) ⟨hx, hb, hml, hown, hts⟩ (c_X0_at l dC dI (h 1) (kc 1) 30 f1 (nI i) (by decide)) (va_cwS 2 hts gX0_linkAllBut_X0_at rfl rfl rfl (by decide +kernel) ⟨Nat.le_of_ble_eq_true rfl, Nat.le_of_ble_eq_true rfl⟩) ⟨gcPR_blind, fun U hU hW => ⟨rfl, by rw [hU]; exact hPc, va_K.moved hW.alike hKc⟩⟩ rfl rfl hl.1 rfl (lv_room (Nat.le_of_ble_eq_true rfl)) dX0_linkAllBut_51 ⟨Nat.zero_le _, Nat.zero_le _⟩) hS (fun q _ h => h.elim) (fun q h => h.elim) (fun r2 u t H locs ht hvm hw hB hz1 hk1 hS => ?_)
          have hP := gc_keep hP hk1
          have hw : r2 = gAt 30 f1 (nI i) := hw
          subst hw
          clear hw
          clear hB hz1 hk1 ht hvm
          clear hPc hKc
          refine lv_istore (lv' := [(4, .int (gAt 30 f1 (nI i))), (3, .int (nI i)), (0, .ref (h 0)), (1, .int left), (2, .ref (h 5))]) hx hb dX0_linkAllBut_54 hl (by decide) rfl (fun ls hl => ?_)
          refine lv_aload_n hx hb dX0_linkAllBut_56 rfl (lv_at hl 2 rfl) ?_
          refine va_get (D := (dC, dI)) (ci := 0) (v := .ref (h 2)) (C := RX0) (T := TX0) (N := 10) hx hb hts hin0 hown hK hP 0 rfl rfl 1 (by decide) (hts (.fieldLink RX0 13 "GuestChairs" "seconds" "[I") (by decide +kernel)) (fun _ h9 => h9) rfl dX0_linkAllBut_57 ?_
          refine lv_iload_n hx hb dX0_linkAllBut_60 rfl (lv_at hl 1 rfl) ?_
          have hPc : va_P (dC, dI) vwCl ([((h 2), .inl ((kc 2), 30, .inl f2))]) _ := hP.sub [2] rfl
          have hKc : va_K (dC, dI) vwCl ([((kc 2), .int)]) s := hK.sub [1] rfl
          refine va_calli (va_runS (As := [.ref (h 2), .int (nI i)]) (rest := []) ⟨hx, hb, hml, hown, hts⟩ (c_X0_at l dC dI (h 2) (kc 2) 30 f2 (nI i) (by decide)) (va_cwS 2 hts gX0_linkAllBut_X0_at rfl rfl rfl (by decide +kernel) ⟨Nat.le_of_ble_eq_true rfl, Nat.le_of_ble_eq_true rfl⟩) ⟨gcPR_blind, fun U hU hW => ⟨rfl, by rw [hU]; exact hPc, va_K.moved hW.alike hKc⟩⟩ rfl rfl hl.1 rfl (lv_room (Nat.le_of_ble_eq_true rfl)) dX0_linkAllBut_61 ⟨Nat.zero_le _, Nat.zero_le _⟩) hS (fun q _ h => h.elim) (fun q h => h.elim) (fun r3 u t H locs ht hvm hw hB hz1 hk1 hS => ?_)
          have hP := gc_keep hP hk1
          have hw : r3 = gAt 30 f2 (nI i) := hw
          subst hw
          clear hw
          clear hB hz1 hk1 ht hvm
          clear hPc hKc
          refine lv_istore (lv' := [(5, .int (gAt 30 f2 (nI i))), (4, .int (gAt 30 f1 (nI i))), (3, .int (nI i)), (0, .ref (h 0)), (1, .int left), (2, .ref (h 5))]) hx hb dX0_linkAllBut_64 hl (by decide) rfl (fun ls hl => ?_)
          refine lv_aload_n hx hb dX0_linkAllBut_66 rfl (lv_at hl 5 rfl) ?_
          refine lv_iload hx hb dX0_linkAllBut_67 (lv_at hl 1 rfl) ?_
          refine lv_iload hx hb dX0_linkAllBut_69 (lv_at hl 0 rfl) ?_
          have hPc : va_P (dC, dI) vwCl ([((h 5), .inl ((kc 5), 20, .inl fb))]) _ := hP.sub [5] rfl
          have hKc : va_K (dC, dI) vwCl ([((kc 5), .int)]) s := hK.sub [4] rfl
          have hDc : va_D A ([((h 5), .inl ((kc 5), 20, .inl fb))]) := hD.sub [5] (by decide) rfl
          have hFc := va_free (wc := ([((h 5), .inl ((kc 5), 20, .inl fb))])) hD hS hA [5] rfl
          refine va_callv (va_runS (As := [.ref (h 5), .int (gAt 30 f1 (nI i)), .int (gAt 30 f2 (nI i))]) (rest := []) ⟨hx, hb, hml, hown, hts⟩ (c_X0_link l dC dI (h 5) (kc 5) 20 fb (gAt 30 f1 (nI i)) (gAt 30 f2 (nI i)) H.size (by decide)) (va_cwS 3 hts gX0_linkAllBut_X0_link rfl rfl rfl (by decide +kernel) ⟨Nat.le_of_ble_eq_true rfl, Nat.le_of_ble_eq_true rfl⟩) ⟨gcPM_blind, fun U hU hW => ⟨rfl, by rw [hU], by rw [hU]; exact hPc, va_K.moved hW.alike hKc, hDc.weaken (fun _ _ _ _ => trivial)⟩⟩ rfl rfl hl.1 rfl (lv_room (Nat.le_of_ble_eq_true rfl)) dX0_linkAllBut_71 ⟨Nat.zero_le _, Nat.zero_le _⟩) hS (fun q _ h => hFc q h) hFc (fun u t H locs ht hvm hw hB hz1 hk1 hS => ?_)
          obtain ⟨hP1, hD1⟩ := hB
          rw [ht] at hP1
          obtain ⟨hP, hD⟩ := va_join (wr := [(h 0, .inr (0, [.ref (h 1), .ref (h 2), .ref (h 3), .ref (h 4), .ref (h 5), .ref (h 6), .int (nI g), .int (nI r), .int inf, .int (nI ct)])), (h 1, .inl (kc 1, 30, .inl f1)), (h 2, .inl (kc 2, 30, .inl f2)), (h 3, .inl (kc 3, 20, .inl dr)), (h 4, .inl (kc 4, 20, .inl cl)), (h 6, .inl (kc 6, 1024, .inl se))]) (w1 := ([((h 5), .inl ((kc 5), 20, .inl (gLink 20 fb (gAt 30 f1 (nI i)) (gAt 30 f2 (nI i)))))])) hP hD [5] [0, 1, 2, 3, 4, 6] rfl rfl (by decide) (by decide) hk1 hFc hP1 hD1
          have hP : va_P (dC, dI) vwCl (gcW h kc f1 f2 dr cl (gLink 20 fb (gAt 30 f1 (nI i)) (gAt 30 f2 (nI i))) se (nI g) (nI r) inf (nI ct)) H := hP.sub [0, 1, 2, 3, 4, 6, 5] rfl
          have hD : va_D A (gcW h kc f1 f2 dr cl (gLink 20 fb (gAt 30 f1 (nI i)) (gAt 30 f2 (nI i))) se (nI g) (nI r) inf (nI ct)) := hD.sub [0, 1, 2, 3, 4, 6, 5] (by decide) rfl
          clear hz1 hk1 ht hvm hP1 hD1 hFc hDc
          clear hPc hKc
          refine lv_aload_n hx hb dX0_linkAllBut_74 rfl (lv_at hl 5 rfl) ?_
          refine lv_iload hx hb dX0_linkAllBut_75 (lv_at hl 0 rfl) ?_
          refine va_calli (va_runS (As := [.int (gAt 30 f2 (nI i))]) (rest := [.ref (h 5)]) ⟨hx, hb, hml, hown, hts⟩ (c_X0_against l (gAt 30 f2 (nI i))) (va_cwS 1 hts gX0_linkAllBut_X0_against rfl rfl rfl (by decide +kernel) ⟨Nat.le_of_ble_eq_true rfl, Nat.le_of_ble_eq_true rfl⟩) ⟨fun a U g mk q => q, fun U hU hW => ⟨rfl, trivial⟩⟩ rfl rfl hl.1 rfl (lv_room (Nat.le_of_ble_eq_true rfl)) dX0_linkAllBut_77 ⟨Nat.zero_le _, Nat.zero_le _⟩) hS (fun q _ h => h.elim) (fun q h => h.elim) (fun r5 u t H locs ht hvm hw hB hz1 hk1 hS => ?_)
          have hP := gc_keep hP hk1
          have hw : r5 = ((gAt 30 f2 (nI i)) ^^^ 1) := hw
          subst hw
          clear hw
          clear hB hz1 hk1 ht hvm
          refine lv_iload hx hb dX0_linkAllBut_80 (lv_at hl 1 rfl) ?_
          refine va_calli (va_runS (As := [.int (gAt 30 f1 (nI i))]) (rest := [.int ((gAt 30 f2 (nI i)) ^^^ 1), .ref (h 5)]) ⟨hx, hb, hml, hown, hts⟩ (c_X0_against l (gAt 30 f1 (nI i))) (va_cwS 1 hts gX0_linkAllBut_X0_against rfl rfl rfl (by decide +kernel) ⟨Nat.le_of_ble_eq_true rfl, Nat.le_of_ble_eq_true rfl⟩) ⟨fun a U g mk q => q, fun U hU hW => ⟨rfl, trivial⟩⟩ rfl rfl hl.1 rfl (lv_room (Nat.le_of_ble_eq_true rfl)) dX0_linkAllBut_82 ⟨Nat.zero_le _, Nat.zero_le _⟩) hS (fun q _ h => h.elim) (fun q h => h.elim) (fun r6 u t H locs ht hvm hw hB hz1 hk1 hS => ?_)
          have hP := gc_keep hP hk1
          have hw : r6 = ((gAt 30 f1 (nI i)) ^^^ 1) := hw
          subst hw
          clear hw
          clear hB hz1 hk1 ht hvm
          have hPc : va_P (dC, dI) vwCl ([((h 5), .inl ((kc 5), 20, .inl (gLink 20 fb (gAt 30 f1 (nI i)) (gAt 30 f2 (nI i)))))]) _ := hP.sub [5] rfl
          have hKc : va_K (dC, dI) vwCl ([((kc 5), .int)]) s := hK.sub [4] rfl
          have hDc : va_D A ([((h 5), .inl ((kc 5), 20, .inl (gLink 20 fb (gAt 30 f1 (nI i)) (gAt 30 f2 (nI i)))))]) := hD.sub [5] (by decide) rfl
          have hFc := va_free (wc := ([((h 5), .inl ((kc 5), 20, .inl (gLink 20 fb (gAt 30 f1 (nI i)) (gAt 30 f2 (nI i)))))])) hD hS hA [5] rfl
          refine va_callv (va_runS (As := [.ref (h 5), .int ((gAt 30 f2 (nI i)) ^^^ 1), .int ((gAt 30 f1 (nI i)) ^^^ 1)]) (rest := []) ⟨hx, hb, hml, hown, hts⟩ (c_X0_link l dC dI (h 5) (kc 5) 20 (gLink 20 fb (gAt 30 f1 (nI i)) (gAt 30 f2 (nI i))) ((gAt 30 f2 (nI i)) ^^^ 1) ((gAt 30 f1 (nI i)) ^^^ 1) H.size (by decide)) (va_cwS 3 hts gX0_linkAllBut_X0_link rfl rfl rfl (by decide +kernel) ⟨Nat.le_of_ble_eq_true rfl, Nat.le_of_ble_eq_true rfl⟩) ⟨gcPM_blind, fun U hU hW => ⟨rfl, by rw [hU], by rw [hU]; exact hPc, va_K.moved hW.alike hKc, hDc.weaken (fun _ _ _ _ => trivial)⟩⟩ rfl rfl hl.1 rfl (lv_room (Nat.le_of_ble_eq_true rfl)) dX0_linkAllBut_85 ⟨Nat.zero_le _, Nat.zero_le _⟩) hS (fun q _ h => hFc q h) hFc (fun u t H locs ht hvm hw hB hz1 hk1 hS => ?_)
          obtain ⟨hP1, hD1⟩ := hB
          rw [ht] at hP1
          obtain ⟨hP, hD⟩ := va_join (wr := [(h 0, .inr (0, [.ref (h 1), .ref (h 2), .ref (h 3), .ref (h 4), .ref (h 5), .ref (h 6), .int (nI g), .int (nI r), .int inf, .int (nI ct)])), (h 1, .inl (kc 1, 30, .inl f1)), (h 2, .inl (kc 2, 30, .inl f2)), (h 3, .inl (kc 3, 20, .inl dr)), (h 4, .inl (kc 4, 20, .inl cl)), (h 6, .inl (kc 6, 1024, .inl se))]) (w1 := ([((h 5), .inl ((kc 5), 20, .inl (gLink 20 (gLink 20 fb (gAt 30 f1 (nI i)) (gAt 30 f2 (nI i))) ((gAt 30 f2 (nI i)) ^^^ 1) ((gAt 30 f1 (nI i)) ^^^ 1))))])) hP hD [5] [0, 1, 2, 3, 4, 6] rfl rfl (by decide) (by decide) hk1 hFc hP1 hD1
          have hP : va_P (dC, dI) vwCl (gcW h kc f1 f2 dr cl (gLink 20 (gLink 20 fb (gAt 30 f1 (nI i)) (gAt 30 f2 (nI i))) ((gAt 30 f2 (nI i)) ^^^ 1) ((gAt 30 f1 (nI i)) ^^^ 1)) se (nI g) (nI r) inf (nI ct)) H := hP.sub [0, 1, 2, 3, 4, 6, 5] rfl
          have hD : va_D A (gcW h kc f1 f2 dr cl (gLink 20 (gLink 20 fb (gAt 30 f1 (nI i)) (gAt 30 f2 (nI i))) ((gAt 30 f2 (nI i)) ^^^ 1) ((gAt 30 f1 (nI i)) ^^^ 1)) se (nI g) (nI r) inf (nI ct)) := hD.sub [0, 1, 2, 3, 4, 6, 5] (by decide) rfl
          clear hz1 hk1 ht hvm hP1 hD1 hFc hDc
          clear hPc hKc
          refine lv_iinc (v := nI (i + 1)) (lv' := [(3, .int (nI (i + 1))), (5, .int (gAt 30 f2 (nI i))), (4, .int (gAt 30 f1 (nI i))), (0, .ref (h 0)), (1, .int left), (2, .ref (h 5))]) hx hb dX0_linkAllBut_88 hl (k := 2) rfl (nI_1 i) (by decide) rfl (fun ls hl => ?_)
          refine lv_goto (tgt := 22) hx hb dX0_linkAllBut_91 (by decide) ?_
          exact ihi H _ ls (by omega) ⟨(gLink 20 (gLink 20 fb (gAt 30 f1 (nI i)) (gAt 30 f2 (nI i))) ((gAt 30 f2 (nI i)) ^^^ 1) ((gAt 30 f1 (nI i)) ^^^ 1)), (by simp only [gLk, ← e_fb]; simp [gLk, c_32, c_43]), hP, hD, hS, lv_sub hl [0, 3, 4, 5] rfl⟩
  · skip
    have hLa : a < 20 := gc_lt c_5 (by omega) (by omega)
    refine lv_aload_n hx hb dX0_linkAllBut_8 rfl (lv_at hl 3 rfl) ?_
    refine lv_iload_n hx hb dX0_linkAllBut_9 rfl (lv_at hl 0 rfl) ?_
    refine lv_iconst (v := 1) hx hb dX0_linkAllBut_10 (by decide) ?_
    refine lv_iload_n hx hb dX0_linkAllBut_11 rfl (lv_at hl 0 rfl) ?_
    refine lv_ishl hx hb dX0_linkAllBut_12 ?_
    refine va_iast hx hb hK hP hD hS 5 4 rfl rfl (vp_in_nI (n := a) (by omega) (by decide)) dX0_linkAllBut_13 (fun H locs hP hD hS => ?_)
    rw [nI_clamp (n := a) (by omega)] at hP hD
    have hP : va_P (dC, dI) vwCl (gcW h kc f1 f2 dr cl (upd fa a ((1 : Int32) <<< (nI a &&& 31))) se (nI g) (nI r) inf (nI ct)) H := hP
    have hD : va_D A (gcW h kc f1 f2 dr cl (upd fa a ((1 : Int32) <<< (nI a &&& 31))) se (nI g) (nI r) inf (nI ct)) := hD
    refine lv_iinc (v := nI (a + 1)) (lv' := [(3, .int (nI (a + 1))), (0, .ref (h 0)), (1, .int left), (2, .ref (h 5))]) hx hb dX0_linkAllBut_14 hl (k := 0) rfl (nI_1 a) (by decide) rfl (fun ls hl => ?_)
    refine lv_goto (tgt := 2) hx hb dX0_linkAllBut_17 (by decide) ?_
    exact iha H _ ls (by omega) ⟨(upd fa a ((1 : Int32) <<< (nI a &&& 31))), (by rw [e_fa]; rfl), hP, hD, hS, lv_sub hl [0, 1, 2, 3] rfl⟩
