/-! BY HAND: a rule more; something that a number chooses. -/
set_option maxHeartbeats 4000000 in
set_option maxRecDepth 100000 in
theorem c_X1_more (l : Launch) (dC : Nat → ClassId) (dI : Nat → Nat → Nat) (ru : Nat) (b : Nat) (kA : ClassId) (kI : ClassId) (row : Nat → Int32) (r : Nat) (rr : Nat → Nat) (K : Bk) (sz : Nat) (hr29 : r < 30) : Met l yX1_more wsX1_more ({ frames := 0, cells := 1, slots := 31, locals := 0 }) (qaPM (dC, dI) [.ref ru, .ref b] (([(ru, qa_R kA r (qa_up r rr))] ++ ([(b, .inl (kI, 3, .inl row))])) ++ (qT r rr (qE kI 3 (qF K)) ++ [])) ([(kA, .array .int), (kI, .int)]) sz) (va_Qr (fun (_u : Unit) => True) (fun _u rv t9 => va_P (dC, dI) vwCl (([(ru, qa_R kA r (qa_up r rr))] ++ ([(b, .inl (kI, 3, .inl row))] ++ ([(rv, qa_R kA (r + 1) (qa_up (r + 1) (qA r rr b)))]))) ++ (qT r rr (qE kI 3 (qF K)) ++ [])) t9.heap ∧ va_D (va_A (([(ru, qa_R kA r (qa_up r rr))] ++ ([(b, .inl (kI, 3, .inl row))])) ++ (qT r rr (qE kI 3 (qF K)) ++ [])) sz) (([(ru, qa_R kA r (qa_up r rr))] ++ ([(b, .inl (kI, 3, .inl row))] ++ ([(rv, qa_R kA (r + 1) (qa_up (r + 1) (qA r rr b)))]))) ++ (qT r rr (qE kI 3 (qF K)) ++ []))) (va_A (([(ru, qa_R kA r (qa_up r rr))] ++ ([(b, .inl (kI, 3, .inl row))])) ++ (qT r rr (qE kI 3 (qF K)) ++ [])) sz)) 1 31 (va_A (([(ru, qa_R kA r (qa_up r rr))] ++ ([(b, .inl (kI, 3, .inl row))])) ++ (qT r rr (qE kI 3 (qF K)) ++ [])) sz) := by
  refine Met.ofW (cc := cX1_more) (maxL := 4) (ret := (some (.array (.array .int)))) (by decide) rfl ?_
  intro p e s m args below meth c s₁ B hml hv
  obtain ⟨rfl, hsz, hP, hK, hD0, hO⟩ := hv
  have hx := B.exec
  have hb := B.bytes
  have hr := B.returns
  have hts := atoms_spec (ws := wsX1_more) B.pre
  have hown : s.vm.findClass RX1 = some m.cls := findClass_of_methodNamed B.named
  have hlocks := B.notSynchronized
  subst hsz
  have hD := hD0.self (sz := s.heap.size)
  generalize hAe : va_A (([(ru, qa_R kA r (qa_up r rr))] ++ ([(b, .inl (kI, 3, .inl row))])) ++ (qT r rr (qE kI 3 (qF K)) ++ [])) s.heap.size = A at hD ⊢
  have hA : ∀ q : Nat, s.heap.size ≤ q → A q := fun q h => by rw [← hAe]; exact Or.inr h
  have hS : va_S A s.heap s.heap [] := va_S.rf
  have hP : va_P (dC, dI) vwCl (([(ru, qa_R kA r (qa_up r rr))] ++ ([(b, .inl (kI, 3, .inl row))])) ++ (qT r rr (qE kI 3 (qF K)) ++ [])) s.heap := hP
  have hl := lv_entry [.ref ru, .ref b] (n := 4) (Nat.le_of_ble_eq_true rfl)
  rw [lg_entry_eq]
  generalize (lg_sl [.ref ru, .ref b] ++ List.replicate (4 - (lg_sl [.ref ru, .ref b]).length) Slot.unset).toArray = ls at hl ⊢
  have hl : lv_has ls 4 [(0, .ref ru), (1, .ref b)] := hl
  refine lv_aload_n hx hb dX1_more_0 rfl (lv_at hl 0 rfl) ?_
  refine va_alen hx hb hK hP 0 0 rfl rfl (v := nI r) rfl dX1_more_1 ?_
  refine lv_iconst (v := 1) hx hb dX1_more_2 (by decide) ?_
  refine lv_iadd hx hb dX1_more_3 ?_
  refine gc_topi (y := nI (r + 1)) (nI_1 r) ?_
  refine qa_newA hx hb hown (hts (.classLink RX1 7 "[I") (by decide +kernel)) hO hK hP hD hS hA 0 rfl (n := nI (r + 1)) (N' := (r + 1)) (nI_pos (by omega)) (nI_clamp (by omega)) (by omega) (by show _ ≤ (1 : Nat); omega) (by show _ ≤ (31 : Nat); omega) dX1_more_4 (fun q1 H hP hD hS => ?_)
  rw [qa_up_0 (qA r rr b)] at hP hD
  have hP := hP.perm qa_side
  have hD := hD.perm qa_side
  have hP : va_P (dC, dI) vwCl (([(ru, qa_R kA r (qa_up r rr))] ++ ([(b, .inl (kI, 3, .inl row))] ++ ([(q1, qa_R kA (r + 1) (qa_up 0 (qA r rr b)))]))) ++ (qT r rr (qE kI 3 (qF K)) ++ [])) H := hP
  have hD : va_D A (([(ru, qa_R kA r (qa_up r rr))] ++ ([(b, .inl (kI, 3, .inl row))] ++ ([(q1, qa_R kA (r + 1) (qa_up 0 (qA r rr b)))]))) ++ (qT r rr (qE kI 3 (qF K)) ++ [])) := hD
  refine lv_astore_n (lv' := [(2, .ref q1), (0, .ref ru), (1, .ref b)]) hx hb dX1_more_7 rfl hl (by decide) rfl (fun ls hl => ?_)
  refine lv_iconst (v := 0) hx hb dX1_more_8 (by decide) ?_
  refine lv_istore_n (lv' := [(3, .int 0), (2, .ref q1), (0, .ref ru), (1, .ref b)]) hx hb dX1_more_9 rfl hl (by decide) rfl (fun ls hl => ?_)
  refine gc_loop (r) (fun (i : Nat) (H : Heap) (locs : List Loc) (ls : Array Slot) => va_P (dC, dI) vwCl (([(ru, qa_R kA r (qa_up r rr))] ++ ([(b, .inl (kI, 3, .inl row))] ++ ([(q1, qa_R kA (r + 1) (qa_up i (qA r rr b)))]))) ++ (qT r rr (qE kI 3 (qF K)) ++ [])) H ∧ va_D A (([(ru, qa_R kA r (qa_up r rr))] ++ ([(b, .inl (kI, 3, .inl row))] ++ ([(q1, qa_R kA (r + 1) (qa_up i (qA r rr b)))]))) ++ (qT r rr (qE kI 3 (qF K)) ++ [])) ∧ va_S A s.heap H locs ∧ lv_has ls 4 [(3, .int (nI i)), (2, .ref q1), (0, .ref ru), (1, .ref b)]) 0 (Nat.zero_le _) ⟨hP, hD, hS, lv_sub hl [0, 1, 2, 3] rfl⟩ ?_
  intro i H locs ls hi hI ihi
  obtain ⟨hP, hD, hS, hl⟩ := hI
  refine lv_iload_n hx hb dX1_more_10 rfl (lv_at hl 0 rfl) ?_
  refine lv_aload_n hx hb dX1_more_11 rfl (lv_at hl 2 rfl) ?_
  refine va_alen hx hb hK hP 0 0 rfl rfl (v := nI r) rfl dX1_more_12 ?_
  refine lv_icmp_ge (tgt := 28) hx hb dX1_more_13 (by decide) (fun c_13 => ?_) (fun c_13 => ?_)
  · skip
    have hEi : i = r := gc_ge c_13 (by omega) (by omega)
    rw [hEi] at hP hD
    have hP : va_P (dC, dI) vwCl (([(ru, qa_R kA r (qa_up r rr))] ++ ([(b, .inl (kI, 3, .inl row))] ++ ([(q1, qa_R kA (r + 1) (qa_up r (qA r rr b)))]))) ++ (qT r rr (qE kI 3 (qF K)) ++ [])) H := hP
    have hD : va_D A (([(ru, qa_R kA r (qa_up r rr))] ++ ([(b, .inl (kI, 3, .inl row))] ++ ([(q1, qa_R kA (r + 1) (qa_up r (qA r rr b)))]))) ++ (qT r rr (qE kI 3 (qF K)) ++ [])) := hD
    refine lv_aload_n hx hb dX1_more_28 rfl (lv_at hl 1 rfl) ?_
    refine lv_aload_n hx hb dX1_more_29 rfl (lv_at hl 2 rfl) ?_
    refine va_alen hx hb hK hP 0 0 rfl rfl (v := nI r) rfl dX1_more_30 ?_
    refine lv_aload_n hx hb dX1_more_31 rfl (lv_at hl 3 rfl) ?_
    refine qa_ast hx hb hO hK hP hD hS 2 0 1 1 rfl rfl rfl rfl (vp_in_nI (n := r) (N := (r + 1)) (by omega) (by omega)) dX1_more_32 (fun H locs hP hD hS => ?_)
    rw [show (nI r : Int32).toNatClampNeg = r from nI_clamp (by omega), qa_up_put (qA_at r rr b)] at hP hD
    have hP : va_P (dC, dI) vwCl (([(ru, qa_R kA r (qa_up r rr))] ++ ([(b, .inl (kI, 3, .inl row))] ++ ([(q1, qa_R kA (r + 1) (qa_up (r + 1) (qA r rr b)))]))) ++ (qT r rr (qE kI 3 (qF K)) ++ [])) H := hP
    have hD : va_D A (([(ru, qa_R kA r (qa_up r rr))] ++ ([(b, .inl (kI, 3, .inl row))] ++ ([(q1, qa_R kA (r + 1) (qa_up (r + 1) (qA r rr b)))]))) ++ (qT r rr (qE kI 3 (qF K)) ++ [])) := hD
    refine lv_aload_n hx hb dX1_more_33 rfl (lv_at hl 1 rfl) ?_
    have hpost : True := trivial
    refine W.widen (k := 1) (n := 31) (by omega) (by omega) ?_
    exact W.aret (v := .ref q1) hx hb hr (Or.inr ⟨_, rfl⟩) (Or.inr ⟨_, rfl⟩) (fun t ht hW => ⟨⟨(), q1, rfl, hpost, ⟨by rw [ht]; exact hP, hD⟩⟩, hS.F ht⟩) hS.2.2 dX1_more_34
  · skip
    have hLi : i < r := gc_lt c_13 (by omega) (by omega)
    refine lv_aload_n hx hb dX1_more_16 rfl (lv_at hl 1 rfl) ?_
    refine lv_iload_n hx hb dX1_more_17 rfl (lv_at hl 0 rfl) ?_
    refine lv_aload_n hx hb dX1_more_18 rfl (lv_at hl 2 rfl) ?_
    refine lv_iload_n hx hb dX1_more_19 rfl (lv_at hl 0 rfl) ?_
    refine qa_ald hx hb hK hP 0 0 rfl rfl (v := rr i) (vp_in_nI (n := i) (N := r) (by omega) (by omega)) (by rw [show (nI i : Int32).toNatClampNeg = i from nI_clamp (by omega)]; exact qa_up_at (by omega)) dX1_more_20 ?_
    refine qa_ast hx hb hO hK hP hD hS 2 0 _ 1 rfl rfl (qR1 (i := i) (by omega) _ _) rfl (vp_in_nI (n := i) (N := (r + 1)) (by omega) (by omega)) dX1_more_21 (fun H locs hP hD hS => ?_)
    rw [show (nI i : Int32).toNatClampNeg = i from nI_clamp (by omega), qa_up_put (qA_ne (by omega) rr b)] at hP hD
    have hP : va_P (dC, dI) vwCl (([(ru, qa_R kA r (qa_up r rr))] ++ ([(b, .inl (kI, 3, .inl row))] ++ ([(q1, qa_R kA (r + 1) (qa_up (i + 1) (qA r rr b)))]))) ++ (qT r rr (qE kI 3 (qF K)) ++ [])) H := hP
    have hD : va_D A (([(ru, qa_R kA r (qa_up r rr))] ++ ([(b, .inl (kI, 3, .inl row))] ++ ([(q1, qa_R kA (r + 1) (qa_up (i + 1) (qA r rr b)))]))) ++ (qT r rr (qE kI 3 (qF K)) ++ [])) := hD
    refine lv_iinc (v := nI (i + 1)) (lv' := [(3, .int (nI (i + 1))), (2, .ref q1), (0, .ref ru), (1, .ref b)]) hx hb dX1_more_22 hl (k := 0) rfl (nI_1 i) (by decide) rfl (fun ls hl => ?_)
    refine lv_goto (tgt := 10) hx hb dX1_more_25 (by decide) ?_
    exact ihi H _ ls (by omega) ⟨hP, hD, hS, lv_sub hl [0, 1, 2, 3] rfl⟩
set_option maxHeartbeats 4000000 in
set_option maxRecDepth 100000 in
theorem c_L_act (l : Launch) (dC : Nat → ClassId) (dI : Nat → Nat → Nat) (h : Nat → Nat) (kc : Nat → ClassId) (f1 : Nat → Int32) (f2 : Nat → Int32) (dr : Nat → Int32) (cl : Nat → Int32) (tr : Nat → Int32) (se : Nat → Int32) (g : Nat) (r : Nat) (inf : Int32) (ct : Nat) (sa : Nat) (ru : Nat) (kA : ClassId) (kI : ClassId) (rr : Nat → Nat) (K : Bk) (xx : Int32) (sz : Nat) (hI : Inv K g r f1 f2 inf dr cl se ct) (hg1 : 1 ≤ g) : Met l yL_act wsL_act ({ frames := 7, cells := 2, slots := 34, locals := 150 }) (qaPM (dC, dI) [.ref (h 0), .ref sa, .int xx] ((gcW h kc f1 f2 dr cl tr se (nI g) (nI r) inf (nI ct) ++ ([(sa, .inr (1, [.int (nI g), .ref ru, .null, .null, .int 0]))] ++ ([(ru, qa_R kA r (qa_up r rr))]))) ++ (qT r rr (qE kI 3 (qF K)) ++ [])) (gcT kc ++ [(kA, .array .int), (kI, .int)]) sz) (va_Qi (fun (rv : Int32) (u : (Bk) × (Nat) × (Nat) × (Nat → Int32) × (Nat → Int32) × (Nat → Int32) × (Nat → Int32) × (Nat → Int32) × (Nat → Int32) × (Int32) × (Nat) × (Nat) × (Nat → Nat)) => (match u with | (K2, g2, r2, f1z, f2z, drz, clz, trz, sez, infz, ctz, ruz, rrz) => rv = 1 ∧ 1 ≤ g2 ∧ Inv K2 g2 r2 f1z f2z infz drz clz sez ctz)) (fun u t9 => va_P (dC, dI) vwCl (match u with | (K2, g2, r2, f1z, f2z, drz, clz, trz, sez, infz, ctz, ruz, rrz) => ((gcW h kc f1z f2z drz clz trz sez (nI g2) (nI r2) infz (nI ctz) ++ ([(sa, .inr (1, [.int (nI g2), .ref ruz, .null, .null, .int 0]))] ++ ([(ruz, qa_R kA r2 (qa_up r2 rrz))]))) ++ (qT r2 rrz (qE kI 3 (qF K2)) ++ []))) t9.heap ∧ va_D (va_A ((gcW h kc f1 f2 dr cl tr se (nI g) (nI r) inf (nI ct) ++ ([(sa, .inr (1, [.int (nI g), .ref ru, .null, .null, .int 0]))] ++ ([(ru, qa_R kA r (qa_up r rr))]))) ++ (qT r rr (qE kI 3 (qF K)) ++ [])) sz) (match u with | (K2, g2, r2, f1z, f2z, drz, clz, trz, sez, infz, ctz, ruz, rrz) => ((gcW h kc f1z f2z drz clz trz sez (nI g2) (nI r2) infz (nI ctz) ++ ([(sa, .inr (1, [.int (nI g2), .ref ruz, .null, .null, .int 0]))] ++ ([(ruz, qa_R kA r2 (qa_up r2 rrz))]))) ++ (qT r2 rrz (qE kI 3 (qF K2)) ++ [])))) (va_A ((gcW h kc f1 f2 dr cl tr se (nI g) (nI r) inf (nI ct) ++ ([(sa, .inr (1, [.int (nI g), .ref ru, .null, .null, .int 0]))] ++ ([(ru, qa_R kA r (qa_up r rr))]))) ++ (qT r rr (qE kI 3 (qF K)) ++ [])) sz)) 2 34 (va_A ((gcW h kc f1 f2 dr cl tr se (nI g) (nI r) inf (nI ct) ++ ([(sa, .inr (1, [.int (nI g), .ref ru, .null, .null, .int 0]))] ++ ([(ru, qa_R kA r (qa_up r rr))]))) ++ (qT r rr (qE kI 3 (qF K)) ++ [])) sz) := by
  refine Met.ofW (cc := cL_act) (maxL := 8) (ret := (some .boolean)) (by decide) rfl ?_
  intro p e s m args below meth c s₁ B hml hv
  obtain ⟨rfl, hsz, hP, hK, hD0, hO⟩ := hv
  have hx := B.exec
  have hb := B.bytes
  have hr := B.returns
  have hts := atoms_spec (ws := wsL_act) B.pre
  have hown : s.vm.findClass RL = some m.cls := findClass_of_methodNamed B.named
  have hlocks := B.notSynchronized
  subst hsz
  have hD := hD0.self (sz := s.heap.size)
  generalize hAe : va_A ((gcW h kc f1 f2 dr cl tr se (nI g) (nI r) inf (nI ct) ++ ([(sa, .inr (1, [.int (nI g), .ref ru, .null, .null, .int 0]))] ++ ([(ru, qa_R kA r (qa_up r rr))]))) ++ (qT r rr (qE kI 3 (qF K)) ++ [])) s.heap.size = A at hD ⊢
  have hA : ∀ q : Nat, s.heap.size ≤ q → A q := fun q h => by rw [← hAe]; exact Or.inr h
  have hS : va_S A s.heap s.heap [] := va_S.rf
  have hP : va_P (dC, dI) vwCl ((gcW h kc f1 f2 dr cl tr se (nI g) (nI r) inf (nI ct) ++ ([(sa, .inr (1, [.int (nI g), .ref ru, .null, .null, .int 0]))] ++ ([(ru, qa_R kA r (qa_up r rr))]))) ++ (qT r rr (qE kI 3 (qF K)) ++ [])) s.heap := hP
  have hin1 : ∀ w ∈ wsX10, w ∈ wsL_act := by decide +kernel
  have hl := lv_entry [.ref (h 0), .ref sa, .int xx] (n := 8) (Nat.le_of_ble_eq_true rfl)
  rw [lg_entry_eq]
  generalize (lg_sl [.ref (h 0), .ref sa, .int xx] ++ List.replicate (8 - (lg_sl [.ref (h 0), .ref sa, .int xx]).length) Slot.unset).toArray = ls at hl ⊢
  have hl : lv_has ls 8 [(0, .ref (h 0)), (1, .ref sa), (2, .int xx)] := hl
  obtain ⟨hg7, hr30, hOK, hz, hne, hDr, hCl, s0, hse, hct⟩ := id hI
  have hKg := gOK_Kg hOK
  have hKr : K.1 = r := hOK.1
  have hLF : LF K g se ct := by rw [hse, hct]; exact LF_of (by omega) hKg hCl s0
  have hc1024 : ct ≤ 1024 := hLF.2
  refine lv_iconst (v := 2) hx hb dL_act_0 (by decide) ?_
  refine lv_aload_n hx hb dL_act_1 rfl (lv_at hl 1 rfl) ?_
  refine va_get (D := (dC, dI)) (ci := 1) (v := .int (nI g)) (C := RX1) (T := TX1) (N := 5) hx hb hts hin1 hown hK hP 7 rfl rfl 0 (by decide) (hts (.fieldLink RL 9 "GuestChairsLaw$Sim" "guests" "I") (by decide +kernel)) (fun _ h9 => h9) rfl dL_act_2 ?_
  refine lv_imul hx hb dL_act_5 ?_
  refine gc_topi (y := nI (2 * g)) (pk_mul 2 g) ?_
  refine lv_istore_n (lv' := [(3, .int (nI (2 * g))), (0, .ref (h 0)), (1, .ref sa), (2, .int xx)]) hx hb dL_act_6 rfl hl (by decide) rfl (fun ls hl => ?_)
  refine lv_aload_n hx hb dL_act_7 rfl (lv_at hl 2 rfl) ?_
  refine va_get (D := (dC, dI)) (ci := 1) (v := .ref ru) (C := RX1) (T := TX1) (N := 5) hx hb hts hin1 hown hK hP 7 rfl rfl 1 (by decide) (hts (.fieldLink RL 15 "GuestChairsLaw$Sim" "rules" "[[I") (by decide +kernel)) (fun _ h9 => h9) rfl dL_act_8 ?_
  refine va_alen hx hb hK hP 8 6 rfl rfl (v := nI r) rfl dL_act_11 ?_
  refine lv_istore (lv' := [(4, .int (nI r)), (3, .int (nI (2 * g))), (0, .ref (h 0)), (1, .ref sa), (2, .int xx)]) hx hb dL_act_12 hl (by decide) rfl (fun ls hl => ?_)
  refine lv_iload_n hx hb dL_act_14 rfl (lv_at hl 1 rfl) ?_
  refine lv_if_ne (tgt := 22) hx hb dL_act_15 (by decide) (fun c_15 => ?_) (fun c_15 => ?_)
  · skip
    refine lv_iload_n hx hb dL_act_22 rfl (lv_at hl 4 rfl) ?_
    refine lv_bipush (v := 9) hx hb dL_act_23 (by decide) ?_
    refine lv_ishr hx hb dL_act_25 ?_
    refine lv_bipush (v := 12) hx hb dL_act_26 (by decide) ?_
    refine va_calli (va_runS (As := [.int (xx >>> ((9 : Int32) &&& 31)), .int 12]) (rest := []) ⟨hx, hb, hml, hown, hts⟩ (c_L_below l (xx >>> ((9 : Int32) &&& 31)) 12 (by first | assumption | omega) (by first | assumption | omega)) (va_cwS 2 hts gL_act_L_below rfl rfl rfl (by decide +kernel) ⟨Nat.le_of_ble_eq_true rfl, Nat.le_of_ble_eq_true rfl⟩) ⟨fun a U g mk q => q, fun U hU hW => ⟨rfl, trivial⟩⟩ rfl rfl hl.1 rfl (lv_room (Nat.le_of_ble_eq_true rfl)) dL_act_28 ⟨by show _ ≤ (2 : Nat); omega, by show _ ≤ (34 : Nat); omega⟩) hS (fun q _ h => h.elim) (fun q h => h.elim) (fun r1 u t H locs ht hvm hw hB hz1 hk1 hS => ?_)
    have hP := gc_keep hP hk1
    have hw : r1 = nI ((xx >>> ((9 : Int32) &&& 31)).toBitVec.toNat % 2 ^ 31 % 12) := hw
    subst hw
    clear hw
    clear hB hz1 hk1 ht hvm
    obtain ⟨k9, hk9, ek9⟩ : ∃ k : Nat, k < 12 ∧ (xx >>> ((9 : Int32) &&& 31)).toBitVec.toNat % 2 ^ 31 % 12 = k := ⟨_, Nat.mod_lt _ (by decide), rfl⟩
    rw [ek9]
    rcases (show k9 = 0 ∨ (k9 = 1 ∨ k9 = 2 ∨ k9 = 3) ∨ 4 ≤ k9 by omega) with hc9 | hc9 | hc9
    · skip
      refine lv_tableIn (off := 29) (tgt := 60) hx hb dL_act_31 (by rw [hc9]; decide) (by rw [hc9]; decide) (by rw [hc9]; rfl) (by decide) ?_
      refine lv_aload_n hx hb dL_act_60 rfl (lv_at hl 3 rfl) ?_
      refine va_get (D := (dC, dI)) (ci := 1) (v := .int (nI g)) (C := RX1) (T := TX1) (N := 5) hx hb hts hin1 hown hK hP 7 rfl rfl 0 (by decide) (hts (.fieldLink RL 9 "GuestChairsLaw$Sim" "guests" "I") (by decide +kernel)) (fun _ h9 => h9) rfl dL_act_61 ?_
      refine lv_bipush (v := 7) hx hb dL_act_64 (by decide) ?_
      refine lv_icmp_ne (tgt := 71) hx hb dL_act_66 (by decide) (fun c_66 => ?_) (fun c_66 => ?_)
      · skip
        have hlt : g < 7 := by (rcases Nat.lt_or_ge g 7 with q | q; exact q; exact absurd (by rw [show g = 7 by omega]; rfl) c_66)
        refine lv_aload_n hx hb dL_act_71 rfl (lv_at hl 3 rfl) ?_
        refine lv_dup hx hb dL_act_72 rfl ?_
        refine va_get (D := (dC, dI)) (ci := 1) (v := .int (nI g)) (C := RX1) (T := TX1) (N := 5) hx hb hts hin1 hown hK hP 7 rfl rfl 0 (by decide) (hts (.fieldLink RL 9 "GuestChairsLaw$Sim" "guests" "I") (by decide +kernel)) (fun _ h9 => h9) rfl dL_act_73 ?_
        refine lv_iconst (v := 1) hx hb dL_act_76 (by decide) ?_
        refine lv_iadd hx hb dL_act_77 ?_
        refine gc_topi (y := nI (g + 1)) (nI_1 g) ?_
        refine va_put (D := (dC, dI)) (ci := 1) (v := .int (nI (g + 1))) (ty := .int) (C := RX1) (T := TX1) (N := 5) hx hb hts hin1 tyX1 tyX1_ok nmX1 hown hK hP hD hS 7 rfl rfl 0 (by decide) (hts (.fieldLink RL 9 "GuestChairsLaw$Sim" "guests" "I") (by decide +kernel)) (fun _ h9 => h9) rfl (by decide +kernel) rfl rfl (Nat.le_of_ble_eq_true rfl) dL_act_78 (fun H locs hP hD hS => ?_)
        have hP : va_P (dC, dI) vwCl ((gcW h kc f1 f2 dr cl tr se (nI g) (nI r) inf (nI ct) ++ ([(sa, .inr (1, [.int (nI (g + 1)), .ref ru, .null, .null, .int 0]))] ++ ([(ru, qa_R kA r (qa_up r rr))]))) ++ (qT r rr (qE kI 3 (qF K)) ++ [])) H := hP
        have hD : va_D A ((gcW h kc f1 f2 dr cl tr se (nI g) (nI r) inf (nI ct) ++ ([(sa, .inr (1, [.int (nI (g + 1)), .ref ru, .null, .null, .int 0]))] ++ ([(ru, qa_R kA r (qa_up r rr))]))) ++ (qT r rr (qE kI 3 (qF K)) ++ [])) := hD
        refine lv_aload_n hx hb dL_act_81 rfl (lv_at hl 2 rfl) ?_
        have hPc : va_P (dC, dI) vwCl (gcW h kc f1 f2 dr cl tr se (nI g) (nI r) inf (nI ct)) _ := hP.sub [0, 1, 2, 3, 4, 5, 6] rfl
        have hKc : va_K (dC, dI) vwCl (gcT kc) s := hK.sub [0, 1, 2, 3, 4, 5] rfl
        have hDc : va_D A (gcW h kc f1 f2 dr cl tr se (nI g) (nI r) inf (nI ct)) := hD.sub [0, 1, 2, 3, 4, 5, 6] (by decide) rfl
        have hFc := va_free (wc := (gcW h kc f1 f2 dr cl tr se (nI g) (nI r) inf (nI ct))) hD hS hA [0, 1, 2, 3, 4, 5, 6] rfl
        refine va_calli (va_runV (As := []) (rest := []) ⟨hx, hb, hml, hown, hts⟩ (c_X0_invite l dC dI h kc f1 f2 dr cl tr se g r inf ct H.size (by first | assumption | omega) (by first | assumption | omega)) (cwV 0 hts gL_act_X0_invite rfl rfl rfl (by decide +kernel) ⟨Nat.le_of_ble_eq_true rfl, Nat.le_of_ble_eq_true rfl⟩) ⟨gcPM_blind, va_recv hK hP (ci := 0) (q0 := 0) rfl rfl, fun U hU hW => ⟨rfl, by rw [hU], by rw [hU]; exact hPc, va_K.moved hW.alike hKc, hDc.weaken (fun _ _ _ _ => trivial)⟩⟩ rfl rfl hl.1 rfl (lv_room (Nat.le_of_ble_eq_true rfl)) dL_act_82 ⟨by show _ ≤ (2 : Nat); omega, by show _ ≤ (34 : Nat); omega⟩) hS (fun q _ h => hFc q h) hFc (fun r2 u t H locs ht hvm hw hB hz1 hk1 hS => ?_)
        obtain ⟨hP1, hD1⟩ := hB
        rw [ht] at hP1
        obtain ⟨hP, hD⟩ := va_joinQ (wr := [(sa, .inr (1, [.int (nI (g + 1)), .ref ru, .null, .null, .int 0])), (ru, qa_R kA r (qa_up r rr))]) (w1 := (gcW h kc f1 f2 (gLA f1 f2 inf (-1) r dr) (gCl (gLA f1 f2 inf (-1) r cl) 20) tr ((gLs (gCl (gLA f1 f2 inf (-1) r cl) 20) se (g + 1) (g + 1)).1) (nI (g + 1)) (nI r) inf (nI (gLs (gCl (gLA f1 f2 inf (-1) r cl) 20) se (g + 1) (g + 1)).2))) hP hD [0, 1, 2, 3, 4, 5, 6] [7, 8] rfl rfl (by decide) (by decide) hk1 hFc hP1 hD1
        have hP : va_P (dC, dI) vwCl ((gcW h kc f1 f2 (gLA f1 f2 inf (-1) r dr) (gCl (gLA f1 f2 inf (-1) r cl) 20) tr ((gLs (gCl (gLA f1 f2 inf (-1) r cl) 20) se (g + 1) (g + 1)).1) (nI (g + 1)) (nI r) inf (nI (gLs (gCl (gLA f1 f2 inf (-1) r cl) 20) se (g + 1) (g + 1)).2) ++ ([(sa, .inr (1, [.int (nI (g + 1)), .ref ru, .null, .null, .int 0]))] ++ ([(ru, qa_R kA r (qa_up r rr))]))) ++ (qT r rr (qE kI 3 (qF K)) ++ [])) H := hP.part [2, 3, 4, 5, 6, 7, 8, 0, 1] rfl
        have hD : va_D A ((gcW h kc f1 f2 (gLA f1 f2 inf (-1) r dr) (gCl (gLA f1 f2 inf (-1) r cl) 20) tr ((gLs (gCl (gLA f1 f2 inf (-1) r cl) 20) se (g + 1) (g + 1)).1) (nI (g + 1)) (nI r) inf (nI (gLs (gCl (gLA f1 f2 inf (-1) r cl) 20) se (g + 1) (g + 1)).2) ++ ([(sa, .inr (1, [.int (nI (g + 1)), .ref ru, .null, .null, .int 0]))] ++ ([(ru, qa_R kA r (qa_up r rr))]))) ++ (qT r rr (qE kI 3 (qF K)) ++ [])) := hD.part [2, 3, 4, 5, 6, 7, 8, 0, 1] (by decide) rfl
        have hw : r2 = nI g := hw
        subst hw
        clear hw
        clear hz1 hk1 ht hvm hP1 hD1 hFc hDc
        clear hPc hKc
        refine lv_aload_n hx hb dL_act_85 rfl (lv_at hl 3 rfl) ?_
        refine va_get (D := (dC, dI)) (ci := 1) (v := .int (nI (g + 1))) (C := RX1) (T := TX1) (N := 5) hx hb hts hin1 hown hK hP 7 rfl rfl 0 (by decide) (hts (.fieldLink RL 9 "GuestChairsLaw$Sim" "guests" "I") (by decide +kernel)) (fun _ h9 => h9) rfl dL_act_86 ?_
        refine lv_iconst (v := 1) hx hb dL_act_89 (by decide) ?_
        refine lv_isub hx hb dL_act_90 ?_
        refine gc_topi (y := nI g) (nI_pred g) ?_
        refine lv_icmp_ne (tgt := 98) hx hb dL_act_91 (by decide) (fun h => absurd rfl h) (fun _ => ?_)
        refine lv_iconst (v := 1) hx hb dL_act_94 (by decide) ?_
        refine lv_goto (tgt := 99) hx hb dL_act_95 (by decide) ?_
        refine W.widen (k := 2) (n := 34) (by omega) (by omega) ?_
        have hpost : (1 : Int32) = 1 ∧ 1 ≤ (g + 1) ∧ Inv K (g + 1) r f1 f2 inf (gLA f1 f2 inf (-1) r dr) (gCl (gLA f1 f2 inf (-1) r cl) 20) ((gLs (gCl (gLA f1 f2 inf (-1) r cl) 20) se (g + 1) (g + 1)).1) ((gLs (gCl (gLA f1 f2 inf (-1) r cl) 20) se (g + 1) (g + 1)).2) := ⟨rfl, by omega, Inv_invite hI hlt⟩
        have hWe : (((gcW h kc f1 f2 (gLA f1 f2 inf (-1) r dr) (gCl (gLA f1 f2 inf (-1) r cl) 20) tr ((gLs (gCl (gLA f1 f2 inf (-1) r cl) 20) se (g + 1) (g + 1)).1) (nI (g + 1)) (nI r) inf (nI (gLs (gCl (gLA f1 f2 inf (-1) r cl) 20) se (g + 1) (g + 1)).2) ++ ([(sa, .inr (1, [.int (nI (g + 1)), .ref ru, .null, .null, .int 0]))] ++ ([(ru, qa_R kA r (qa_up r rr))]))) ++ (qT r rr (qE kI 3 (qF K)) ++ [])) : va_W) = ((gcW h kc f1 f2 (gLA f1 f2 inf (-1) r dr) (gCl (gLA f1 f2 inf (-1) r cl) 20) tr ((gLs (gCl (gLA f1 f2 inf (-1) r cl) 20) se (g + 1) (g + 1)).1) (nI (g + 1)) (nI r) inf (nI ((gLs (gCl (gLA f1 f2 inf (-1) r cl) 20) se (g + 1) (g + 1)).2)) ++ ([(sa, .inr (1, [.int (nI (g + 1)), .ref ru, .null, .null, .int 0]))] ++ ([(ru, qa_R kA r (qa_up r rr))]))) ++ (qT r rr (qE kI 3 (qF K)) ++ [])) := rfl
        rw [hWe] at hP hD
        exact W.zret (ty := .boolean) (v := 1) hx hb hr (by first | rfl | decide | exact gB_nar _) (fun t ht hW => ⟨⟨1, (K, (g + 1), r, f1, f2, gLA f1 f2 inf (-1) r dr, gCl (gLA f1 f2 inf (-1) r cl) 20, tr, (gLs (gCl (gLA f1 f2 inf (-1) r cl) 20) se (g + 1) (g + 1)).1, inf, ((gLs (gCl (gLA f1 f2 inf (-1) r cl) 20) se (g + 1) (g + 1)).2), ru, rr), rfl, hpost, ⟨by rw [ht]; exact hP, hD⟩⟩, hS.F ht⟩) hS.2.2 dL_act_99
      · skip
        refine lv_iconst (v := 1) hx hb dL_act_69 (by decide) ?_
        refine W.widen (k := 2) (n := 34) (by omega) (by omega) ?_
        have hpost : (1 : Int32) = 1 ∧ 1 ≤ g ∧ Inv K g r f1 f2 inf dr cl se ct := ⟨rfl, hg1, hI⟩
        exact W.zret (ty := .boolean) (v := 1) hx hb hr (by first | rfl | decide | exact gB_nar _) (fun t ht hW => ⟨⟨1, (K, g, r, f1, f2, dr, cl, tr, se, inf, ct, ru, rr), rfl, hpost, ⟨by rw [ht]; exact hP, hD⟩⟩, hS.F ht⟩) hS.2.2 dL_act_70
    · skip
      refine q_tab3 (tgt := 100) hx hb dL_act_31 hc9 (by decide) ?_
      refine lv_iload hx hb dL_act_100 (lv_at hl 0 rfl) ?_
      refine lv_if_ne (tgt := 107) hx hb dL_act_102 (by decide) (fun c_102 => ?_) (fun c_102 => ?_)
      · skip
        have hr1 : 0 < r := by (rcases Nat.eq_zero_or_pos r with q | q; exact absurd (by rw [q]; rfl) c_102; exact q)
        refine lv_aload_n hx hb dL_act_107 rfl (lv_at hl 3 rfl) ?_
        refine va_get (D := (dC, dI)) (ci := 1) (v := .ref ru) (C := RX1) (T := TX1) (N := 5) hx hb hts hin1 hown hK hP 7 rfl rfl 1 (by decide) (hts (.fieldLink RL 15 "GuestChairsLaw$Sim" "rules" "[[I") (by decide +kernel)) (fun _ h9 => h9) rfl dL_act_108 ?_
        refine lv_iload_n hx hb dL_act_111 rfl (lv_at hl 4 rfl) ?_
        refine lv_iload hx hb dL_act_112 (lv_at hl 0 rfl) ?_
        refine va_calli (va_runS (As := [.int xx, .int (nI r)]) (rest := [.ref ru]) ⟨hx, hb, hml, hown, hts⟩ (c_L_below l xx r (by first | assumption | omega) (by first | assumption | omega)) (va_cwS 2 hts gL_act_L_below rfl rfl rfl (by decide +kernel) ⟨Nat.le_of_ble_eq_true rfl, Nat.le_of_ble_eq_true rfl⟩) ⟨fun a U g mk q => q, fun U hU hW => ⟨rfl, trivial⟩⟩ rfl rfl hl.1 rfl (lv_room (Nat.le_of_ble_eq_true rfl)) dL_act_114 ⟨by show _ ≤ (2 : Nat); omega, by show _ ≤ (34 : Nat); omega⟩) hS (fun q _ h => h.elim) (fun q h => h.elim) (fun r3 u t H locs ht hvm hw hB hz1 hk1 hS => ?_)
        have hP := gc_keep hP hk1
        have hw : r3 = nI (xx.toBitVec.toNat % 2 ^ 31 % r) := hw
        subst hw
        clear hw
        clear hB hz1 hk1 ht hvm
        obtain ⟨j9, hj9, ej9⟩ : ∃ k : Nat, k < r ∧ xx.toBitVec.toNat % 2 ^ 31 % r = k := ⟨_, Nat.mod_lt _ (hr1), rfl⟩
        rw [ej9]
        refine qa_ald hx hb hK hP 8 6 rfl rfl (v := rr j9) (vp_in_nI (n := j9) (N := r) (by omega) (by omega)) (by rw [show (nI j9 : Int32).toNatClampNeg = j9 from nI_clamp (by omega)]; exact qa_up_at (by omega)) dL_act_117 ?_
        refine lv_astore (lv' := [(5, .ref (rr j9)), (4, .int (nI r)), (3, .int (nI (2 * g))), (0, .ref (h 0)), (1, .ref sa), (2, .int xx)]) hx hb dL_act_118 hl (by decide) rfl (fun ls hl => ?_)
        refine lv_aload hx hb dL_act_120 (lv_at hl 0 rfl) ?_
        refine lv_iconst (v := 2) hx hb dL_act_122 (by decide) ?_
        refine lv_iconst (v := 1) hx hb dL_act_123 (by decide) ?_
        refine lv_aload hx hb dL_act_124 (lv_at hl 0 rfl) ?_
        refine lv_iconst (v := 2) hx hb dL_act_126 (by decide) ?_
        refine va_iald hx hb hK hP _ 7 (qR1 (i := j9) (by omega) _ _) rfl (vp_in_nI (n := 2) (N := 3) (by omega) (by omega)) dL_act_127 ?_
        rw [show (2 : Int32).toNatClampNeg = 2 from rfl]
        refine gc_topi (y := gB (K.2.2.2 j9)) rfl ?_
        refine lv_isub hx hb dL_act_128 ?_
        refine gc_topi (y := gB (!K.2.2.2 j9)) (gB_not _) ?_
        refine va_iast hx hb hK hP hD hS _ 7 (qR1 (i := j9) (by omega) _ _) rfl (vp_in_nI (n := 2) (N := 3) (by omega) (by omega)) dL_act_129 (fun H locs hP hD hS => ?_)
        have hW9 := qW1 (X := (gcW h kc f1 f2 dr cl tr se (nI g) (nI r) inf (nI ct) ++ ([(sa, .inr (1, [.int (nI g), .ref ru, .null, .null, .int 0]))] ++ ([(ru, qa_R kA r (qa_up r rr))])))) (Y := []) (k := kI) (m := r) (len := 3) (i := j9) (by omega) rr (qF K) (upd ((qF K) j9) 2 (gB (!K.2.2.2 j9)))
        rw [show (2 : Int32).toNatClampNeg = 2 from rfl] at hP hD
        have hP : va_P (dC, dI) vwCl ((gcW h kc f1 f2 dr cl tr se (nI g) (nI r) inf (nI ct) ++ ([(sa, .inr (1, [.int (nI g), .ref ru, .null, .null, .int 0]))] ++ ([(ru, qa_R kA r (qa_up r rr))]))) ++ (qT r rr (qE kI 3 (va_up (qF K) j9 (upd ((qF K) j9) 2 (gB (!K.2.2.2 j9))))) ++ [])) H := by rw [← hW9]; exact hP
        have hD : va_D A ((gcW h kc f1 f2 dr cl tr se (nI g) (nI r) inf (nI ct) ++ ([(sa, .inr (1, [.int (nI g), .ref ru, .null, .null, .int 0]))] ++ ([(ru, qa_R kA r (qa_up r rr))]))) ++ (qT r rr (qE kI 3 (va_up (qF K) j9 (upd ((qF K) j9) 2 (gB (!K.2.2.2 j9))))) ++ [])) := by rw [← hW9]; exact hD
        clear hW9
        rw [show (va_up (qF K) j9 (upd ((qF K) j9) 2 (gB (!K.2.2.2 j9)))) = qF (kTurn K j9) from qF_turn K j9] at hP hD
        have hP : va_P (dC, dI) vwCl ((gcW h kc f1 f2 dr cl tr se (nI g) (nI r) inf (nI ct) ++ ([(sa, .inr (1, [.int (nI g), .ref ru, .null, .null, .int 0]))] ++ ([(ru, qa_R kA r (qa_up r rr))]))) ++ (qT r rr (qE kI 3 (qF (kTurn K j9))) ++ [])) H := hP
        have hD : va_D A ((gcW h kc f1 f2 dr cl tr se (nI g) (nI r) inf (nI ct) ++ ([(sa, .inr (1, [.int (nI g), .ref ru, .null, .null, .int 0]))] ++ ([(ru, qa_R kA r (qa_up r rr))]))) ++ (qT r rr (qE kI 3 (qF (kTurn K j9))) ++ [])) := hD
        refine lv_aload_n hx hb dL_act_130 rfl (lv_at hl 3 rfl) ?_
        refine lv_iload_n hx hb dL_act_131 rfl (lv_at hl 5 rfl) ?_
        refine lv_iload hx hb dL_act_132 (lv_at hl 1 rfl) ?_
        refine va_calli (va_runS (As := [.int xx, .int (nI r)]) (rest := [.ref (h 0)]) ⟨hx, hb, hml, hown, hts⟩ (c_L_below l xx r (by first | assumption | omega) (by first | assumption | omega)) (va_cwS 2 hts gL_act_L_below rfl rfl rfl (by decide +kernel) ⟨Nat.le_of_ble_eq_true rfl, Nat.le_of_ble_eq_true rfl⟩) ⟨fun a U g mk q => q, fun U hU hW => ⟨rfl, trivial⟩⟩ rfl rfl hl.1 rfl (lv_room (Nat.le_of_ble_eq_true rfl)) dL_act_134 ⟨by show _ ≤ (2 : Nat); omega, by show _ ≤ (34 : Nat); omega⟩) hS (fun q _ h => h.elim) (fun q h => h.elim) (fun r4 u t H locs ht hvm hw hB hz1 hk1 hS => ?_)
        have hP := gc_keep hP hk1
        have hw : r4 = nI (xx.toBitVec.toNat % 2 ^ 31 % r) := hw
        subst hw
        clear hw
        clear hB hz1 hk1 ht hvm
        rw [ej9]
        have hPc : va_P (dC, dI) vwCl (gcW h kc f1 f2 dr cl tr se (nI g) (nI r) inf (nI ct)) _ := hP.sub [0, 1, 2, 3, 4, 5, 6] rfl
        have hKc : va_K (dC, dI) vwCl (gcT kc) s := hK.sub [0, 1, 2, 3, 4, 5] rfl
        have hDc : va_D A (gcW h kc f1 f2 dr cl tr se (nI g) (nI r) inf (nI ct)) := hD.sub [0, 1, 2, 3, 4, 5, 6] (by decide) rfl
        have hFc := va_free (wc := (gcW h kc f1 f2 dr cl tr se (nI g) (nI r) inf (nI ct))) hD hS hA [0, 1, 2, 3, 4, 5, 6] rfl
        refine va_calli (va_runV (As := [.int (nI j9)]) (rest := []) ⟨hx, hb, hml, hown, hts⟩ (c_X0_turn l dC dI h kc f1 f2 dr cl tr se g r inf ct j9 H.size (by first | assumption | omega) (by first | assumption | omega) (by first | assumption | omega)) (cwV 1 hts gL_act_X0_turn rfl rfl rfl (by decide +kernel) ⟨Nat.le_of_ble_eq_true rfl, Nat.le_of_ble_eq_true rfl⟩) ⟨gcPM_blind, va_recv hK hP (ci := 0) (q0 := 0) rfl rfl, fun U hU hW => ⟨rfl, by rw [hU], by rw [hU]; exact hPc, va_K.moved hW.alike hKc, hDc.weaken (fun _ _ _ _ => trivial)⟩⟩ rfl rfl hl.1 rfl (lv_room (Nat.le_of_ble_eq_true rfl)) dL_act_137 ⟨by show _ ≤ (2 : Nat); omega, by show _ ≤ (34 : Nat); omega⟩) hS (fun q _ h => hFc q h) hFc (fun r5 u t H locs ht hvm hw hB hz1 hk1 hS => ?_)
        obtain ⟨hP1, hD1⟩ := hB
        rw [ht] at hP1
        obtain ⟨hP, hD⟩ := va_joinQ (wr := [(sa, .inr (1, [.int (nI g), .ref ru, .null, .null, .int 0])), (ru, qa_R kA r (qa_up r rr))]) (w1 := (gcW h kc f1 f2 (gLA f1 f2 (inf ^^^ ((1 : Int32) <<< (nI j9 &&& 31))) (-1) r dr) (gCl (gLA f1 f2 (inf ^^^ ((1 : Int32) <<< (nI j9 &&& 31))) (-1) r cl) 20) tr ((gLs (gCl (gLA f1 f2 (inf ^^^ ((1 : Int32) <<< (nI j9 &&& 31))) (-1) r cl) 20) se g g).1) (nI g) (nI r) (inf ^^^ ((1 : Int32) <<< (nI j9 &&& 31))) (nI (gLs (gCl (gLA f1 f2 (inf ^^^ ((1 : Int32) <<< (nI j9 &&& 31))) (-1) r cl) 20) se g g).2))) hP hD [0, 1, 2, 3, 4, 5, 6] [7, 8] rfl rfl (by decide) (by decide) hk1 hFc hP1 hD1
        have hP : va_P (dC, dI) vwCl ((gcW h kc f1 f2 (gLA f1 f2 (inf ^^^ ((1 : Int32) <<< (nI j9 &&& 31))) (-1) r dr) (gCl (gLA f1 f2 (inf ^^^ ((1 : Int32) <<< (nI j9 &&& 31))) (-1) r cl) 20) tr ((gLs (gCl (gLA f1 f2 (inf ^^^ ((1 : Int32) <<< (nI j9 &&& 31))) (-1) r cl) 20) se g g).1) (nI g) (nI r) (inf ^^^ ((1 : Int32) <<< (nI j9 &&& 31))) (nI (gLs (gCl (gLA f1 f2 (inf ^^^ ((1 : Int32) <<< (nI j9 &&& 31))) (-1) r cl) 20) se g g).2) ++ ([(sa, .inr (1, [.int (nI g), .ref ru, .null, .null, .int 0]))] ++ ([(ru, qa_R kA r (qa_up r rr))]))) ++ (qT r rr (qE kI 3 (qF (kTurn K j9))) ++ [])) H := hP.part [2, 3, 4, 5, 6, 7, 8, 0, 1] rfl
        have hD : va_D A ((gcW h kc f1 f2 (gLA f1 f2 (inf ^^^ ((1 : Int32) <<< (nI j9 &&& 31))) (-1) r dr) (gCl (gLA f1 f2 (inf ^^^ ((1 : Int32) <<< (nI j9 &&& 31))) (-1) r cl) 20) tr ((gLs (gCl (gLA f1 f2 (inf ^^^ ((1 : Int32) <<< (nI j9 &&& 31))) (-1) r cl) 20) se g g).1) (nI g) (nI r) (inf ^^^ ((1 : Int32) <<< (nI j9 &&& 31))) (nI (gLs (gCl (gLA f1 f2 (inf ^^^ ((1 : Int32) <<< (nI j9 &&& 31))) (-1) r cl) 20) se g g).2) ++ ([(sa, .inr (1, [.int (nI g), .ref ru, .null, .null, .int 0]))] ++ ([(ru, qa_R kA r (qa_up r rr))]))) ++ (qT r rr (qE kI 3 (qF (kTurn K j9))) ++ [])) := hD.part [2, 3, 4, 5, 6, 7, 8, 0, 1] (by decide) rfl
        have hw : r5 = gB (gHas (inf ^^^ ((1 : Int32) <<< (nI j9 &&& 31))) (nI j9)) := hw
        subst hw
        clear hw
        clear hz1 hk1 ht hvm hP1 hD1 hFc hDc
        clear hPc hKc
        refine gc_topi (y := gB (!K.2.2.2 j9)) (by rw [turn_eq hOK hr30 hj9]) ?_
        refine lv_aload hx hb dL_act_140 (lv_at hl 0 rfl) ?_
        refine lv_iconst (v := 2) hx hb dL_act_142 (by decide) ?_
        refine va_iald hx hb hK hP _ 7 (qR1 (i := j9) (by omega) _ _) rfl (vp_in_nI (n := 2) (N := 3) (by omega) (by omega)) dL_act_143 ?_
        rw [show (2 : Int32).toNatClampNeg = 2 from rfl]
        refine gc_topi (y := gB ((kTurn K j9).2.2.2 j9)) rfl ?_
        refine gc_topi (y := gB (!K.2.2.2 j9)) (by simp [kTurn]) ?_
        refine lv_iconst (v := 1) hx hb dL_act_144 (by decide) ?_
        refine lv_icmp_ne (tgt := 152) hx hb dL_act_145 (by decide) (fun c_145 => ?_) (fun c_145 => ?_)
        · skip
          refine lv_iconst (v := 0) hx hb dL_act_152 (by decide) ?_
          refine lv_icmp_ne (tgt := 160) hx hb dL_act_153 (by decide) (fun c_153 => ?_) (fun c_153 => ?_)
          · skip
            exact absurd (by rw [gB_ne1 c_145]; rfl) c_153
          · skip
            refine lv_iconst (v := 1) hx hb dL_act_156 (by decide) ?_
            refine lv_goto (tgt := 161) hx hb dL_act_157 (by decide) ?_
            refine W.widen (k := 2) (n := 34) (by omega) (by omega) ?_
            have hpost : (1 : Int32) = 1 ∧ 1 ≤ g ∧ Inv (kTurn K j9) g r f1 f2 (inf ^^^ ((1 : Int32) <<< (nI j9 &&& 31))) (gLA f1 f2 (inf ^^^ ((1 : Int32) <<< (nI j9 &&& 31))) (-1) r dr) (gCl (gLA f1 f2 (inf ^^^ ((1 : Int32) <<< (nI j9 &&& 31))) (-1) r cl) 20) ((gLs (gCl (gLA f1 f2 (inf ^^^ ((1 : Int32) <<< (nI j9 &&& 31))) (-1) r cl) 20) se g g).1) ((gLs (gCl (gLA f1 f2 (inf ^^^ ((1 : Int32) <<< (nI j9 &&& 31))) (-1) r cl) 20) se g g).2) := ⟨rfl, hg1, Inv_turn hI hj9⟩
            have hWe : (((gcW h kc f1 f2 (gLA f1 f2 (inf ^^^ ((1 : Int32) <<< (nI j9 &&& 31))) (-1) r dr) (gCl (gLA f1 f2 (inf ^^^ ((1 : Int32) <<< (nI j9 &&& 31))) (-1) r cl) 20) tr ((gLs (gCl (gLA f1 f2 (inf ^^^ ((1 : Int32) <<< (nI j9 &&& 31))) (-1) r cl) 20) se g g).1) (nI g) (nI r) (inf ^^^ ((1 : Int32) <<< (nI j9 &&& 31))) (nI (gLs (gCl (gLA f1 f2 (inf ^^^ ((1 : Int32) <<< (nI j9 &&& 31))) (-1) r cl) 20) se g g).2) ++ ([(sa, .inr (1, [.int (nI g), .ref ru, .null, .null, .int 0]))] ++ ([(ru, qa_R kA r (qa_up r rr))]))) ++ (qT r rr (qE kI 3 (qF (kTurn K j9))) ++ [])) : va_W) = ((gcW h kc f1 f2 (gLA f1 f2 (inf ^^^ ((1 : Int32) <<< (nI j9 &&& 31))) (-1) r dr) (gCl (gLA f1 f2 (inf ^^^ ((1 : Int32) <<< (nI j9 &&& 31))) (-1) r cl) 20) tr ((gLs (gCl (gLA f1 f2 (inf ^^^ ((1 : Int32) <<< (nI j9 &&& 31))) (-1) r cl) 20) se g g).1) (nI g) (nI r) (inf ^^^ ((1 : Int32) <<< (nI j9 &&& 31))) (nI ((gLs (gCl (gLA f1 f2 (inf ^^^ ((1 : Int32) <<< (nI j9 &&& 31))) (-1) r cl) 20) se g g).2)) ++ ([(sa, .inr (1, [.int (nI g), .ref ru, .null, .null, .int 0]))] ++ ([(ru, qa_R kA r (qa_up r rr))]))) ++ (qT r rr (qE kI 3 (qF (kTurn K j9))) ++ [])) := rfl
            rw [hWe] at hP hD
            exact W.zret (ty := .boolean) (v := 1) hx hb hr (by first | rfl | decide | exact gB_nar _) (fun t ht hW => ⟨⟨1, (kTurn K j9, g, r, f1, f2, gLA f1 f2 (inf ^^^ ((1 : Int32) <<< (nI j9 &&& 31))) (-1) r dr, gCl (gLA f1 f2 (inf ^^^ ((1 : Int32) <<< (nI j9 &&& 31))) (-1) r cl) 20, tr, (gLs (gCl (gLA f1 f2 (inf ^^^ ((1 : Int32) <<< (nI j9 &&& 31))) (-1) r cl) 20) se g g).1, (inf ^^^ ((1 : Int32) <<< (nI j9 &&& 31))), ((gLs (gCl (gLA f1 f2 (inf ^^^ ((1 : Int32) <<< (nI j9 &&& 31))) (-1) r cl) 20) se g g).2), ru, rr), rfl, hpost, ⟨by rw [ht]; exact hP, hD⟩⟩, hS.F ht⟩) hS.2.2 dL_act_161
        · skip
          refine lv_iconst (v := 1) hx hb dL_act_148 (by decide) ?_
          refine lv_goto (tgt := 153) hx hb dL_act_149 (by decide) ?_
          refine lv_icmp_ne (tgt := 160) hx hb dL_act_153 (by decide) (fun c_153 => ?_) (fun c_153 => ?_)
          · skip
            exact absurd c_145 c_153
          · skip
            refine lv_iconst (v := 1) hx hb dL_act_156 (by decide) ?_
            refine lv_goto (tgt := 161) hx hb dL_act_157 (by decide) ?_
            refine W.widen (k := 2) (n := 34) (by omega) (by omega) ?_
            have hpost : (1 : Int32) = 1 ∧ 1 ≤ g ∧ Inv (kTurn K j9) g r f1 f2 (inf ^^^ ((1 : Int32) <<< (nI j9 &&& 31))) (gLA f1 f2 (inf ^^^ ((1 : Int32) <<< (nI j9 &&& 31))) (-1) r dr) (gCl (gLA f1 f2 (inf ^^^ ((1 : Int32) <<< (nI j9 &&& 31))) (-1) r cl) 20) ((gLs (gCl (gLA f1 f2 (inf ^^^ ((1 : Int32) <<< (nI j9 &&& 31))) (-1) r cl) 20) se g g).1) ((gLs (gCl (gLA f1 f2 (inf ^^^ ((1 : Int32) <<< (nI j9 &&& 31))) (-1) r cl) 20) se g g).2) := ⟨rfl, hg1, Inv_turn hI hj9⟩
            have hWe : (((gcW h kc f1 f2 (gLA f1 f2 (inf ^^^ ((1 : Int32) <<< (nI j9 &&& 31))) (-1) r dr) (gCl (gLA f1 f2 (inf ^^^ ((1 : Int32) <<< (nI j9 &&& 31))) (-1) r cl) 20) tr ((gLs (gCl (gLA f1 f2 (inf ^^^ ((1 : Int32) <<< (nI j9 &&& 31))) (-1) r cl) 20) se g g).1) (nI g) (nI r) (inf ^^^ ((1 : Int32) <<< (nI j9 &&& 31))) (nI (gLs (gCl (gLA f1 f2 (inf ^^^ ((1 : Int32) <<< (nI j9 &&& 31))) (-1) r cl) 20) se g g).2) ++ ([(sa, .inr (1, [.int (nI g), .ref ru, .null, .null, .int 0]))] ++ ([(ru, qa_R kA r (qa_up r rr))]))) ++ (qT r rr (qE kI 3 (qF (kTurn K j9))) ++ [])) : va_W) = ((gcW h kc f1 f2 (gLA f1 f2 (inf ^^^ ((1 : Int32) <<< (nI j9 &&& 31))) (-1) r dr) (gCl (gLA f1 f2 (inf ^^^ ((1 : Int32) <<< (nI j9 &&& 31))) (-1) r cl) 20) tr ((gLs (gCl (gLA f1 f2 (inf ^^^ ((1 : Int32) <<< (nI j9 &&& 31))) (-1) r cl) 20) se g g).1) (nI g) (nI r) (inf ^^^ ((1 : Int32) <<< (nI j9 &&& 31))) (nI ((gLs (gCl (gLA f1 f2 (inf ^^^ ((1 : Int32) <<< (nI j9 &&& 31))) (-1) r cl) 20) se g g).2)) ++ ([(sa, .inr (1, [.int (nI g), .ref ru, .null, .null, .int 0]))] ++ ([(ru, qa_R kA r (qa_up r rr))]))) ++ (qT r rr (qE kI 3 (qF (kTurn K j9))) ++ [])) := rfl
            rw [hWe] at hP hD
            exact W.zret (ty := .boolean) (v := 1) hx hb hr (by first | rfl | decide | exact gB_nar _) (fun t ht hW => ⟨⟨1, (kTurn K j9, g, r, f1, f2, gLA f1 f2 (inf ^^^ ((1 : Int32) <<< (nI j9 &&& 31))) (-1) r dr, gCl (gLA f1 f2 (inf ^^^ ((1 : Int32) <<< (nI j9 &&& 31))) (-1) r cl) 20, tr, (gLs (gCl (gLA f1 f2 (inf ^^^ ((1 : Int32) <<< (nI j9 &&& 31))) (-1) r cl) 20) se g g).1, (inf ^^^ ((1 : Int32) <<< (nI j9 &&& 31))), ((gLs (gCl (gLA f1 f2 (inf ^^^ ((1 : Int32) <<< (nI j9 &&& 31))) (-1) r cl) 20) se g g).2), ru, rr), rfl, hpost, ⟨by rw [ht]; exact hP, hD⟩⟩, hS.F ht⟩) hS.2.2 dL_act_161
      · skip
        refine lv_iconst (v := 1) hx hb dL_act_105 (by decide) ?_
        refine W.widen (k := 2) (n := 34) (by omega) (by omega) ?_
        have hpost : (1 : Int32) = 1 ∧ 1 ≤ g ∧ Inv K g r f1 f2 inf dr cl se ct := ⟨rfl, hg1, hI⟩
        exact W.zret (ty := .boolean) (v := 1) hx hb hr (by first | rfl | decide | exact gB_nar _) (fun t ht hW => ⟨⟨1, (K, g, r, f1, f2, dr, cl, tr, se, inf, ct, ru, rr), rfl, hpost, ⟨by rw [ht]; exact hP, hD⟩⟩, hS.F ht⟩) hS.2.2 dL_act_106
    · skip
      refine lv_tableOut (tgt := 162) hx hb dL_act_31 (Or.inr (by rw [nI_toInt (by omega)]; omega)) (by decide) ?_
      refine lv_iload_n hx hb dL_act_162 rfl (lv_at hl 4 rfl) ?_
      refine lv_iload_n hx hb dL_act_163 rfl (lv_at hl 1 rfl) ?_
      refine va_calli (va_runS (As := [.int xx, .int (nI (2 * g))]) (rest := []) ⟨hx, hb, hml, hown, hts⟩ (c_L_below l xx (2 * g) (by first | assumption | omega) (by first | assumption | omega)) (va_cwS 2 hts gL_act_L_below rfl rfl rfl (by decide +kernel) ⟨Nat.le_of_ble_eq_true rfl, Nat.le_of_ble_eq_true rfl⟩) ⟨fun a U g mk q => q, fun U hU hW => ⟨rfl, trivial⟩⟩ rfl rfl hl.1 rfl (lv_room (Nat.le_of_ble_eq_true rfl)) dL_act_164 ⟨by show _ ≤ (2 : Nat); omega, by show _ ≤ (34 : Nat); omega⟩) hS (fun q _ h => h.elim) (fun q h => h.elim) (fun r6 u t H locs ht hvm hw hB hz1 hk1 hS => ?_)
      have hP := gc_keep hP hk1
      have hw : r6 = nI (xx.toBitVec.toNat % 2 ^ 31 % (2 * g)) := hw
      subst hw
      clear hw
      clear hB hz1 hk1 ht hvm
      obtain ⟨wa, hwa, ewa⟩ : ∃ k : Nat, k < 2 * g ∧ xx.toBitVec.toNat % 2 ^ 31 % (2 * g) = k := ⟨_, Nat.mod_lt _ (by omega), rfl⟩
      rw [ewa]
      refine lv_istore (lv' := [(6, .int (nI wa)), (4, .int (nI r)), (3, .int (nI (2 * g))), (0, .ref (h 0)), (1, .ref sa), (2, .int xx)]) hx hb dL_act_167 hl (by decide) rfl (fun ls hl => ?_)
      refine lv_iload_n hx hb dL_act_169 rfl (lv_at hl 5 rfl) ?_
      refine lv_iconst (v := 3) hx hb dL_act_170 (by decide) ?_
      refine lv_ishr hx hb dL_act_171 ?_
      refine lv_iload_n hx hb dL_act_172 rfl (lv_at hl 2 rfl) ?_
      refine va_calli (va_runS (As := [.int (xx >>> ((3 : Int32) &&& 31)), .int (nI (2 * g))]) (rest := []) ⟨hx, hb, hml, hown, hts⟩ (c_L_below l (xx >>> ((3 : Int32) &&& 31)) (2 * g) (by first | assumption | omega) (by first | assumption | omega)) (va_cwS 2 hts gL_act_L_below rfl rfl rfl (by decide +kernel) ⟨Nat.le_of_ble_eq_true rfl, Nat.le_of_ble_eq_true rfl⟩) ⟨fun a U g mk q => q, fun U hU hW => ⟨rfl, trivial⟩⟩ rfl rfl hl.1 rfl (lv_room (Nat.le_of_ble_eq_true rfl)) dL_act_173 ⟨by show _ ≤ (2 : Nat); omega, by show _ ≤ (34 : Nat); omega⟩) hS (fun q _ h => h.elim) (fun q h => h.elim) (fun r7 u t H locs ht hvm hw hB hz1 hk1 hS => ?_)
      have hP := gc_keep hP hk1
      have hw : r7 = nI ((xx >>> ((3 : Int32) &&& 31)).toBitVec.toNat % 2 ^ 31 % (2 * g)) := hw
      subst hw
      clear hw
      clear hB hz1 hk1 ht hvm
      obtain ⟨wb, hwb, ewb⟩ : ∃ k : Nat, k < 2 * g ∧ (xx >>> ((3 : Int32) &&& 31)).toBitVec.toNat % 2 ^ 31 % (2 * g) = k := ⟨_, Nat.mod_lt _ (by omega), rfl⟩
      rw [ewb]
      refine lv_istore (lv' := [(7, .int (nI wb)), (6, .int (nI wa)), (4, .int (nI r)), (3, .int (nI (2 * g))), (0, .ref (h 0)), (1, .ref sa), (2, .int xx)]) hx hb dL_act_176 hl (by decide) rfl (fun ls hl => ?_)
      refine lv_iload hx hb dL_act_178 (lv_at hl 1 rfl) ?_
      refine lv_iload hx hb dL_act_180 (lv_at hl 0 rfl) ?_
      refine lv_icmp_eq (tgt := 192) hx hb dL_act_182 (by decide) (fun c_182 => ?_) (fun c_182 => ?_)
      · skip
        refine lv_iconst (v := 1) hx hb dL_act_192 (by decide) ?_
        refine W.widen (k := 2) (n := 34) (by omega) (by omega) ?_
        have hpost : (1 : Int32) = 1 ∧ 1 ≤ g ∧ Inv K g r f1 f2 inf dr cl se ct := ⟨rfl, hg1, hI⟩
        exact W.zret (ty := .boolean) (v := 1) hx hb hr (by first | rfl | decide | exact gB_nar _) (fun t ht hW => ⟨⟨1, (K, g, r, f1, f2, dr, cl, tr, se, inf, ct, ru, rr), rfl, hpost, ⟨by rw [ht]; exact hP, hD⟩⟩, hS.F ht⟩) hS.2.2 dL_act_193
      · skip
        have hne9 : ¬ wa = wb := fun q => c_182 (by rw [q])
        refine lv_iload hx hb dL_act_185 (lv_at hl 2 rfl) ?_
        refine lv_bipush (v := 30) hx hb dL_act_187 (by decide) ?_
        refine lv_icmp_ne (tgt := 194) hx hb dL_act_189 (by decide) (fun c_189 => ?_) (fun c_189 => ?_)
        · skip
          have hr9 : r < 30 := by (rcases Nat.lt_or_ge r 30 with q | q; exact q; exact absurd (by rw [show r = 30 by omega]; rfl) c_189)
          refine lv_aload_n hx hb dL_act_194 rfl (lv_at hl 5 rfl) ?_
          refine lv_aload_n hx hb dL_act_195 rfl (lv_at hl 5 rfl) ?_
          refine va_get (D := (dC, dI)) (ci := 1) (v := .ref ru) (C := RX1) (T := TX1) (N := 5) hx hb hts hin1 hown hK hP 7 rfl rfl 1 (by decide) (hts (.fieldLink RL 15 "GuestChairsLaw$Sim" "rules" "[[I") (by decide +kernel)) (fun _ h9 => h9) rfl dL_act_196 ?_
          refine lv_iconst (v := 3) hx hb dL_act_199 (by decide) ?_
          refine qa_newI hx hb (hts (.arrayClass .int) (by decide +kernel)) hK hP hD hS hA 7 rfl (n := 3) (N' := 3) (by decide) (rfl) (by omega) (by show _ ≤ (2 : Nat); omega) (by show _ ≤ (34 : Nat); omega) dL_act_200 (fun q1 H hP hD hS => ?_)
          have hP := hP.perm qa_side
          have hD := hD.perm qa_side
          have hP : va_P (dC, dI) vwCl ((gcW h kc f1 f2 dr cl tr se (nI g) (nI r) inf (nI ct) ++ ([(sa, .inr (1, [.int (nI g), .ref ru, .null, .null, .int 0]))] ++ ([(ru, qa_R kA r (qa_up r rr))] ++ ([(q1, .inl (kI, 3, .inl (fun _ => 0)))])))) ++ (qT r rr (qE kI 3 (qF K)) ++ [])) H := hP
          have hD : va_D A ((gcW h kc f1 f2 dr cl tr se (nI g) (nI r) inf (nI ct) ++ ([(sa, .inr (1, [.int (nI g), .ref ru, .null, .null, .int 0]))] ++ ([(ru, qa_R kA r (qa_up r rr))] ++ ([(q1, .inl (kI, 3, .inl (fun _ => 0)))])))) ++ (qT r rr (qE kI 3 (qF K)) ++ [])) := hD
          refine lv_dup hx hb dL_act_202 rfl ?_
          refine lv_iconst (v := 0) hx hb dL_act_203 (by decide) ?_
          refine lv_iload hx hb dL_act_204 (lv_at hl 1 rfl) ?_
          refine va_iast hx hb hK hP hD hS 9 7 rfl rfl (vp_in_nI (n := 0) (N := 3) (by omega) (by omega)) dL_act_206 (fun H locs hP hD hS => ?_)
          rw [show (0 : Int32).toNatClampNeg = 0 from rfl] at hP hD
          have hP : va_P (dC, dI) vwCl ((gcW h kc f1 f2 dr cl tr se (nI g) (nI r) inf (nI ct) ++ ([(sa, .inr (1, [.int (nI g), .ref ru, .null, .null, .int 0]))] ++ ([(ru, qa_R kA r (qa_up r rr))] ++ ([(q1, .inl (kI, 3, .inl (upd (fun _ => 0) 0 (nI wa))))])))) ++ (qT r rr (qE kI 3 (qF K)) ++ [])) H := hP
          have hD : va_D A ((gcW h kc f1 f2 dr cl tr se (nI g) (nI r) inf (nI ct) ++ ([(sa, .inr (1, [.int (nI g), .ref ru, .null, .null, .int 0]))] ++ ([(ru, qa_R kA r (qa_up r rr))] ++ ([(q1, .inl (kI, 3, .inl (upd (fun _ => 0) 0 (nI wa))))])))) ++ (qT r rr (qE kI 3 (qF K)) ++ [])) := hD
          refine lv_dup hx hb dL_act_207 rfl ?_
          refine lv_iconst (v := 1) hx hb dL_act_208 (by decide) ?_
          refine lv_iload hx hb dL_act_209 (lv_at hl 0 rfl) ?_
          refine va_iast hx hb hK hP hD hS 9 7 rfl rfl (vp_in_nI (n := 1) (N := 3) (by omega) (by omega)) dL_act_211 (fun H locs hP hD hS => ?_)
          rw [show (1 : Int32).toNatClampNeg = 1 from rfl] at hP hD
          have hP : va_P (dC, dI) vwCl ((gcW h kc f1 f2 dr cl tr se (nI g) (nI r) inf (nI ct) ++ ([(sa, .inr (1, [.int (nI g), .ref ru, .null, .null, .int 0]))] ++ ([(ru, qa_R kA r (qa_up r rr))] ++ ([(q1, .inl (kI, 3, .inl (upd (upd (fun _ => 0) 0 (nI wa)) 1 (nI wb))))])))) ++ (qT r rr (qE kI 3 (qF K)) ++ [])) H := hP
          have hD : va_D A ((gcW h kc f1 f2 dr cl tr se (nI g) (nI r) inf (nI ct) ++ ([(sa, .inr (1, [.int (nI g), .ref ru, .null, .null, .int 0]))] ++ ([(ru, qa_R kA r (qa_up r rr))] ++ ([(q1, .inl (kI, 3, .inl (upd (upd (fun _ => 0) 0 (nI wa)) 1 (nI wb))))])))) ++ (qT r rr (qE kI 3 (qF K)) ++ [])) := hD
          refine lv_dup hx hb dL_act_212 rfl ?_
          refine lv_iconst (v := 2) hx hb dL_act_213 (by decide) ?_
          refine lv_iconst (v := 1) hx hb dL_act_214 (by decide) ?_
          refine va_iast hx hb hK hP hD hS 9 7 rfl rfl (vp_in_nI (n := 2) (N := 3) (by omega) (by omega)) dL_act_215 (fun H locs hP hD hS => ?_)
          rw [show (2 : Int32).toNatClampNeg = 2 from rfl] at hP hD
          have hP : va_P (dC, dI) vwCl ((gcW h kc f1 f2 dr cl tr se (nI g) (nI r) inf (nI ct) ++ ([(sa, .inr (1, [.int (nI g), .ref ru, .null, .null, .int 0]))] ++ ([(ru, qa_R kA r (qa_up r rr))] ++ ([(q1, .inl (kI, 3, .inl (upd (upd (upd (fun _ => 0) 0 (nI wa)) 1 (nI wb)) 2 1)))])))) ++ (qT r rr (qE kI 3 (qF K)) ++ [])) H := hP
          have hD : va_D A ((gcW h kc f1 f2 dr cl tr se (nI g) (nI r) inf (nI ct) ++ ([(sa, .inr (1, [.int (nI g), .ref ru, .null, .null, .int 0]))] ++ ([(ru, qa_R kA r (qa_up r rr))] ++ ([(q1, .inl (kI, 3, .inl (upd (upd (upd (fun _ => 0) 0 (nI wa)) 1 (nI wb)) 2 1)))])))) ++ (qT r rr (qE kI 3 (qF K)) ++ [])) := hD
          have hPc : va_P (dC, dI) vwCl (([(ru, qa_R kA r (qa_up r rr))] ++ ([(q1, .inl (kI, 3, .inl (upd (upd (upd (fun _ => 0) 0 (nI wa)) 1 (nI wb)) 2 1)))])) ++ (qT r rr (qE kI 3 (qF K)) ++ [])) _ := hP.part [8, 9] rfl
          have hKc : va_K (dC, dI) vwCl ([(kA, .array .int), (kI, .int)]) s := hK.sub [6, 7] rfl
          have hDc : va_D A (([(ru, qa_R kA r (qa_up r rr))] ++ ([(q1, .inl (kI, 3, .inl (upd (upd (upd (fun _ => 0) 0 (nI wa)) 1 (nI wb)) 2 1)))])) ++ (qT r rr (qE kI 3 (qF K)) ++ [])) := hD.part [8, 9] (by decide) rfl
          have hFc := va_freeP (cx := ([(ru, qa_R kA r (qa_up r rr))] ++ ([(q1, .inl (kI, 3, .inl (upd (upd (upd (fun _ => 0) 0 (nI wa)) 1 (nI wb)) 2 1)))]))) hD hS hA [8, 9] rfl
          refine va_callr (va_runS (As := [.ref ru, .ref q1]) (rest := [.ref sa]) ⟨hx, hb, hml, hown, hts⟩ (c_X1_more l dC dI ru q1 kA kI (upd (upd (upd (fun _ => 0) 0 (nI wa)) 1 (nI wb)) 2 1) r rr K H.size (by first | assumption | omega)) (va_cwS 2 hts gL_act_X1_more rfl rfl rfl (by decide +kernel) ⟨Nat.le_of_ble_eq_true rfl, Nat.le_of_ble_eq_true rfl⟩) ⟨qaPM_blind, fun U hU hW => ⟨rfl, by rw [hU], by rw [hU]; exact hPc, va_K.moved hW.alike hKc, hDc.weaken (fun _ _ _ _ => trivial), va_AOA.moved hW.alike hO⟩⟩ rfl rfl hl.1 rfl (lv_room (Nat.le_of_ble_eq_true rfl)) dL_act_216 ⟨by show _ ≤ (2 : Nat); omega, by show _ ≤ (34 : Nat); omega⟩) hS (fun q _ h => hFc q h) hFc (fun u ra t H locs ht hvm hw hB hz1 hk1 hS => ?_)
          obtain ⟨q9, e_ra⟩ : ∃ z, z = ra := ⟨_, rfl⟩
          subst e_ra
          obtain ⟨hP1, hD1⟩ := hB
          rw [ht] at hP1
          obtain ⟨hP, hD⟩ := va_joinP (wr := [(h 0, .inr (0, [.ref (h 1), .ref (h 2), .ref (h 3), .ref (h 4), .ref (h 5), .ref (h 6), .int (nI g), .int (nI r), .int inf, .int (nI ct)])), (h 1, .inl (kc 1, 30, .inl f1)), (h 2, .inl (kc 2, 30, .inl f2)), (h 3, .inl (kc 3, 20, .inl dr)), (h 4, .inl (kc 4, 20, .inl cl)), (h 5, .inl (kc 5, 20, .inl tr)), (h 6, .inl (kc 6, 1024, .inl se)), (sa, .inr (1, [.int (nI g), .ref ru, .null, .null, .int 0]))]) (rx := ([(ru, qa_R kA r (qa_up r rr))] ++ ([(q1, .inl (kI, 3, .inl (upd (upd (upd (fun _ => 0) 0 (nI wa)) 1 (nI wb)) 2 1)))] ++ ([(q9, qa_R kA (r + 1) (qa_up (r + 1) (qA r rr q1)))])))) (pl1 := (qT r rr (qE kI 3 (qF K)) ++ [])) hP hD [8, 9] [0, 1, 2, 3, 4, 5, 6, 7] rfl rfl (by decide) (by decide) hk1 hFc hP1 hD1
          have hP : va_P (dC, dI) vwCl ((gcW h kc f1 f2 dr cl tr se (nI g) (nI r) inf (nI ct) ++ ([(sa, .inr (1, [.int (nI g), .ref ru, .null, .null, .int 0]))] ++ ([(ru, qa_R kA r (qa_up r rr))] ++ ([(q1, .inl (kI, 3, .inl (upd (upd (upd (fun _ => 0) 0 (nI wa)) 1 (nI wb)) 2 1)))] ++ ([(q9, qa_R kA (r + 1) (qa_up (r + 1) (qA r rr q1)))]))))) ++ (qT r rr (qE kI 3 (qF K)) ++ [])) H := hP.part [0, 1, 2, 3, 4, 5, 6, 7, 8, 9, 10] rfl
          have hD : va_D A ((gcW h kc f1 f2 dr cl tr se (nI g) (nI r) inf (nI ct) ++ ([(sa, .inr (1, [.int (nI g), .ref ru, .null, .null, .int 0]))] ++ ([(ru, qa_R kA r (qa_up r rr))] ++ ([(q1, .inl (kI, 3, .inl (upd (upd (upd (fun _ => 0) 0 (nI wa)) 1 (nI wb)) 2 1)))] ++ ([(q9, qa_R kA (r + 1) (qa_up (r + 1) (qA r rr q1)))]))))) ++ (qT r rr (qE kI 3 (qF K)) ++ [])) := hD.part [0, 1, 2, 3, 4, 5, 6, 7, 8, 9, 10] (by decide) rfl
          have hw_216 : True := hw
          clear hz1 hk1 ht hvm hP1 hD1 hFc hDc
          clear hPc hKc
          refine va_put (D := (dC, dI)) (ci := 1) (v := .ref q9) (ty := (.array (.array .int))) (C := RX1) (T := TX1) (N := 5) hx hb hts hin1 tyX1 tyX1_ok nmX1 hown hK hP hD hS 7 rfl rfl 1 (by decide) (hts (.fieldLink RL 15 "GuestChairsLaw$Sim" "rules" "[[I") (by decide +kernel)) (fun _ h9 => h9) rfl (by decide +kernel) rfl rfl (Nat.le_of_ble_eq_true rfl) dL_act_219 (fun H locs hP hD hS => ?_)
          have hP : va_P (dC, dI) vwCl ((gcW h kc f1 f2 dr cl tr se (nI g) (nI r) inf (nI ct) ++ ([(sa, .inr (1, [.int (nI g), .ref q9, .null, .null, .int 0]))] ++ ([(ru, qa_R kA r (qa_up r rr))] ++ ([(q1, .inl (kI, 3, .inl (upd (upd (upd (fun _ => 0) 0 (nI wa)) 1 (nI wb)) 2 1)))] ++ ([(q9, qa_R kA (r + 1) (qa_up (r + 1) (qA r rr q1)))]))))) ++ (qT r rr (qE kI 3 (qF K)) ++ [])) H := hP
          have hD : va_D A ((gcW h kc f1 f2 dr cl tr se (nI g) (nI r) inf (nI ct) ++ ([(sa, .inr (1, [.int (nI g), .ref q9, .null, .null, .int 0]))] ++ ([(ru, qa_R kA r (qa_up r rr))] ++ ([(q1, .inl (kI, 3, .inl (upd (upd (upd (fun _ => 0) 0 (nI wa)) 1 (nI wb)) 2 1)))] ++ ([(q9, qa_R kA (r + 1) (qa_up (r + 1) (qA r rr q1)))]))))) ++ (qT r rr (qE kI 3 (qF K)) ++ [])) := hD
          have hP : va_P (dC, dI) vwCl (((gcW h kc f1 f2 dr cl tr se (nI g) (nI r) inf (nI ct) ++ ([(sa, .inr (1, [.int (nI g), .ref q9, .null, .null, .int 0]))] ++ ([(q9, qa_R kA (r + 1) (qa_up (r + 1) (qA r rr q1)))]))) ++ [(q1, .inl (kI, 3, .inl (upd (upd (upd (fun _ => 0) 0 (nI wa)) 1 (nI wb)) 2 1)))]) ++ (qT r rr (qE kI 3 (qF K)) ++ [])) H := hP.part [0, 1, 2, 3, 4, 5, 6, 7, 10, 9] rfl
          have hD : va_D A (((gcW h kc f1 f2 dr cl tr se (nI g) (nI r) inf (nI ct) ++ ([(sa, .inr (1, [.int (nI g), .ref q9, .null, .null, .int 0]))] ++ ([(q9, qa_R kA (r + 1) (qa_up (r + 1) (qA r rr q1)))]))) ++ [(q1, .inl (kI, 3, .inl (upd (upd (upd (fun _ => 0) 0 (nI wa)) 1 (nI wb)) 2 1)))]) ++ (qT r rr (qE kI 3 (qF K)) ++ [])) := hD.part [0, 1, 2, 3, 4, 5, 6, 7, 10, 9] (by decide) rfl
          have hp9 : List.Perm (α := Nat × va_E) (((gcW h kc f1 f2 dr cl tr se (nI g) (nI r) inf (nI ct) ++ ([(sa, .inr (1, [.int (nI g), .ref q9, .null, .null, .int 0]))] ++ ([(q9, qa_R kA (r + 1) (qa_up (r + 1) (qA r rr q1)))]))) ++ [(q1, .inl (kI, 3, .inl (upd (upd (upd (fun _ => 0) 0 (nI wa)) 1 (nI wb)) 2 1)))]) ++ (qT r rr (qE kI 3 (qF K)) ++ [])) ((gcW h kc f1 f2 dr cl tr se (nI g) (nI r) inf (nI ct) ++ ([(sa, .inr (1, [.int (nI g), .ref q9, .null, .null, .int 0]))] ++ ([(q9, qa_R kA (r + 1) (qa_up (r + 1) (qA r rr q1)))]))) ++ (qT (r + 1) (qA r rr q1) (qE kI 3 (qF (kAdd K r wa wb))) ++ [])) := qT_perm (fun i hi => (qA_ne hi rr q1).symm) (fun i hi => by show (Sum.inl (kI, 3, Sum.inl (qF K i)) : va_E) = .inl (kI, 3, .inl (qF (kAdd K r wa wb) i)); rw [qF_add hi]) (qA_at r rr q1) (by show (Sum.inl (kI, 3, Sum.inl (qF (kAdd K r wa wb) r)) : va_E) = _; rw [qF_new])
          have hP := hP.perm hp9
          have hD := hD.perm hp9
          clear hp9
          have hP : va_P (dC, dI) vwCl ((gcW h kc f1 f2 dr cl tr se (nI g) (nI r) inf (nI ct) ++ ([(sa, .inr (1, [.int (nI g), .ref q9, .null, .null, .int 0]))] ++ ([(q9, qa_R kA (r + 1) (qa_up (r + 1) (qA r rr q1)))]))) ++ (qT (r + 1) (qA r rr q1) (qE kI 3 (qF (kAdd K r wa wb))) ++ [])) H := hP
          have hD : va_D A ((gcW h kc f1 f2 dr cl tr se (nI g) (nI r) inf (nI ct) ++ ([(sa, .inr (1, [.int (nI g), .ref q9, .null, .null, .int 0]))] ++ ([(q9, qa_R kA (r + 1) (qa_up (r + 1) (qA r rr q1)))]))) ++ (qT (r + 1) (qA r rr q1) (qE kI 3 (qF (kAdd K r wa wb))) ++ [])) := hD
          refine lv_aload_n hx hb dL_act_222 rfl (lv_at hl 4 rfl) ?_
          refine lv_iload hx hb dL_act_223 (lv_at hl 1 rfl) ?_
          refine lv_iload hx hb dL_act_225 (lv_at hl 0 rfl) ?_
          have hPc : va_P (dC, dI) vwCl (gcW h kc f1 f2 dr cl tr se (nI g) (nI r) inf (nI ct)) _ := hP.sub [0, 1, 2, 3, 4, 5, 6] rfl
          have hKc : va_K (dC, dI) vwCl (gcT kc) s := hK.sub [0, 1, 2, 3, 4, 5] rfl
          have hDc : va_D A (gcW h kc f1 f2 dr cl tr se (nI g) (nI r) inf (nI ct)) := hD.sub [0, 1, 2, 3, 4, 5, 6] (by decide) rfl
          have hFc := va_free (wc := (gcW h kc f1 f2 dr cl tr se (nI g) (nI r) inf (nI ct))) hD hS hA [0, 1, 2, 3, 4, 5, 6] rfl
          refine va_calli (va_runV (As := [.int (nI wa), .int (nI wb)]) (rest := []) ⟨hx, hb, hml, hown, hts⟩ (c_X0_rule l dC dI h kc f1 f2 dr cl tr se g r inf ct wa wb H.size (by first | assumption | omega) (by first | assumption | omega) (by first | assumption | omega) (by first | assumption | omega) (by first | assumption | omega)) (cwV 2 hts gL_act_X0_rule rfl rfl rfl (by decide +kernel) ⟨Nat.le_of_ble_eq_true rfl, Nat.le_of_ble_eq_true rfl⟩) ⟨gcPM_blind, va_recv hK hP (ci := 0) (q0 := 0) rfl rfl, fun U hU hW => ⟨rfl, by rw [hU], by rw [hU]; exact hPc, va_K.moved hW.alike hKc, hDc.weaken (fun _ _ _ _ => trivial)⟩⟩ rfl rfl hl.1 rfl (lv_room (Nat.le_of_ble_eq_true rfl)) dL_act_227 ⟨by show _ ≤ (2 : Nat); omega, by show _ ≤ (34 : Nat); omega⟩) hS (fun q _ h => hFc q h) hFc (fun r9 u t H locs ht hvm hw hB hz1 hk1 hS => ?_)
          obtain ⟨hP1, hD1⟩ := hB
          rw [ht] at hP1
          obtain ⟨hP, hD⟩ := va_joinQ (wr := [(sa, .inr (1, [.int (nI g), .ref q9, .null, .null, .int 0])), (q9, qa_R kA (r + 1) (qa_up (r + 1) (qA r rr q1)))]) (w1 := (gcW h kc (gPut 30 f1 (nI r) (nI wa)) (gPut 30 f2 (nI r) (nI wb)) (gLA (gPut 30 f1 (nI r) (nI wa)) (gPut 30 f2 (nI r) (nI wb)) (inf ||| ((1 : Int32) <<< (nI r &&& 31))) (-1) (r + 1) dr) (gCl (gLA (gPut 30 f1 (nI r) (nI wa)) (gPut 30 f2 (nI r) (nI wb)) (inf ||| ((1 : Int32) <<< (nI r &&& 31))) (-1) (r + 1) cl) 20) tr ((gLs (gCl (gLA (gPut 30 f1 (nI r) (nI wa)) (gPut 30 f2 (nI r) (nI wb)) (inf ||| ((1 : Int32) <<< (nI r &&& 31))) (-1) (r + 1) cl) 20) se g g).1) (nI g) (nI (r + 1)) (inf ||| ((1 : Int32) <<< (nI r &&& 31))) (nI (gLs (gCl (gLA (gPut 30 f1 (nI r) (nI wa)) (gPut 30 f2 (nI r) (nI wb)) (inf ||| ((1 : Int32) <<< (nI r &&& 31))) (-1) (r + 1) cl) 20) se g g).2))) hP hD [0, 1, 2, 3, 4, 5, 6] [7, 8] rfl rfl (by decide) (by decide) hk1 hFc hP1 hD1
          have hP : va_P (dC, dI) vwCl ((gcW h kc (gPut 30 f1 (nI r) (nI wa)) (gPut 30 f2 (nI r) (nI wb)) (gLA (gPut 30 f1 (nI r) (nI wa)) (gPut 30 f2 (nI r) (nI wb)) (inf ||| ((1 : Int32) <<< (nI r &&& 31))) (-1) (r + 1) dr) (gCl (gLA (gPut 30 f1 (nI r) (nI wa)) (gPut 30 f2 (nI r) (nI wb)) (inf ||| ((1 : Int32) <<< (nI r &&& 31))) (-1) (r + 1) cl) 20) tr ((gLs (gCl (gLA (gPut 30 f1 (nI r) (nI wa)) (gPut 30 f2 (nI r) (nI wb)) (inf ||| ((1 : Int32) <<< (nI r &&& 31))) (-1) (r + 1) cl) 20) se g g).1) (nI g) (nI (r + 1)) (inf ||| ((1 : Int32) <<< (nI r &&& 31))) (nI (gLs (gCl (gLA (gPut 30 f1 (nI r) (nI wa)) (gPut 30 f2 (nI r) (nI wb)) (inf ||| ((1 : Int32) <<< (nI r &&& 31))) (-1) (r + 1) cl) 20) se g g).2) ++ ([(sa, .inr (1, [.int (nI g), .ref q9, .null, .null, .int 0]))] ++ ([(q9, qa_R kA (r + 1) (qa_up (r + 1) (qA r rr q1)))]))) ++ (qT (r + 1) (qA r rr q1) (qE kI 3 (qF (kAdd K r wa wb))) ++ [])) H := hP.part [2, 3, 4, 5, 6, 7, 8, 0, 1] rfl
          have hD : va_D A ((gcW h kc (gPut 30 f1 (nI r) (nI wa)) (gPut 30 f2 (nI r) (nI wb)) (gLA (gPut 30 f1 (nI r) (nI wa)) (gPut 30 f2 (nI r) (nI wb)) (inf ||| ((1 : Int32) <<< (nI r &&& 31))) (-1) (r + 1) dr) (gCl (gLA (gPut 30 f1 (nI r) (nI wa)) (gPut 30 f2 (nI r) (nI wb)) (inf ||| ((1 : Int32) <<< (nI r &&& 31))) (-1) (r + 1) cl) 20) tr ((gLs (gCl (gLA (gPut 30 f1 (nI r) (nI wa)) (gPut 30 f2 (nI r) (nI wb)) (inf ||| ((1 : Int32) <<< (nI r &&& 31))) (-1) (r + 1) cl) 20) se g g).1) (nI g) (nI (r + 1)) (inf ||| ((1 : Int32) <<< (nI r &&& 31))) (nI (gLs (gCl (gLA (gPut 30 f1 (nI r) (nI wa)) (gPut 30 f2 (nI r) (nI wb)) (inf ||| ((1 : Int32) <<< (nI r &&& 31))) (-1) (r + 1) cl) 20) se g g).2) ++ ([(sa, .inr (1, [.int (nI g), .ref q9, .null, .null, .int 0]))] ++ ([(q9, qa_R kA (r + 1) (qa_up (r + 1) (qA r rr q1)))]))) ++ (qT (r + 1) (qA r rr q1) (qE kI 3 (qF (kAdd K r wa wb))) ++ [])) := hD.part [2, 3, 4, 5, 6, 7, 8, 0, 1] (by decide) rfl
          have hw : r9 = nI r := hw
          subst hw
          clear hw
          clear hz1 hk1 ht hvm hP1 hD1 hFc hDc
          clear hPc hKc
          refine lv_iload hx hb dL_act_230 (lv_at hl 2 rfl) ?_
          refine lv_icmp_ne (tgt := 239) hx hb dL_act_232 (by decide) (fun h => absurd rfl h) (fun _ => ?_)
          refine lv_iconst (v := 1) hx hb dL_act_235 (by decide) ?_
          refine lv_goto (tgt := 240) hx hb dL_act_236 (by decide) ?_
          refine W.widen (k := 2) (n := 34) (by omega) (by omega) ?_
          have hpost : (1 : Int32) = 1 ∧ 1 ≤ g ∧ Inv (kAdd K r wa wb) g (r + 1) (gPut 30 f1 (nI r) (nI wa)) (gPut 30 f2 (nI r) (nI wb)) (inf ||| ((1 : Int32) <<< (nI r &&& 31))) (gLA (gPut 30 f1 (nI r) (nI wa)) (gPut 30 f2 (nI r) (nI wb)) (inf ||| ((1 : Int32) <<< (nI r &&& 31))) (-1) (r + 1) dr) (gCl (gLA (gPut 30 f1 (nI r) (nI wa)) (gPut 30 f2 (nI r) (nI wb)) (inf ||| ((1 : Int32) <<< (nI r &&& 31))) (-1) (r + 1) cl) 20) ((gLs (gCl (gLA (gPut 30 f1 (nI r) (nI wa)) (gPut 30 f2 (nI r) (nI wb)) (inf ||| ((1 : Int32) <<< (nI r &&& 31))) (-1) (r + 1) cl) 20) se g g).1) ((gLs (gCl (gLA (gPut 30 f1 (nI r) (nI wa)) (gPut 30 f2 (nI r) (nI wb)) (inf ||| ((1 : Int32) <<< (nI r &&& 31))) (-1) (r + 1) cl) 20) se g g).2) := ⟨rfl, hg1, Inv_rule hI hr9 hwa hwb hne9⟩
          have hWe : (((gcW h kc (gPut 30 f1 (nI r) (nI wa)) (gPut 30 f2 (nI r) (nI wb)) (gLA (gPut 30 f1 (nI r) (nI wa)) (gPut 30 f2 (nI r) (nI wb)) (inf ||| ((1 : Int32) <<< (nI r &&& 31))) (-1) (r + 1) dr) (gCl (gLA (gPut 30 f1 (nI r) (nI wa)) (gPut 30 f2 (nI r) (nI wb)) (inf ||| ((1 : Int32) <<< (nI r &&& 31))) (-1) (r + 1) cl) 20) tr ((gLs (gCl (gLA (gPut 30 f1 (nI r) (nI wa)) (gPut 30 f2 (nI r) (nI wb)) (inf ||| ((1 : Int32) <<< (nI r &&& 31))) (-1) (r + 1) cl) 20) se g g).1) (nI g) (nI (r + 1)) (inf ||| ((1 : Int32) <<< (nI r &&& 31))) (nI (gLs (gCl (gLA (gPut 30 f1 (nI r) (nI wa)) (gPut 30 f2 (nI r) (nI wb)) (inf ||| ((1 : Int32) <<< (nI r &&& 31))) (-1) (r + 1) cl) 20) se g g).2) ++ ([(sa, .inr (1, [.int (nI g), .ref q9, .null, .null, .int 0]))] ++ ([(q9, qa_R kA (r + 1) (qa_up (r + 1) (qA r rr q1)))]))) ++ (qT (r + 1) (qA r rr q1) (qE kI 3 (qF (kAdd K r wa wb))) ++ [])) : va_W) = ((gcW h kc (gPut 30 f1 (nI r) (nI wa)) (gPut 30 f2 (nI r) (nI wb)) (gLA (gPut 30 f1 (nI r) (nI wa)) (gPut 30 f2 (nI r) (nI wb)) (inf ||| ((1 : Int32) <<< (nI r &&& 31))) (-1) (r + 1) dr) (gCl (gLA (gPut 30 f1 (nI r) (nI wa)) (gPut 30 f2 (nI r) (nI wb)) (inf ||| ((1 : Int32) <<< (nI r &&& 31))) (-1) (r + 1) cl) 20) tr ((gLs (gCl (gLA (gPut 30 f1 (nI r) (nI wa)) (gPut 30 f2 (nI r) (nI wb)) (inf ||| ((1 : Int32) <<< (nI r &&& 31))) (-1) (r + 1) cl) 20) se g g).1) (nI g) (nI (r + 1)) (inf ||| ((1 : Int32) <<< (nI r &&& 31))) (nI ((gLs (gCl (gLA (gPut 30 f1 (nI r) (nI wa)) (gPut 30 f2 (nI r) (nI wb)) (inf ||| ((1 : Int32) <<< (nI r &&& 31))) (-1) (r + 1) cl) 20) se g g).2)) ++ ([(sa, .inr (1, [.int (nI g), .ref q9, .null, .null, .int 0]))] ++ ([(q9, qa_R kA (r + 1) (qa_up (r + 1) (qA r rr q1)))]))) ++ (qT (r + 1) (qA r rr q1) (qE kI 3 (qF (kAdd K r wa wb))) ++ [])) := rfl
          rw [hWe] at hP hD
          exact W.zret (ty := .boolean) (v := 1) hx hb hr (by first | rfl | decide | exact gB_nar _) (fun t ht hW => ⟨⟨1, (kAdd K r wa wb, g, (r + 1), (gPut 30 f1 (nI r) (nI wa)), (gPut 30 f2 (nI r) (nI wb)), gLA (gPut 30 f1 (nI r) (nI wa)) (gPut 30 f2 (nI r) (nI wb)) (inf ||| ((1 : Int32) <<< (nI r &&& 31))) (-1) (r + 1) dr, gCl (gLA (gPut 30 f1 (nI r) (nI wa)) (gPut 30 f2 (nI r) (nI wb)) (inf ||| ((1 : Int32) <<< (nI r &&& 31))) (-1) (r + 1) cl) 20, tr, (gLs (gCl (gLA (gPut 30 f1 (nI r) (nI wa)) (gPut 30 f2 (nI r) (nI wb)) (inf ||| ((1 : Int32) <<< (nI r &&& 31))) (-1) (r + 1) cl) 20) se g g).1, (inf ||| ((1 : Int32) <<< (nI r &&& 31))), ((gLs (gCl (gLA (gPut 30 f1 (nI r) (nI wa)) (gPut 30 f2 (nI r) (nI wb)) (inf ||| ((1 : Int32) <<< (nI r &&& 31))) (-1) (r + 1) cl) 20) se g g).2), q9, (qA r rr q1)), rfl, hpost, ⟨by rw [ht]; exact hP, hD⟩⟩, hS.F ht⟩) hS.2.2 dL_act_240
        · skip
          refine lv_iconst (v := 1) hx hb dL_act_192 (by decide) ?_
          refine W.widen (k := 2) (n := 34) (by omega) (by omega) ?_
          have hpost : (1 : Int32) = 1 ∧ 1 ≤ g ∧ Inv K g r f1 f2 inf dr cl se ct := ⟨rfl, hg1, hI⟩
          exact W.zret (ty := .boolean) (v := 1) hx hb hr (by first | rfl | decide | exact gB_nar _) (fun t ht hW => ⟨⟨1, (K, g, r, f1, f2, dr, cl, tr, se, inf, ct, ru, rr), rfl, hpost, ⟨by rw [ht]; exact hP, hD⟩⟩, hS.F ht⟩) hS.2.2 dL_act_193
  · skip
    exact absurd ((nI_eq (b := 0) (by omega) (by decide)).mp c_15) (by omega)
