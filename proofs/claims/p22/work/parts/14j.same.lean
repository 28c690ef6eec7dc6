/-! BY HAND: in the end all is as by hand. -/
set_option maxHeartbeats 4000000 in
set_option maxRecDepth 100000 in
theorem c_X1_isSame (l : Launch) (dC : Nat → ClassId) (dI : Nat → Nat → Nat) (h : Nat → Nat) (kc : Nat → ClassId) (f1 : Nat → Int32) (f2 : Nat → Int32) (dr : Nat → Int32) (cl : Nat → Int32) (tr : Nat → Int32) (se : Nat → Int32) (g : Nat) (r : Nat) (inf : Int32) (ct : Nat) (sa : Nat) (ru : Nat) (kA : ClassId) (kI : ClassId) (rr : Nat → Nat) (K : Bk) (sz : Nat) (hI : Inv K g r f1 f2 inf dr cl se ct) (hg1 : 1 ≤ g) : MetD lw_cs l yX1_isSame wsX1_isSame ({ frames := 5, cells := 24, slots := 372, locals := 107 }) (qaPM (dC, dI) [.ref sa, .ref (h 0)] ((gcW h kc f1 f2 dr cl tr se (nI g) (nI r) inf (nI ct) ++ ([(sa, .inr (1, [.int (nI g), .ref ru, .null, .null, .int 0]))] ++ ([(ru, qa_R kA r (qa_up r rr))]))) ++ (qT r rr (qE kI 3 (qF K)) ++ [])) (gcT kc ++ [(kA, .array .int), (kI, .int)]) sz) (va_Qi (fun (rv : Int32) (_u : Unit) => rv = 1) (fun _u t9 => va_P (dC, dI) vwCl [] t9.heap ∧ va_D (va_A ((gcW h kc f1 f2 dr cl tr se (nI g) (nI r) inf (nI ct) ++ ([(sa, .inr (1, [.int (nI g), .ref ru, .null, .null, .int 0]))] ++ ([(ru, qa_R kA r (qa_up r rr))]))) ++ (qT r rr (qE kI 3 (qF K)) ++ [])) sz) []) (va_A ((gcW h kc f1 f2 dr cl tr se (nI g) (nI r) inf (nI ct) ++ ([(sa, .inr (1, [.int (nI g), .ref ru, .null, .null, .int 0]))] ++ ([(ru, qa_R kA r (qa_up r rr))]))) ++ (qT r rr (qE kI 3 (qF K)) ++ [])) sz)) 24 372 (va_A ((gcW h kc f1 f2 dr cl tr se (nI g) (nI r) inf (nI ct) ++ ([(sa, .inr (1, [.int (nI g), .ref ru, .null, .null, .int 0]))] ++ ([(ru, qa_R kA r (qa_up r rr))]))) ++ (qT r rr (qE kI 3 (qF K)) ++ [])) sz) := by
  refine MetD.ofW (cc := cX1_isSame) (maxL := 19) (ret := (some .boolean)) (by decide) rfl ?_
  intro p e s m args below meth c s₁ B hml hv hd0
  obtain ⟨rfl, hsz, hP, hK, hD0, hO⟩ := hv
  have hx := B.exec
  have hb := B.bytes
  have hr := B.returns
  have hts := atoms_spec (ws := wsX1_isSame) B.pre
  have hts1 := hts
  have hts := dr_words hts1 s.drawn
  have hown : s.vm.findClass RX1 = some m.cls := findClass_of_methodNamed B.named
  have hlocks := B.notSynchronized
  subst hsz
  have hD := hD0.self (sz := s.heap.size)
  generalize hAe : va_A ((gcW h kc f1 f2 dr cl tr se (nI g) (nI r) inf (nI ct) ++ ([(sa, .inr (1, [.int (nI g), .ref ru, .null, .null, .int 0]))] ++ ([(ru, qa_R kA r (qa_up r rr))]))) ++ (qT r rr (qE kI 3 (qF K)) ++ [])) s.heap.size = A at hD ⊢
  have hA : ∀ q : Nat, s.heap.size ≤ q → A q := fun q h => by rw [← hAe]; exact Or.inr h
  have hS : va_S A s.heap s.heap [] := va_S.rf
  have hP : va_P (dC, dI) vwCl ((gcW h kc f1 f2 dr cl tr se (nI g) (nI r) inf (nI ct) ++ ([(sa, .inr (1, [.int (nI g), .ref ru, .null, .null, .int 0]))] ++ ([(ru, qa_R kA r (qa_up r rr))]))) ++ (qT r rr (qE kI 3 (qF K)) ++ [])) s.heap := hP
  have hin1 : ∀ w ∈ wsX10, w ∈ wsX1_isSame := by decide +kernel
  have hl := lv_entry [.ref sa, .ref (h 0)] (n := 19) (Nat.le_of_ble_eq_true rfl)
  rw [lg_entry_eq]
  generalize (lg_sl [.ref sa, .ref (h 0)] ++ List.replicate (19 - (lg_sl [.ref sa, .ref (h 0)]).length) Slot.unset).toArray = ls at hl ⊢
  have hl : lv_has ls 19 [(0, .ref sa), (1, .ref (h 0))] := hl
  obtain ⟨hg7, hr30, hOK, hz, hne, hDr, hCl, s0, hse, hct⟩ := id hI
  have hKg := gOK_Kg hOK
  have hKr : K.1 = r := hOK.1
  have hLF : LF K g se ct := by rw [hse, hct]; exact LF_of (by omega) hKg hCl s0
  have hc1024 : ct ≤ 1024 := hLF.2
  have hKr30 : K.1 ≤ 30 := by omega
  have hg2 : 2 ^ g ≤ 128 := Nat.pow_le_pow_right (n := 2) (by decide) hg7
  have hft : gFt cl g = decide (0 < ct) := by rw [hct]; exact ft_pos (by omega) hKg hCl s0
  refine lv_aload_n hx hb dX1_isSame_0 rfl (lv_at hl 0 rfl) ?_
  have hPc : va_P (dC, dI) vwCl (([(sa, .inr (1, [.int (nI g), .ref ru, .null, .null, .int 0]))] ++ ([(ru, qa_R kA r (qa_up r rr))])) ++ (qT r rr (qE kI 3 (qF K)) ++ [])) _ := hP.part [7, 8] rfl
  have hKc : va_K (dC, dI) vwCl ([(kA, .array .int), (kI, .int)]) s := hK.sub [6, 7] rfl
  have hDc : va_D A (([(sa, .inr (1, [.int (nI g), .ref ru, .null, .null, .int 0]))] ++ ([(ru, qa_R kA r (qa_up r rr))])) ++ (qT r rr (qE kI 3 (qF K)) ++ [])) := hD.part [7, 8] (by decide) rfl
  have hFc := va_freeP (cx := ([(sa, .inr (1, [.int (nI g), .ref ru, .null, .null, .int 0]))] ++ ([(ru, qa_R kA r (qa_up r rr))]))) hD hS hA [7, 8] rfl
  refine va_callr (va_runV (As := []) (rest := []) ⟨hx, hb, hml, hown, hts⟩ (c_X1_reckon l dC dI sa ru kA kI r rr K g s.heap.size (by first | assumption | omega) (by first | assumption | omega) (by first | assumption | omega) (by first | assumption | omega) (by first | assumption | omega)) (cwV 0 hts gX1_isSame_X1_reckon rfl rfl rfl (by decide +kernel) ⟨Nat.le_of_ble_eq_true rfl, Nat.le_of_ble_eq_true rfl⟩) ⟨qaPM_blind, va_recv hK hP (ci := 1) (q0 := 7) rfl rfl, fun U hU hW => ⟨rfl, by rw [hU], by rw [hU]; exact hPc, va_K.moved hW.alike hKc, hDc.weaken (fun _ _ _ _ => trivial), va_AOA.moved hW.alike hO⟩⟩ rfl rfl hl.1 rfl (lv_room (Nat.le_of_ble_eq_true rfl)) dX1_isSame_1 ⟨by show _ ≤ (24 : Nat); omega, by show _ ≤ (372 : Nat); omega⟩) hS (fun q _ h => hFc q h) hFc (fun u ra t H locs ht hvm hw hB hz1 hk1 hS => ?_)
  obtain ⟨q2, sr, D9, q3, fs⟩ := u
  obtain ⟨hP1, hD1⟩ := hB
  rw [ht] at hP1
  obtain ⟨hP, hD⟩ := va_joinP (wr := [(h 0, .inr (0, [.ref (h 1), .ref (h 2), .ref (h 3), .ref (h 4), .ref (h 5), .ref (h 6), .int (nI g), .int (nI r), .int inf, .int (nI ct)])), (h 1, .inl (kc 1, 30, .inl f1)), (h 2, .inl (kc 2, 30, .inl f2)), (h 3, .inl (kc 3, 20, .inl dr)), (h 4, .inl (kc 4, 20, .inl cl)), (h 5, .inl (kc 5, 20, .inl tr)), (h 6, .inl (kc 6, 1024, .inl se))]) (rx := ([(sa, .inr (1, [.int (nI g), .ref ru, .ref q2, .ref q3, .int (nI (fb_ct (sb K) (2 ^ g)))]))] ++ ([(ru, qa_R kA r (qa_up r rr))] ++ ([(q2, qa_R kA (2 * g) (qa_up (2 * g) sr))] ++ ([(q3, .inl (kI, 2 ^ g, .inl fs))]))))) (pl1 := (qT r rr (qE kI 3 (qF K)) ++ qT (2 * g) sr (qE kI (2 * g) (qD D9)))) hP hD [7, 8] [0, 1, 2, 3, 4, 5, 6] rfl rfl (by decide) (by decide) hk1 hFc hP1 hD1
  have hP : va_P (dC, dI) vwCl ((gcW h kc f1 f2 dr cl tr se (nI g) (nI r) inf (nI ct) ++ ([(sa, .inr (1, [.int (nI g), .ref ru, .ref q2, .ref q3, .int (nI (fb_ct (sb K) (2 ^ g)))]))] ++ ([(ru, qa_R kA r (qa_up r rr))] ++ ([(q2, qa_R kA (2 * g) (qa_up (2 * g) sr))] ++ ([(q3, .inl (kI, 2 ^ g, .inl fs))]))))) ++ (qT r rr (qE kI 3 (qF K)) ++ qT (2 * g) sr (qE kI (2 * g) (qD D9)))) H := hP.part [0, 1, 2, 3, 4, 5, 6, 7, 8, 9, 10] rfl
  have hD : va_D A ((gcW h kc f1 f2 dr cl tr se (nI g) (nI r) inf (nI ct) ++ ([(sa, .inr (1, [.int (nI g), .ref ru, .ref q2, .ref q3, .int (nI (fb_ct (sb K) (2 ^ g)))]))] ++ ([(ru, qa_R kA r (qa_up r rr))] ++ ([(q2, qa_R kA (2 * g) (qa_up (2 * g) sr))] ++ ([(q3, .inl (kI, 2 ^ g, .inl fs))]))))) ++ (qT r rr (qE kI 3 (qF K)) ++ qT (2 * g) sr (qE kI (2 * g) (qD D9)))) := hD.part [0, 1, 2, 3, 4, 5, 6, 7, 8, 9, 10] (by decide) rfl
  have hw_1 : FT K (2 * g) D9 ∧ ∀ T, T < 2 ^ g → fs T = qS K T := hw
  clear hz1 hk1 ht hvm hP1 hD1 hFc hDc
  clear hPc hKc
  obtain ⟨hFT, hfs⟩ := hw_1
  have hctn := LF_count hKg hLF
  rw [← hctn] at hP hD
  have hP : va_P (dC, dI) vwCl ((gcW h kc f1 f2 dr cl tr se (nI g) (nI r) inf (nI ct) ++ ([(sa, .inr (1, [.int (nI g), .ref ru, .ref q2, .ref q3, .int (nI ct)]))] ++ ([(ru, qa_R kA r (qa_up r rr))] ++ ([(q2, qa_R kA (2 * g) (qa_up (2 * g) sr))] ++ ([(q3, .inl (kI, 2 ^ g, .inl fs))]))))) ++ (qT r rr (qE kI 3 (qF K)) ++ qT (2 * g) sr (qE kI (2 * g) (qD D9)))) H := hP
  have hD : va_D A ((gcW h kc f1 f2 dr cl tr se (nI g) (nI r) inf (nI ct) ++ ([(sa, .inr (1, [.int (nI g), .ref ru, .ref q2, .ref q3, .int (nI ct)]))] ++ ([(ru, qa_R kA r (qa_up r rr))] ++ ([(q2, qa_R kA (2 * g) (qa_up (2 * g) sr))] ++ ([(q3, .inl (kI, 2 ^ g, .inl fs))]))))) ++ (qT r rr (qE kI 3 (qF K)) ++ qT (2 * g) sr (qE kI (2 * g) (qD D9)))) := hD
  refine W.widen (k := 16) (n := 338) (by omega) (by omega) ?_
  refine lv_pop hx hb dX1_isSame_4 rfl ?_
  refine lv_aload_n hx hb dX1_isSame_5 rfl (lv_at hl 0 rfl) ?_
  refine va_get (D := (dC, dI)) (ci := 1) (v := .int (nI g)) (C := RX1) (T := TX1) (N := 5) hx hb hts hin1 hown hK hP 7 rfl rfl 0 (by decide) (hts (.fieldLink RX1 22 "GuestChairsLaw$Sim" "guests" "I") (by decide +kernel)) (fun _ h9 => h9) rfl dX1_isSame_6 ?_
  refine lv_istore_n (lv' := [(2, .int (nI g)), (0, .ref sa), (1, .ref (h 0))]) hx hb dX1_isSame_9 rfl hl (by decide) rfl (fun ls hl => ?_)
  refine lv_iconst (v := 0) hx hb dX1_isSame_10 (by decide) ?_
  refine lv_istore_n (lv' := [(3, .int 0), (2, .int (nI g)), (0, .ref sa), (1, .ref (h 0))]) hx hb dX1_isSame_11 rfl hl (by decide) rfl (fun ls hl => ?_)
  refine lv_iconst (v := 0) hx hb dX1_isSame_12 (by decide) ?_
  refine lv_istore (lv' := [(4, .int 0), (3, .int 0), (2, .int (nI g)), (0, .ref sa), (1, .ref (h 0))]) hx hb dX1_isSame_13 hl (by decide) rfl (fun ls hl => ?_)
  refine lv_iconst (v := 0) hx hb dX1_isSame_15 (by decide) ?_
  refine lv_istore (lv' := [(5, .int 0), (4, .int 0), (3, .int 0), (2, .int (nI g)), (0, .ref sa), (1, .ref (h 0))]) hx hb dX1_isSame_16 hl (by decide) rfl (fun ls hl => ?_)
  refine lv_iconst (v := 0) hx hb dX1_isSame_18 (by decide) ?_
  refine lv_istore (lv' := [(6, .int 0), (5, .int 0), (4, .int 0), (3, .int 0), (2, .int (nI g)), (0, .ref sa), (1, .ref (h 0))]) hx hb dX1_isSame_19 hl (by decide) rfl (fun ls hl => ?_)
  refine lv_iconst (v := -1) hx hb dX1_isSame_21 (by decide) ?_
  refine lv_istore (lv' := [(7, .int (-1)), (6, .int 0), (5, .int 0), (4, .int 0), (3, .int 0), (2, .int (nI g)), (0, .ref sa), (1, .ref (h 0))]) hx hb dX1_isSame_22 hl (by decide) rfl (fun ls hl => ?_)
  refine lv_iconst (v := -1) hx hb dX1_isSame_24 (by decide) ?_
  refine lv_istore (lv' := [(8, .int (-1)), (7, .int (-1)), (6, .int 0), (5, .int 0), (4, .int 0), (3, .int 0), (2, .int (nI g)), (0, .ref sa), (1, .ref (h 0))]) hx hb dX1_isSame_25 hl (by decide) rfl (fun ls hl => ?_)
  refine lv_iconst (v := 0) hx hb dX1_isSame_27 (by decide) ?_
  refine lv_istore (lv' := [(9, .int 0), (8, .int (-1)), (7, .int (-1)), (6, .int 0), (5, .int 0), (4, .int 0), (3, .int 0), (2, .int (nI g)), (0, .ref sa), (1, .ref (h 0))]) hx hb dX1_isSame_28 hl (by decide) rfl (fun ls hl => ?_)
  refine lv_iconst (v := 0) hx hb dX1_isSame_30 (by decide) ?_
  refine lv_istore (lv' := [(10, .int 0), (9, .int 0), (8, .int (-1)), (7, .int (-1)), (6, .int 0), (5, .int 0), (4, .int 0), (3, .int 0), (2, .int (nI g)), (0, .ref sa), (1, .ref (h 0))]) hx hb dX1_isSame_31 hl (by decide) rfl (fun ls hl => ?_)
  refine gc_loop (r) (fun (i1 : Nat) (H : Heap) (locs : List Loc) (ls : Array Slot) => ∃ (fo9 : Int32), fo9 = mCi K i1 ∧ va_P (dC, dI) vwCl ((gcW h kc f1 f2 dr cl tr se (nI g) (nI r) inf (nI ct) ++ ([(sa, .inr (1, [.int (nI g), .ref ru, .ref q2, .ref q3, .int (nI ct)]))] ++ ([(ru, qa_R kA r (qa_up r rr))] ++ ([(q2, qa_R kA (2 * g) (qa_up (2 * g) sr))] ++ ([(q3, .inl (kI, 2 ^ g, .inl fs))]))))) ++ (qT r rr (qE kI 3 (qF K)) ++ qT (2 * g) sr (qE kI (2 * g) (qD D9)))) H ∧ va_D A ((gcW h kc f1 f2 dr cl tr se (nI g) (nI r) inf (nI ct) ++ ([(sa, .inr (1, [.int (nI g), .ref ru, .ref q2, .ref q3, .int (nI ct)]))] ++ ([(ru, qa_R kA r (qa_up r rr))] ++ ([(q2, qa_R kA (2 * g) (qa_up (2 * g) sr))] ++ ([(q3, .inl (kI, 2 ^ g, .inl fs))]))))) ++ (qT r rr (qE kI 3 (qF K)) ++ qT (2 * g) sr (qE kI (2 * g) (qD D9)))) ∧ va_S A s.heap H locs ∧ lv_has ls 19 [(10, .int (nI i1)), (9, .int 0), (8, .int (-1)), (7, .int (-1)), (6, .int 0), (5, .int 0), (4, .int 0), (3, .int fo9), (2, .int (nI g)), (0, .ref sa), (1, .ref (h 0))]) 0 (Nat.zero_le _) ⟨0, (by first | rfl | assumption | omega), hP, hD, hS, lv_sub hl [0, 1, 2, 3, 4, 5, 6, 7, 8, 9, 10] rfl⟩ ?_
  intro i1 H locs ls hi1 hI ihi1
  obtain ⟨fo9, e_fo9, hP, hD, hS, hl⟩ := hI
  refine lv_iload hx hb dX1_isSame_33 (lv_at hl 0 rfl) ?_
  refine lv_aload_n hx hb dX1_isSame_35 rfl (lv_at hl 9 rfl) ?_
  refine va_get (D := (dC, dI)) (ci := 1) (v := .ref ru) (C := RX1) (T := TX1) (N := 5) hx hb hts hin1 hown hK hP 7 rfl rfl 1 (by decide) (hts (.fieldLink RX1 9 "GuestChairsLaw$Sim" "rules" "[[I") (by decide +kernel)) (fun _ h9 => h9) rfl dX1_isSame_36 ?_
  refine va_alen hx hb hK hP 8 6 rfl rfl (v := nI r) rfl dX1_isSame_39 ?_
  refine lv_icmp_ge (tgt := 99) hx hb dX1_isSame_40 (by decide) (fun c_40 => ?_) (fun c_40 => ?_)
  · skip
    have hEi1 : i1 = r := gc_ge c_40 (by omega) (by omega)
    refine lv_aload_n hx hb dX1_isSame_99 rfl (lv_at hl 9 rfl) ?_
    refine va_get (D := (dC, dI)) (ci := 1) (v := .ref q3) (C := RX1) (T := TX1) (N := 5) hx hb hts hin1 hown hK hP 7 rfl rfl 3 (by decide) (hts (.fieldLink RX1 36 "GuestChairsLaw$Sim" "sets" "[I") (by decide +kernel)) (fun _ h9 => h9) rfl dX1_isSame_100 ?_
    refine lv_astore (lv' := [(10, .ref q3), (9, .int 0), (8, .int (-1)), (7, .int (-1)), (6, .int 0), (5, .int 0), (4, .int 0), (3, .int fo9), (2, .int (nI g)), (0, .ref sa), (1, .ref (h 0))]) hx hb dX1_isSame_103 hl (by decide) rfl (fun ls hl => ?_)
    refine lv_aload hx hb dX1_isSame_105 (lv_at hl 0 rfl) ?_
    refine va_alen hx hb hK hP 10 7 rfl rfl (v := nI (2 ^ g)) rfl dX1_isSame_107 ?_
    refine lv_istore (lv' := [(11, .int (nI (2 ^ g))), (10, .ref q3), (9, .int 0), (8, .int (-1)), (7, .int (-1)), (6, .int 0), (5, .int 0), (4, .int 0), (3, .int fo9), (2, .int (nI g)), (0, .ref sa), (1, .ref (h 0))]) hx hb dX1_isSame_108 hl (by decide) rfl (fun ls hl => ?_)
    refine lv_iconst (v := 0) hx hb dX1_isSame_110 (by decide) ?_
    refine lv_istore (lv' := [(12, .int 0), (11, .int (nI (2 ^ g))), (10, .ref q3), (9, .int 0), (8, .int (-1)), (7, .int (-1)), (6, .int 0), (5, .int 0), (4, .int 0), (3, .int fo9), (2, .int (nI g)), (0, .ref sa), (1, .ref (h 0))]) hx hb dX1_isSame_111 hl (by decide) rfl (fun ls hl => ?_)
    refine gc_loop (2 ^ g) (fun (S8 : Nat) (H : Heap) (locs : List Loc) (ls : Array Slot) => ∃ (su : Int32) (mo : Int32) (fe : Int32), su = mSu K (-1) (-1) S8 ∧ mo = mMo K (-1) (-1) S8 ∧ fe = mFe K (-1) (-1) S8 ∧ va_P (dC, dI) vwCl ((gcW h kc f1 f2 dr cl tr se (nI g) (nI r) inf (nI ct) ++ ([(sa, .inr (1, [.int (nI g), .ref ru, .ref q2, .ref q3, .int (nI ct)]))] ++ ([(ru, qa_R kA r (qa_up r rr))] ++ ([(q2, qa_R kA (2 * g) (qa_up (2 * g) sr))] ++ ([(q3, .inl (kI, 2 ^ g, .inl fs))]))))) ++ (qT r rr (qE kI 3 (qF K)) ++ qT (2 * g) sr (qE kI (2 * g) (qD D9)))) H ∧ va_D A ((gcW h kc f1 f2 dr cl tr se (nI g) (nI r) inf (nI ct) ++ ([(sa, .inr (1, [.int (nI g), .ref ru, .ref q2, .ref q3, .int (nI ct)]))] ++ ([(ru, qa_R kA r (qa_up r rr))] ++ ([(q2, qa_R kA (2 * g) (qa_up (2 * g) sr))] ++ ([(q3, .inl (kI, 2 ^ g, .inl fs))]))))) ++ (qT r rr (qE kI 3 (qF K)) ++ qT (2 * g) sr (qE kI (2 * g) (qD D9)))) ∧ va_S A s.heap H locs ∧ lv_has ls 19 [(12, .int (nI S8)), (11, .int (nI (2 ^ g))), (10, .ref q3), (9, .int su), (8, .int mo), (7, .int fe), (6, .int 0), (5, .int 0), (4, .int 0), (3, .int fo9), (2, .int (nI g)), (0, .ref sa), (1, .ref (h 0))]) 0 (Nat.zero_le _) ⟨0, (-1), (-1), (by first | rfl | assumption | omega), (by first | rfl | assumption | omega), (by first | rfl | assumption | omega), hP, hD, hS, lv_sub hl [0, 1, 2, 3, 4, 5, 6, 7, 8, 9, 10, 11, 12] rfl⟩ ?_
    intro S8 H locs ls hS8 hI ihS8
    obtain ⟨su, mo, fe, e_su, e_mo, e_fe, hP, hD, hS, hl⟩ := hI
    refine lv_iload hx hb dX1_isSame_113 (lv_at hl 0 rfl) ?_
    refine lv_iload hx hb dX1_isSame_115 (lv_at hl 1 rfl) ?_
    refine lv_icmp_ge (tgt := 175) hx hb dX1_isSame_117 (by decide) (fun c_117 => ?_) (fun c_117 => ?_)
    · skip
      have hES8 : S8 = 2 ^ g := gc_ge c_117 (by omega) (by omega)
      refine lv_iconst (v := 0) hx hb dX1_isSame_175 (by decide) ?_
      refine lv_istore (lv' := [(10, .int 0), (12, .int (nI S8)), (11, .int (nI (2 ^ g))), (9, .int su), (8, .int mo), (7, .int fe), (6, .int 0), (5, .int 0), (4, .int 0), (3, .int fo9), (2, .int (nI g)), (0, .ref sa), (1, .ref (h 0))]) hx hb dX1_isSame_176 hl (by decide) rfl (fun ls hl => ?_)
      refine gc_loop (2 * g) (fun (w1 : Nat) (H : Heap) (locs : List Loc) (ls : Array Slot) => ∃ (va : Int32) (pa : Int32), va = mCv K w1 ∧ pa = mCp K w1 ∧ va_P (dC, dI) vwCl ((gcW h kc f1 f2 dr cl tr se (nI g) (nI r) inf (nI ct) ++ ([(sa, .inr (1, [.int (nI g), .ref ru, .ref q2, .ref q3, .int (nI ct)]))] ++ ([(ru, qa_R kA r (qa_up r rr))] ++ ([(q2, qa_R kA (2 * g) (qa_up (2 * g) sr))] ++ ([(q3, .inl (kI, 2 ^ g, .inl fs))]))))) ++ (qT r rr (qE kI 3 (qF K)) ++ qT (2 * g) sr (qE kI (2 * g) (qD D9)))) H ∧ va_D A ((gcW h kc f1 f2 dr cl tr se (nI g) (nI r) inf (nI ct) ++ ([(sa, .inr (1, [.int (nI g), .ref ru, .ref q2, .ref q3, .int (nI ct)]))] ++ ([(ru, qa_R kA r (qa_up r rr))] ++ ([(q2, qa_R kA (2 * g) (qa_up (2 * g) sr))] ++ ([(q3, .inl (kI, 2 ^ g, .inl fs))]))))) ++ (qT r rr (qE kI 3 (qF K)) ++ qT (2 * g) sr (qE kI (2 * g) (qD D9)))) ∧ va_S A s.heap H locs ∧ lv_has ls 19 [(10, .int (nI w1)), (9, .int su), (8, .int mo), (7, .int fe), (6, .int pa), (5, .int va), (4, .int 0), (3, .int fo9), (2, .int (nI g)), (0, .ref sa), (1, .ref (h 0))]) 0 (Nat.zero_le _) ⟨0, 0, (by first | rfl | assumption | omega), (by first | rfl | assumption | omega), hP, hD, hS, lv_sub hl [0, 3, 4, 5, 6, 7, 8, 9, 10, 11, 12] rfl⟩ ?_
      intro w1 H locs ls hw1 hI ihw1
      obtain ⟨va, pa, e_va, e_pa, hP, hD, hS, hl⟩ := hI
      refine lv_iload hx hb dX1_isSame_178 (lv_at hl 0 rfl) ?_
      refine lv_iconst (v := 2) hx hb dX1_isSame_180 (by decide) ?_
      refine lv_iload_n hx hb dX1_isSame_181 rfl (lv_at hl 8 rfl) ?_
      refine lv_imul hx hb dX1_isSame_182 ?_
      refine gc_topi (y := nI (2 * g)) (pk_mul 2 g) ?_
      refine lv_icmp_ge (tgt := 349) hx hb dX1_isSame_183 (by decide) (fun c_183 => ?_) (fun c_183 => ?_)
      · skip
        have hEw1 : w1 = 2 * g := gc_ge c_183 (by omega) (by omega)
        refine lv_iconst (v := 0) hx hb dX1_isSame_349 (by decide) ?_
        refine lv_istore (lv' := [(10, .int 0), (9, .int su), (8, .int mo), (7, .int fe), (6, .int pa), (5, .int va), (4, .int 0), (3, .int fo9), (2, .int (nI g)), (0, .ref sa), (1, .ref (h 0))]) hx hb dX1_isSame_350 hl (by decide) rfl (fun ls hl => ?_)
        refine W.widen (k := 16) (n := 338) (by omega) (by omega) ?_
        refine gc_loopG 1 4 (g) (fun (x1 : Nat) (H : Heap) (locs : List Loc) (ls : Array Slot) => ∃ (tn : Int32), tn = mCt K x1 ∧ va_P (dC, dI) vwCl ((gcW h kc f1 f2 dr cl tr se (nI g) (nI r) inf (nI ct) ++ ([(sa, .inr (1, [.int (nI g), .ref ru, .ref q2, .ref q3, .int (nI ct)]))] ++ ([(ru, qa_R kA r (qa_up r rr))] ++ ([(q2, qa_R kA (2 * g) (qa_up (2 * g) sr))] ++ ([(q3, .inl (kI, 2 ^ g, .inl fs))]))))) ++ (qT r rr (qE kI 3 (qF K)) ++ qT (2 * g) sr (qE kI (2 * g) (qD D9)))) H ∧ va_D A ((gcW h kc f1 f2 dr cl tr se (nI g) (nI r) inf (nI ct) ++ ([(sa, .inr (1, [.int (nI g), .ref ru, .ref q2, .ref q3, .int (nI ct)]))] ++ ([(ru, qa_R kA r (qa_up r rr))] ++ ([(q2, qa_R kA (2 * g) (qa_up (2 * g) sr))] ++ ([(q3, .inl (kI, 2 ^ g, .inl fs))]))))) ++ (qT r rr (qE kI 3 (qF K)) ++ qT (2 * g) sr (qE kI (2 * g) (qD D9)))) ∧ va_S A s.heap H locs ∧ lv_has ls 19 [(10, .int (nI x1)), (9, .int su), (8, .int mo), (7, .int fe), (6, .int pa), (5, .int va), (4, .int tn), (3, .int fo9), (2, .int (nI g)), (0, .ref sa), (1, .ref (h 0))]) ⟨0, (by first | rfl | assumption | omega), hP, hD, hS, lv_sub hl [0, 1, 2, 3, 4, 5, 6, 7, 8, 9, 10] rfl⟩ ?_
        intro x1 H locs ls hx1 hI ihx1
        obtain ⟨tn, e_tn, hP, hD, hS, hl⟩ := hI
        refine lv_iload hx hb dX1_isSame_352 (lv_at hl 0 rfl) ?_
        refine lv_iload_n hx hb dX1_isSame_354 rfl (lv_at hl 8 rfl) ?_
        refine lv_icmp_ge (tgt := 712) hx hb dX1_isSame_355 (by decide) (fun c_355 => ?_) (fun c_355 => ?_)
        · skip
          have hEx1 : x1 = g := gc_ge c_355 (by omega) (by omega)
          refine lv_bipush (v := 6) hx hb dX1_isSame_712 (by decide) ?_
          refine qa_newI hx hb (hts (.arrayClass .int) (by decide +kernel)) hK hP hD hS hA 7 rfl (n := 6) (N' := 6) (by decide) (rfl) (by omega) (by show _ ≤ (24 : Nat); omega) (by show _ ≤ (372 : Nat); omega) dX1_isSame_714 (fun q5 H hP hD hS => ?_)
          have hP := hP.perm qa_side
          have hD := hD.perm qa_side
          have hP : va_P (dC, dI) vwCl ((gcW h kc f1 f2 dr cl tr se (nI g) (nI r) inf (nI ct) ++ ([(sa, .inr (1, [.int (nI g), .ref ru, .ref q2, .ref q3, .int (nI ct)]))] ++ ([(ru, qa_R kA r (qa_up r rr))] ++ ([(q2, qa_R kA (2 * g) (qa_up (2 * g) sr))] ++ ([(q3, .inl (kI, 2 ^ g, .inl fs))] ++ ([(q5, .inl (kI, 6, .inl (fun _ => 0)))])))))) ++ (qT r rr (qE kI 3 (qF K)) ++ qT (2 * g) sr (qE kI (2 * g) (qD D9)))) H := hP
          have hD : va_D A ((gcW h kc f1 f2 dr cl tr se (nI g) (nI r) inf (nI ct) ++ ([(sa, .inr (1, [.int (nI g), .ref ru, .ref q2, .ref q3, .int (nI ct)]))] ++ ([(ru, qa_R kA r (qa_up r rr))] ++ ([(q2, qa_R kA (2 * g) (qa_up (2 * g) sr))] ++ ([(q3, .inl (kI, 2 ^ g, .inl fs))] ++ ([(q5, .inl (kI, 6, .inl (fun _ => 0)))])))))) ++ (qT r rr (qE kI 3 (qF K)) ++ qT (2 * g) sr (qE kI (2 * g) (qD D9)))) := hD
          refine lv_dup hx hb dX1_isSame_716 rfl ?_
          refine lv_iconst (v := 0) hx hb dX1_isSame_717 (by decide) ?_
          refine lv_iload_n hx hb dX1_isSame_718 rfl (lv_at hl 8 rfl) ?_
          refine va_iast hx hb hK hP hD hS 11 7 rfl rfl (vp_in_nI (n := 0) (N := 6) (by omega) (by omega)) dX1_isSame_719 (fun H locs hP hD hS => ?_)
          rw [show (0 : Int32).toNatClampNeg = 0 from rfl] at hP hD
          have hP : va_P (dC, dI) vwCl ((gcW h kc f1 f2 dr cl tr se (nI g) (nI r) inf (nI ct) ++ ([(sa, .inr (1, [.int (nI g), .ref ru, .ref q2, .ref q3, .int (nI ct)]))] ++ ([(ru, qa_R kA r (qa_up r rr))] ++ ([(q2, qa_R kA (2 * g) (qa_up (2 * g) sr))] ++ ([(q3, .inl (kI, 2 ^ g, .inl fs))] ++ ([(q5, .inl (kI, 6, .inl (upd (fun _ => 0) 0 (nI g))))])))))) ++ (qT r rr (qE kI 3 (qF K)) ++ qT (2 * g) sr (qE kI (2 * g) (qD D9)))) H := hP
          have hD : va_D A ((gcW h kc f1 f2 dr cl tr se (nI g) (nI r) inf (nI ct) ++ ([(sa, .inr (1, [.int (nI g), .ref ru, .ref q2, .ref q3, .int (nI ct)]))] ++ ([(ru, qa_R kA r (qa_up r rr))] ++ ([(q2, qa_R kA (2 * g) (qa_up (2 * g) sr))] ++ ([(q3, .inl (kI, 2 ^ g, .inl fs))] ++ ([(q5, .inl (kI, 6, .inl (upd (fun _ => 0) 0 (nI g))))])))))) ++ (qT r rr (qE kI 3 (qF K)) ++ qT (2 * g) sr (qE kI (2 * g) (qD D9)))) := hD
          refine lv_dup hx hb dX1_isSame_720 rfl ?_
          refine lv_iconst (v := 1) hx hb dX1_isSame_721 (by decide) ?_
          refine lv_aload_n hx hb dX1_isSame_722 rfl (lv_at hl 9 rfl) ?_
          refine va_get (D := (dC, dI)) (ci := 1) (v := .ref ru) (C := RX1) (T := TX1) (N := 5) hx hb hts hin1 hown hK hP 7 rfl rfl 1 (by decide) (hts (.fieldLink RX1 9 "GuestChairsLaw$Sim" "rules" "[[I") (by decide +kernel)) (fun _ h9 => h9) rfl dX1_isSame_723 ?_
          refine va_alen hx hb hK hP 8 6 rfl rfl (v := nI r) rfl dX1_isSame_726 ?_
          refine va_iast hx hb hK hP hD hS 11 7 rfl rfl (vp_in_nI (n := 1) (N := 6) (by omega) (by omega)) dX1_isSame_727 (fun H locs hP hD hS => ?_)
          rw [show (1 : Int32).toNatClampNeg = 1 from rfl] at hP hD
          have hP : va_P (dC, dI) vwCl ((gcW h kc f1 f2 dr cl tr se (nI g) (nI r) inf (nI ct) ++ ([(sa, .inr (1, [.int (nI g), .ref ru, .ref q2, .ref q3, .int (nI ct)]))] ++ ([(ru, qa_R kA r (qa_up r rr))] ++ ([(q2, qa_R kA (2 * g) (qa_up (2 * g) sr))] ++ ([(q3, .inl (kI, 2 ^ g, .inl fs))] ++ ([(q5, .inl (kI, 6, .inl (upd (upd (fun _ => 0) 0 (nI g)) 1 (nI r))))])))))) ++ (qT r rr (qE kI 3 (qF K)) ++ qT (2 * g) sr (qE kI (2 * g) (qD D9)))) H := hP
          have hD : va_D A ((gcW h kc f1 f2 dr cl tr se (nI g) (nI r) inf (nI ct) ++ ([(sa, .inr (1, [.int (nI g), .ref ru, .ref q2, .ref q3, .int (nI ct)]))] ++ ([(ru, qa_R kA r (qa_up r rr))] ++ ([(q2, qa_R kA (2 * g) (qa_up (2 * g) sr))] ++ ([(q3, .inl (kI, 2 ^ g, .inl fs))] ++ ([(q5, .inl (kI, 6, .inl (upd (upd (fun _ => 0) 0 (nI g)) 1 (nI r))))])))))) ++ (qT r rr (qE kI 3 (qF K)) ++ qT (2 * g) sr (qE kI (2 * g) (qD D9)))) := hD
          refine lv_dup hx hb dX1_isSame_728 rfl ?_
          refine lv_iconst (v := 2) hx hb dX1_isSame_729 (by decide) ?_
          refine lv_iload_n hx hb dX1_isSame_730 rfl (lv_at hl 7 rfl) ?_
          refine va_iast hx hb hK hP hD hS 11 7 rfl rfl (vp_in_nI (n := 2) (N := 6) (by omega) (by omega)) dX1_isSame_731 (fun H locs hP hD hS => ?_)
          rw [show (2 : Int32).toNatClampNeg = 2 from rfl] at hP hD
          have hP : va_P (dC, dI) vwCl ((gcW h kc f1 f2 dr cl tr se (nI g) (nI r) inf (nI ct) ++ ([(sa, .inr (1, [.int (nI g), .ref ru, .ref q2, .ref q3, .int (nI ct)]))] ++ ([(ru, qa_R kA r (qa_up r rr))] ++ ([(q2, qa_R kA (2 * g) (qa_up (2 * g) sr))] ++ ([(q3, .inl (kI, 2 ^ g, .inl fs))] ++ ([(q5, .inl (kI, 6, .inl (upd (upd (upd (fun _ => 0) 0 (nI g)) 1 (nI r)) 2 fo9)))])))))) ++ (qT r rr (qE kI 3 (qF K)) ++ qT (2 * g) sr (qE kI (2 * g) (qD D9)))) H := hP
          have hD : va_D A ((gcW h kc f1 f2 dr cl tr se (nI g) (nI r) inf (nI ct) ++ ([(sa, .inr (1, [.int (nI g), .ref ru, .ref q2, .ref q3, .int (nI ct)]))] ++ ([(ru, qa_R kA r (qa_up r rr))] ++ ([(q2, qa_R kA (2 * g) (qa_up (2 * g) sr))] ++ ([(q3, .inl (kI, 2 ^ g, .inl fs))] ++ ([(q5, .inl (kI, 6, .inl (upd (upd (upd (fun _ => 0) 0 (nI g)) 1 (nI r)) 2 fo9)))])))))) ++ (qT r rr (qE kI 3 (qF K)) ++ qT (2 * g) sr (qE kI (2 * g) (qD D9)))) := hD
          refine lv_dup hx hb dX1_isSame_732 rfl ?_
          refine lv_iconst (v := 3) hx hb dX1_isSame_733 (by decide) ?_
          refine lv_iload hx hb dX1_isSame_734 (lv_at hl 6 rfl) ?_
          refine va_iast hx hb hK hP hD hS 11 7 rfl rfl (vp_in_nI (n := 3) (N := 6) (by omega) (by omega)) dX1_isSame_736 (fun H locs hP hD hS => ?_)
          rw [show (3 : Int32).toNatClampNeg = 3 from rfl] at hP hD
          have hP : va_P (dC, dI) vwCl ((gcW h kc f1 f2 dr cl tr se (nI g) (nI r) inf (nI ct) ++ ([(sa, .inr (1, [.int (nI g), .ref ru, .ref q2, .ref q3, .int (nI ct)]))] ++ ([(ru, qa_R kA r (qa_up r rr))] ++ ([(q2, qa_R kA (2 * g) (qa_up (2 * g) sr))] ++ ([(q3, .inl (kI, 2 ^ g, .inl fs))] ++ ([(q5, .inl (kI, 6, .inl (upd (upd (upd (upd (fun _ => 0) 0 (nI g)) 1 (nI r)) 2 fo9) 3 tn)))])))))) ++ (qT r rr (qE kI 3 (qF K)) ++ qT (2 * g) sr (qE kI (2 * g) (qD D9)))) H := hP
          have hD : va_D A ((gcW h kc f1 f2 dr cl tr se (nI g) (nI r) inf (nI ct) ++ ([(sa, .inr (1, [.int (nI g), .ref ru, .ref q2, .ref q3, .int (nI ct)]))] ++ ([(ru, qa_R kA r (qa_up r rr))] ++ ([(q2, qa_R kA (2 * g) (qa_up (2 * g) sr))] ++ ([(q3, .inl (kI, 2 ^ g, .inl fs))] ++ ([(q5, .inl (kI, 6, .inl (upd (upd (upd (upd (fun _ => 0) 0 (nI g)) 1 (nI r)) 2 fo9) 3 tn)))])))))) ++ (qT r rr (qE kI 3 (qF K)) ++ qT (2 * g) sr (qE kI (2 * g) (qD D9)))) := hD
          refine lv_dup hx hb dX1_isSame_737 rfl ?_
          refine lv_iconst (v := 4) hx hb dX1_isSame_738 (by decide) ?_
          refine lv_iload hx hb dX1_isSame_739 (lv_at hl 5 rfl) ?_
          refine va_iast hx hb hK hP hD hS 11 7 rfl rfl (vp_in_nI (n := 4) (N := 6) (by omega) (by omega)) dX1_isSame_741 (fun H locs hP hD hS => ?_)
          rw [show (4 : Int32).toNatClampNeg = 4 from rfl] at hP hD
          have hP : va_P (dC, dI) vwCl ((gcW h kc f1 f2 dr cl tr se (nI g) (nI r) inf (nI ct) ++ ([(sa, .inr (1, [.int (nI g), .ref ru, .ref q2, .ref q3, .int (nI ct)]))] ++ ([(ru, qa_R kA r (qa_up r rr))] ++ ([(q2, qa_R kA (2 * g) (qa_up (2 * g) sr))] ++ ([(q3, .inl (kI, 2 ^ g, .inl fs))] ++ ([(q5, .inl (kI, 6, .inl (upd (upd (upd (upd (upd (fun _ => 0) 0 (nI g)) 1 (nI r)) 2 fo9) 3 tn) 4 va)))])))))) ++ (qT r rr (qE kI 3 (qF K)) ++ qT (2 * g) sr (qE kI (2 * g) (qD D9)))) H := hP
          have hD : va_D A ((gcW h kc f1 f2 dr cl tr se (nI g) (nI r) inf (nI ct) ++ ([(sa, .inr (1, [.int (nI g), .ref ru, .ref q2, .ref q3, .int (nI ct)]))] ++ ([(ru, qa_R kA r (qa_up r rr))] ++ ([(q2, qa_R kA (2 * g) (qa_up (2 * g) sr))] ++ ([(q3, .inl (kI, 2 ^ g, .inl fs))] ++ ([(q5, .inl (kI, 6, .inl (upd (upd (upd (upd (upd (fun _ => 0) 0 (nI g)) 1 (nI r)) 2 fo9) 3 tn) 4 va)))])))))) ++ (qT r rr (qE kI 3 (qF K)) ++ qT (2 * g) sr (qE kI (2 * g) (qD D9)))) := hD
          refine lv_dup hx hb dX1_isSame_742 rfl ?_
          refine lv_iconst (v := 5) hx hb dX1_isSame_743 (by decide) ?_
          refine lv_iload hx hb dX1_isSame_744 (lv_at hl 4 rfl) ?_
          refine va_iast hx hb hK hP hD hS 11 7 rfl rfl (vp_in_nI (n := 5) (N := 6) (by omega) (by omega)) dX1_isSame_746 (fun H locs hP hD hS => ?_)
          rw [show (5 : Int32).toNatClampNeg = 5 from rfl] at hP hD
          have hP : va_P (dC, dI) vwCl ((gcW h kc f1 f2 dr cl tr se (nI g) (nI r) inf (nI ct) ++ ([(sa, .inr (1, [.int (nI g), .ref ru, .ref q2, .ref q3, .int (nI ct)]))] ++ ([(ru, qa_R kA r (qa_up r rr))] ++ ([(q2, qa_R kA (2 * g) (qa_up (2 * g) sr))] ++ ([(q3, .inl (kI, 2 ^ g, .inl fs))] ++ ([(q5, .inl (kI, 6, .inl (upd (upd (upd (upd (upd (upd (fun _ => 0) 0 (nI g)) 1 (nI r)) 2 fo9) 3 tn) 4 va) 5 pa)))])))))) ++ (qT r rr (qE kI 3 (qF K)) ++ qT (2 * g) sr (qE kI (2 * g) (qD D9)))) H := hP
          have hD : va_D A ((gcW h kc f1 f2 dr cl tr se (nI g) (nI r) inf (nI ct) ++ ([(sa, .inr (1, [.int (nI g), .ref ru, .ref q2, .ref q3, .int (nI ct)]))] ++ ([(ru, qa_R kA r (qa_up r rr))] ++ ([(q2, qa_R kA (2 * g) (qa_up (2 * g) sr))] ++ ([(q3, .inl (kI, 2 ^ g, .inl fs))] ++ ([(q5, .inl (kI, 6, .inl (upd (upd (upd (upd (upd (upd (fun _ => 0) 0 (nI g)) 1 (nI r)) 2 fo9) 3 tn) 4 va) 5 pa)))])))))) ++ (qT r rr (qE kI 3 (qF K)) ++ qT (2 * g) sr (qE kI (2 * g) (qD D9)))) := hD
          refine lv_astore (lv' := [(10, .ref q5), (9, .int su), (8, .int mo), (7, .int fe), (6, .int pa), (5, .int va), (4, .int tn), (3, .int fo9), (2, .int (nI g)), (0, .ref sa), (1, .ref (h 0))]) hx hb dX1_isSame_747 hl (by decide) rfl (fun ls hl => ?_)
          refine lv_iconst (v := 0) hx hb dX1_isSame_749 (by decide) ?_
          refine lv_istore (lv' := [(11, .int 0), (10, .ref q5), (9, .int su), (8, .int mo), (7, .int fe), (6, .int pa), (5, .int va), (4, .int tn), (3, .int fo9), (2, .int (nI g)), (0, .ref sa), (1, .ref (h 0))]) hx hb dX1_isSame_750 hl (by decide) rfl (fun ls hl => ?_)
          refine gc_loop (6) (fun (k9 : Nat) (H : Heap) (locs : List Loc) (ls : Array Slot) => va_P (dC, dI) vwCl ((gcW h kc f1 f2 dr cl tr se (nI g) (nI r) inf (nI ct) ++ ([(sa, .inr (1, [.int (nI g), .ref ru, .ref q2, .ref q3, .int (nI ct)]))] ++ ([(ru, qa_R kA r (qa_up r rr))] ++ ([(q2, qa_R kA (2 * g) (qa_up (2 * g) sr))] ++ ([(q3, .inl (kI, 2 ^ g, .inl fs))] ++ ([(q5, .inl (kI, 6, .inl (upd (upd (upd (upd (upd (upd (fun _ => 0) 0 (nI g)) 1 (nI r)) 2 fo9) 3 tn) 4 va) 5 pa)))])))))) ++ (qT r rr (qE kI 3 (qF K)) ++ qT (2 * g) sr (qE kI (2 * g) (qD D9)))) H ∧ va_D A ((gcW h kc f1 f2 dr cl tr se (nI g) (nI r) inf (nI ct) ++ ([(sa, .inr (1, [.int (nI g), .ref ru, .ref q2, .ref q3, .int (nI ct)]))] ++ ([(ru, qa_R kA r (qa_up r rr))] ++ ([(q2, qa_R kA (2 * g) (qa_up (2 * g) sr))] ++ ([(q3, .inl (kI, 2 ^ g, .inl fs))] ++ ([(q5, .inl (kI, 6, .inl (upd (upd (upd (upd (upd (upd (fun _ => 0) 0 (nI g)) 1 (nI r)) 2 fo9) 3 tn) 4 va) 5 pa)))])))))) ++ (qT r rr (qE kI 3 (qF K)) ++ qT (2 * g) sr (qE kI (2 * g) (qD D9)))) ∧ va_S A s.heap H locs ∧ lv_has ls 19 [(11, .int (nI k9)), (10, .ref q5), (9, .int su), (8, .int mo), (7, .int fe), (6, .int pa), (5, .int va), (4, .int tn), (3, .int fo9), (2, .int (nI g)), (0, .ref sa), (1, .ref (h 0))]) 0 (Nat.zero_le _) ⟨hP, hD, hS, lv_sub hl [0, 1, 2, 3, 4, 5, 6, 7, 8, 9, 10, 11] rfl⟩ ?_
          intro k9 H locs ls hk9 hI ihk9
          obtain ⟨hP, hD, hS, hl⟩ := hI
          refine lv_iload hx hb dX1_isSame_752 (lv_at hl 0 rfl) ?_
          refine lv_bipush (v := 6) hx hb dX1_isSame_754 (by decide) ?_
          refine lv_icmp_ge (tgt := 781) hx hb dX1_isSame_756 (by decide) (fun c_756 => ?_) (fun c_756 => ?_)
          · skip
            have hEk9 : k9 = 6 := gc_ge c_756 (by omega) (by omega)
            refine lv_aload_n hx hb dX1_isSame_781 rfl (lv_at hl 11 rfl) ?_
            have hPc : va_P (dC, dI) vwCl (gcW h kc f1 f2 dr cl tr se (nI g) (nI r) inf (nI ct)) _ := hP.sub [0, 1, 2, 3, 4, 5, 6] rfl
            have hKc : va_K (dC, dI) vwCl (gcT kc) s := hK.sub [0, 1, 2, 3, 4, 5] rfl
            refine va_calli (va_runV (As := []) (rest := []) ⟨hx, hb, hml, hown, hts⟩ (c_X0_fits l dC dI h kc f1 f2 dr cl tr se g r inf ct (by first | assumption | omega) (by first | assumption | omega)) (cwV 0 hts gX1_isSame_X0_fits rfl rfl rfl (by decide +kernel) ⟨Nat.le_of_ble_eq_true rfl, Nat.le_of_ble_eq_true rfl⟩) ⟨gcPR_blind, va_recv hK hP (ci := 0) (q0 := 0) rfl rfl, fun U hU hW => ⟨rfl, by rw [hU]; exact hPc, va_K.moved hW.alike hKc⟩⟩ rfl rfl hl.1 rfl (lv_room (Nat.le_of_ble_eq_true rfl)) dX1_isSame_782 ⟨by show _ ≤ (24 : Nat); omega, by show _ ≤ (372 : Nat); omega⟩) hS (fun q _ h => h.elim) (fun q h => h.elim) (fun r2 u t H locs ht hvm hw hB hz1 hk1 hS => ?_)
            have hP := gc_keep hP hk1
            have hw : r2 = gB (gFt cl g) := hw
            subst hw
            clear hw
            clear hB hz1 hk1 ht hvm
            clear hPc hKc
            refine gc_topi (y := gB (decide (¬ nI ct ≤ 0))) (by rw [fits_eq (by omega) hKg hKr30 hCl, ← all_eq (by omega) hKg hKr30 hLF]; rfl) ?_
            refine lv_aload_n hx hb dX1_isSame_785 rfl (lv_at hl 10 rfl) ?_
            refine va_get (D := (dC, dI)) (ci := 1) (v := .int (nI ct)) (C := RX1) (T := TX1) (N := 5) hx hb hts hin1 hown hK hP 7 rfl rfl 4 (by decide) (hts (.fieldLink RX1 39 "GuestChairsLaw$Sim" "many" "I") (by decide +kernel)) (fun _ h9 => h9) rfl dX1_isSame_786 ?_
            refine q_ternG (v := (decide (¬ nI ct ≤ 0))) (p3 := 792) (tgt := 796) (mg := 797) hx hb (fun kt kf => lv_if_le (tgt := 796) hx hb dX1_isSame_789 (by decide) (fun c => kf (decide_eq_false (fun q => q c))) (fun c => kt (decide_eq_true c))) dX1_isSame_792 dX1_isSame_793 (by decide) dX1_isSame_796 rfl ?_
            refine lv_icmp_ne (tgt := 872) hx hb dX1_isSame_797 (by decide) (fun h => absurd rfl h) (fun _ => ?_)
            refine lv_aload_n hx hb dX1_isSame_800 rfl (lv_at hl 11 rfl) ?_
            have hPc : va_P (dC, dI) vwCl (gcW h kc f1 f2 dr cl tr se (nI g) (nI r) inf (nI ct)) _ := hP.sub [0, 1, 2, 3, 4, 5, 6] rfl
            have hKc : va_K (dC, dI) vwCl (gcT kc) s := hK.sub [0, 1, 2, 3, 4, 5] rfl
            refine va_calli (va_runV (As := []) (rest := []) ⟨hx, hb, hml, hown, hts⟩ (c_X0_seatings l dC dI h kc f1 f2 dr cl tr se g r inf ct) (cwV 0 hts gX1_isSame_X0_seatings rfl rfl rfl (by decide +kernel) ⟨Nat.le_of_ble_eq_true rfl, Nat.le_of_ble_eq_true rfl⟩) ⟨gcPR_blind, va_recv hK hP (ci := 0) (q0 := 0) rfl rfl, fun U hU hW => ⟨rfl, by rw [hU]; exact hPc, va_K.moved hW.alike hKc⟩⟩ rfl rfl hl.1 rfl (lv_room (Nat.le_of_ble_eq_true rfl)) dX1_isSame_801 ⟨by show _ ≤ (24 : Nat); omega, by show _ ≤ (372 : Nat); omega⟩) hS (fun q _ h => h.elim) (fun q h => h.elim) (fun r3 u t H locs ht hvm hw hB hz1 hk1 hS => ?_)
            have hP := gc_keep hP hk1
            have hw : r3 = nI ct := hw
            subst hw
            clear hw
            clear hB hz1 hk1 ht hvm
            clear hPc hKc
            refine lv_aload_n hx hb dX1_isSame_804 rfl (lv_at hl 10 rfl) ?_
            refine va_get (D := (dC, dI)) (ci := 1) (v := .int (nI ct)) (C := RX1) (T := TX1) (N := 5) hx hb hts hin1 hown hK hP 7 rfl rfl 4 (by decide) (hts (.fieldLink RX1 39 "GuestChairsLaw$Sim" "many" "I") (by decide +kernel)) (fun _ h9 => h9) rfl dX1_isSame_805 ?_
            refine lv_icmp_ne (tgt := 872) hx hb dX1_isSame_808 (by decide) (fun h => absurd rfl h) (fun _ => ?_)
            refine lv_aload_n hx hb dX1_isSame_811 rfl (lv_at hl 11 rfl) ?_
            have hPc : va_P (dC, dI) vwCl (gcW h kc f1 f2 dr cl tr se (nI g) (nI r) inf (nI ct)) _ := hP.sub [0, 1, 2, 3, 4, 5, 6] rfl
            have hKc : va_K (dC, dI) vwCl (gcT kc) s := hK.sub [0, 1, 2, 3, 4, 5] rfl
            refine va_calli (va_runV (As := []) (rest := []) ⟨hx, hb, hml, hown, hts⟩ (c_X0_seat l dC dI h kc f1 f2 dr cl tr se g r inf ct (by first | assumption | omega) (by first | assumption | omega)) (cwV 0 hts gX1_isSame_X0_seat rfl rfl rfl (by decide +kernel) ⟨Nat.le_of_ble_eq_true rfl, Nat.le_of_ble_eq_true rfl⟩) ⟨gcPR_blind, va_recv hK hP (ci := 0) (q0 := 0) rfl rfl, fun U hU hW => ⟨rfl, by rw [hU]; exact hPc, va_K.moved hW.alike hKc⟩⟩ rfl rfl hl.1 rfl (lv_room (Nat.le_of_ble_eq_true rfl)) dX1_isSame_812 ⟨by show _ ≤ (24 : Nat); omega, by show _ ≤ (372 : Nat); omega⟩) hS (fun q _ h => h.elim) (fun q h => h.elim) (fun r4 u t H locs ht hvm hw hB hz1 hk1 hS => ?_)
            have hP := gc_keep hP hk1
            have hw : r4 = (if ct = 0 then -1 else gGC (gAt 1024 se 0) g) := hw
            subst hw
            clear hw
            clear hB hz1 hk1 ht hvm
            clear hPc hKc
            refine gc_topi (y := gSeat se g ct) (rfl) ?_
            refine lv_aload_n hx hb dX1_isSame_815 rfl (lv_at hl 10 rfl) ?_
            have hPc : va_P (dC, dI) vwCl ([(sa, .inr (1, [.int (nI g), .ref ru, .ref q2, .ref q3, .int (nI ct)]))] ++ ([(q3, .inl (kI, 2 ^ g, .inl fs))])) _ := hP.sub [7, 10] rfl
            have hKc : va_K (dC, dI) vwCl ([(kI, .int)]) s := hK.sub [7] rfl
            refine va_calli (va_runV (As := []) (rest := [.int (gSeat se g ct)]) ⟨hx, hb, hml, hown, hts⟩ (c_X1_seat l dC dI sa ru q2 q3 (nI g) (nI ct) kI fs K g (by first | assumption | omega) (by first | assumption | omega)) (cwV 0 hts gX1_isSame_X1_seat rfl rfl rfl (by decide +kernel) ⟨Nat.le_of_ble_eq_true rfl, Nat.le_of_ble_eq_true rfl⟩) ⟨gcPR_blind, va_recv hK hP (ci := 1) (q0 := 7) rfl rfl, fun U hU hW => ⟨rfl, by rw [hU]; exact hPc, va_K.moved hW.alike hKc⟩⟩ rfl rfl hl.1 rfl (lv_room (Nat.le_of_ble_eq_true rfl)) dX1_isSame_816 ⟨by show _ ≤ (24 : Nat); omega, by show _ ≤ (372 : Nat); omega⟩) hS (fun q _ h => h.elim) (fun q h => h.elim) (fun r5 u t H locs ht hvm hw hB hz1 hk1 hS => ?_)
            have hP := gc_keep hP hk1
            have hw_816 : QB K (2 ^ g) r5 := hw
            clear hB hz1 hk1 ht hvm
            clear hPc hKc
            refine gc_topi (y := gSeat se g ct) (by rw [hse, hct]; exact (seat_best (by omega) hKg hCl s0 hw_816).symm) ?_
            refine lv_icmp_ne (tgt := 872) hx hb dX1_isSame_819 (by decide) (fun h => absurd rfl h) (fun _ => ?_)
            refine lv_aload_n hx hb dX1_isSame_822 rfl (lv_at hl 11 rfl) ?_
            have hPc : va_P (dC, dI) vwCl (gcW h kc f1 f2 dr cl tr se (nI g) (nI r) inf (nI ct)) _ := hP.sub [0, 1, 2, 3, 4, 5, 6] rfl
            have hKc : va_K (dC, dI) vwCl (gcT kc) s := hK.sub [0, 1, 2, 3, 4, 5] rfl
            refine va_calli (va_runV (As := []) (rest := []) ⟨hx, hb, hml, hown, hts⟩ (c_X0_fewest l dC dI h kc f1 f2 dr cl tr se g r inf ct (by first | assumption | omega)) (cwV 0 hts gX1_isSame_X0_fewest rfl rfl rfl (by decide +kernel) ⟨Nat.le_of_ble_eq_true rfl, Nat.le_of_ble_eq_true rfl⟩) ⟨gcPR_blind, va_recv hK hP (ci := 0) (q0 := 0) rfl rfl, fun U hU hW => ⟨rfl, by rw [hU]; exact hPc, va_K.moved hW.alike hKc⟩⟩ rfl rfl hl.1 rfl (lv_room (Nat.le_of_ble_eq_true rfl)) dX1_isSame_823 ⟨by show _ ≤ (24 : Nat); omega, by show _ ≤ (372 : Nat); omega⟩) hS (fun q _ h => h.elim) (fun q h => h.elim) (fun r6 u t H locs ht hvm hw hB hz1 hk1 hS => ?_)
            have hP := gc_keep hP hk1
            have hw : r6 = gFe se ct := hw
            subst hw
            clear hw
            clear hB hz1 hk1 ht hvm
            clear hPc hKc
            refine gc_topi (y := fe) (by rw [few_eq (by omega) hKg hKr30 hLF, e_fe, hES8]) ?_
            refine lv_iload hx hb dX1_isSame_826 (lv_at hl 4 rfl) ?_
            refine lv_icmp_ne (tgt := 872) hx hb dX1_isSame_828 (by decide) (fun h => absurd rfl h) (fun _ => ?_)
            refine lv_aload_n hx hb dX1_isSame_831 rfl (lv_at hl 11 rfl) ?_
            have hPc : va_P (dC, dI) vwCl (gcW h kc f1 f2 dr cl tr se (nI g) (nI r) inf (nI ct)) _ := hP.sub [0, 1, 2, 3, 4, 5, 6] rfl
            have hKc : va_K (dC, dI) vwCl (gcT kc) s := hK.sub [0, 1, 2, 3, 4, 5] rfl
            refine va_calli (va_runV (As := []) (rest := []) ⟨hx, hb, hml, hown, hts⟩ (c_X0_most l dC dI h kc f1 f2 dr cl tr se g r inf ct (by first | assumption | omega)) (cwV 0 hts gX1_isSame_X0_most rfl rfl rfl (by decide +kernel) ⟨Nat.le_of_ble_eq_true rfl, Nat.le_of_ble_eq_true rfl⟩) ⟨gcPR_blind, va_recv hK hP (ci := 0) (q0 := 0) rfl rfl, fun U hU hW => ⟨rfl, by rw [hU]; exact hPc, va_K.moved hW.alike hKc⟩⟩ rfl rfl hl.1 rfl (lv_room (Nat.le_of_ble_eq_true rfl)) dX1_isSame_832 ⟨by show _ ≤ (24 : Nat); omega, by show _ ≤ (372 : Nat); omega⟩) hS (fun q _ h => h.elim) (fun q h => h.elim) (fun r7 u t H locs ht hvm hw hB hz1 hk1 hS => ?_)
            have hP := gc_keep hP hk1
            have hw : r7 = gMo se ct := hw
            subst hw
            clear hw
            clear hB hz1 hk1 ht hvm
            clear hPc hKc
            refine gc_topi (y := mo) (by rw [most_eq (by omega) hKg hKr30 hLF, e_mo, hES8]) ?_
            refine lv_iload hx hb dX1_isSame_835 (lv_at hl 3 rfl) ?_
            refine lv_icmp_ne (tgt := 872) hx hb dX1_isSame_837 (by decide) (fun h => absurd rfl h) (fun _ => ?_)
            refine lv_aload_n hx hb dX1_isSame_840 rfl (lv_at hl 11 rfl) ?_
            have hPc : va_P (dC, dI) vwCl (gcW h kc f1 f2 dr cl tr se (nI g) (nI r) inf (nI ct)) _ := hP.sub [0, 1, 2, 3, 4, 5, 6] rfl
            have hKc : va_K (dC, dI) vwCl (gcT kc) s := hK.sub [0, 1, 2, 3, 4, 5] rfl
            refine va_calldD hd0 (va_runV_D (As := []) (rest := []) ⟨hx, hb, hml, hown, hts⟩ (c_X0_mean l dC dI h kc f1 f2 dr cl tr se g r inf ct (by first | assumption | omega)) (cwV 0 hts gX1_isSame_X0_mean rfl rfl rfl (by decide +kernel) ⟨Nat.le_of_ble_eq_true rfl, Nat.le_of_ble_eq_true rfl⟩) ⟨gcPR_blind, va_recv hK hP (ci := 0) (q0 := 0) rfl rfl, fun U hU hW => ⟨rfl, by rw [hU]; exact hPc, va_K.moved hW.alike hKc⟩⟩ rfl rfl hl.1 rfl (lv_room (Nat.le_of_ble_eq_true rfl)) dX1_isSame_841 ⟨by show _ ≤ (24 : Nat); omega, by show _ ≤ (372 : Nat); omega⟩) hS (fun q _ h => h.elim) (fun q h => h.elim) (fun r8 u t H locs ht hvm hw hB hz1 hk1 hS d841 hd841 => ?_)
            have hts := dr_words hts1 d841
            have hP := gc_keep hP hk1
            have hw_841 : alike64 r8 (gMv (gSu se ct) (nI ct)) = true := hw
            clear hB hz1 hk1 ht hvm
            clear hPc hKc
            refine lv_aload_n hx hb dX1_isSame_844 rfl (lv_at hl 10 rfl) ?_
            refine va_get (D := (dC, dI)) (ci := 1) (v := .int (nI ct)) (C := RX1) (T := TX1) (N := 5) hx hb hts hin1 hown hK hP 7 rfl rfl 4 (by decide) (hts (.fieldLink RX1 39 "GuestChairsLaw$Sim" "many" "I") (by decide +kernel)) (fun _ h9 => h9) rfl dX1_isSame_845 ?_
            refine lv_if_ne (tgt := 855) hx hb dX1_isSame_848 (by decide) (fun c_848 => ?_) (fun c_848 => ?_)
            · skip
              have hw9 : alike64 r8 (FP.ddiv (FP.i2d su) (FP.i2d (nI ct))) = true := by have q := hw_841; rw [gMv, if_neg c_848, mean_eq (by omega) hKg hKr30 hLF, ← hES8, ← e_su] at q; exact q
              refine lv_iload hx hb dX1_isSame_855 (lv_at hl 2 rfl) ?_
              refine lv_i2d hx hb dX1_isSame_857 ?_
              refine lv_aload_n hx hb dX1_isSame_858 rfl (lv_at hl 10 rfl) ?_
              refine va_get (D := (dC, dI)) (ci := 1) (v := .int (nI ct)) (C := RX1) (T := TX1) (N := 5) hx hb hts hin1 hown hK hP 7 rfl rfl 4 (by decide) (hts (.fieldLink RX1 39 "GuestChairsLaw$Sim" "many" "I") (by decide +kernel)) (fun _ h9 => h9) rfl dX1_isSame_859 ?_
              refine lv_i2d hx hb dX1_isSame_862 ?_
              refine lv_ddiv_any hd841 lw_bits hx hb dX1_isSame_863 (fun rq d1 hal hd1 => ?_)
              refine lv_dcmp hx hb dX1_isSame_864 ?_
              refine gc_topi (y := 0) (mean_same (mean_num c_848) hw9 hal) ?_
              refine lv_if_ne (tgt := 872) hx hb dX1_isSame_865 (by decide) (fun c_865 => ?_) (fun c_865 => ?_)
              · skip
                exact absurd (by decide) c_865
              · skip
                refine lv_iconst (v := 1) hx hb dX1_isSame_868 (by decide) ?_
                refine lv_goto (tgt := 873) hx hb dX1_isSame_869 (by decide) ?_
                refine W.widen (k := 24) (n := 372) (by omega) (by omega) ?_
                have hP : va_P (dC, dI) vwCl [] H := hP.sub [] rfl
                have hD : va_D A [] := hD.sub [] (by decide) rfl
                have hpost : (1 : Int32) = 1 := by first | rfl | assumption
                refine W.endD hd1 ?_
                exact W.zret (ty := .boolean) (v := 1) hx hb hr (by first | rfl | decide | exact gB_nar _) (fun t ht hW => ⟨⟨1, (), rfl, hpost, ⟨by rw [ht]; exact hP, hD⟩⟩, hS.F ht⟩) hS.2.2 dX1_isSame_873
            · skip
              have hw9 : alike64 r8 FP.dconst0 = true := by have q := hw_841; rw [gMv, if_pos c_848] at q; exact q
              refine lv_dconst0 hx hb dX1_isSame_851 ?_
              refine lv_goto (tgt := 864) hx hb dX1_isSame_852 (by decide) ?_
              refine lv_dcmp hx hb dX1_isSame_864 ?_
              refine gc_topi (y := 0) (mean_same mean_zero hw9 (alike_self _)) ?_
              refine lv_if_ne (tgt := 872) hx hb dX1_isSame_865 (by decide) (fun c_865 => ?_) (fun c_865 => ?_)
              · skip
                exact absurd (by decide) c_865
              · skip
                refine lv_iconst (v := 1) hx hb dX1_isSame_868 (by decide) ?_
                refine lv_goto (tgt := 873) hx hb dX1_isSame_869 (by decide) ?_
                refine W.widen (k := 24) (n := 372) (by omega) (by omega) ?_
                have hP : va_P (dC, dI) vwCl [] H := hP.sub [] rfl
                have hD : va_D A [] := hD.sub [] (by decide) rfl
                have hpost : (1 : Int32) = 1 := by first | rfl | assumption
                refine W.endD hd841 ?_
                exact W.zret (ty := .boolean) (v := 1) hx hb hr (by first | rfl | decide | exact gB_nar _) (fun t ht hW => ⟨⟨1, (), rfl, hpost, ⟨by rw [ht]; exact hP, hD⟩⟩, hS.F ht⟩) hS.2.2 dX1_isSame_873
          · skip
            have hLk9 : k9 < 6 := gc_lt c_756 (by omega) (by omega)
            refine lv_aload_n hx hb dX1_isSame_759 rfl (lv_at hl 11 rfl) ?_
            refine lv_iload hx hb dX1_isSame_760 (lv_at hl 0 rfl) ?_
            have hPc : va_P (dC, dI) vwCl (gcW h kc f1 f2 dr cl tr se (nI g) (nI r) inf (nI ct)) _ := hP.sub [0, 1, 2, 3, 4, 5, 6] rfl
            have hKc : va_K (dC, dI) vwCl (gcT kc) s := hK.sub [0, 1, 2, 3, 4, 5] rfl
            refine va_calli (va_runV (As := [.int (nI k9)]) (rest := []) ⟨hx, hb, hml, hown, hts⟩ (c_X0_count l dC dI h kc f1 f2 dr cl tr se g r inf ct k9 (by first | assumption | omega) (by first | assumption | omega)) (cwV 1 hts gX1_isSame_X0_count rfl rfl rfl (by decide +kernel) ⟨Nat.le_of_ble_eq_true rfl, Nat.le_of_ble_eq_true rfl⟩) ⟨gcPR_blind, va_recv hK hP (ci := 0) (q0 := 0) rfl rfl, fun U hU hW => ⟨rfl, by rw [hU]; exact hPc, va_K.moved hW.alike hKc⟩⟩ rfl rfl hl.1 rfl (lv_room (Nat.le_of_ble_eq_true rfl)) dX1_isSame_762 ⟨by show _ ≤ (24 : Nat); omega, by show _ ≤ (372 : Nat); omega⟩) hS (fun q _ h => h.elim) (fun q h => h.elim) (fun r9 u t H locs ht hvm hw hB hz1 hk1 hS => ?_)
            have hP := gc_keep hP hk1
            have hw : r9 = gCo cl g r inf k9 := hw
            subst hw
            clear hw
            clear hB hz1 hk1 ht hvm
            clear hPc hKc
            refine gc_topi (y := mCo K g r k9) (count_eq hOK (by omega) hr30 hz hKg hCl hLk9) ?_
            refine lv_aload hx hb dX1_isSame_765 (lv_at hl 1 rfl) ?_
            refine lv_iload hx hb dX1_isSame_767 (lv_at hl 0 rfl) ?_
            refine va_iald hx hb hK hP 11 7 rfl rfl (vp_in_nI (n := k9) (N := 6) (by omega) (by omega)) dX1_isSame_769 ?_
            rw [show (nI k9 : Int32).toNatClampNeg = k9 from nI_clamp (by omega)]
            refine lv_icmp_eq (tgt := 775) hx hb dX1_isSame_770 (by decide) (fun c_770 => ?_) (fun c_770 => ?_)
            · skip
              refine lv_iinc (v := nI (k9 + 1)) (lv' := [(11, .int (nI (k9 + 1))), (10, .ref q5), (9, .int su), (8, .int mo), (7, .int fe), (6, .int pa), (5, .int va), (4, .int tn), (3, .int fo9), (2, .int (nI g)), (0, .ref sa), (1, .ref (h 0))]) hx hb dX1_isSame_775 hl (k := 0) rfl (nI_1 k9) (by decide) rfl (fun ls hl => ?_)
              refine lv_goto (tgt := 752) hx hb dX1_isSame_778 (by decide) ?_
              exact ihk9 H _ ls (by omega) ⟨hP, hD, hS, lv_sub hl [0, 1, 2, 3, 4, 5, 6, 7, 8, 9, 10, 11] rfl⟩
            · skip
              exact absurd (count_row (by rw [e_fo9, hEi1]) (by rw [e_tn, hEx1]) (by rw [e_va, hEw1]) (by rw [e_pa, hEw1]) hLk9) c_770
        · skip
          have hLx1 : x1 < g := gc_lt c_355 (by omega) (by omega)
          refine lv_aload_n hx hb dX1_isSame_358 rfl (lv_at hl 9 rfl) ?_
          refine va_get (D := (dC, dI)) (ci := 1) (v := .int (nI ct)) (C := RX1) (T := TX1) (N := 5) hx hb hts hin1 hown hK hP 7 rfl rfl 4 (by decide) (hts (.fieldLink RX1 39 "GuestChairsLaw$Sim" "many" "I") (by decide +kernel)) (fun _ h9 => h9) rfl dX1_isSame_359 ?_
          refine q_ternG (v := (decide (¬ nI ct ≤ 0))) (p3 := 365) (tgt := 369) (mg := 370) hx hb (fun kt kf => lv_if_le (tgt := 369) hx hb dX1_isSame_362 (by decide) (fun c => kf (decide_eq_false (fun q => q c))) (fun c => kt (decide_eq_true c))) dX1_isSame_365 dX1_isSame_366 (by decide) dX1_isSame_369 rfl ?_
          refine lv_istore (lv' := [(11, .int (gB (decide (¬ nI ct ≤ 0)))), (10, .int (nI x1)), (9, .int su), (8, .int mo), (7, .int fe), (6, .int pa), (5, .int va), (4, .int tn), (3, .int fo9), (2, .int (nI g)), (0, .ref sa), (1, .ref (h 0))]) hx hb dX1_isSame_370 hl (by decide) rfl (fun ls hl => ?_)
          refine lv_aload_n hx hb dX1_isSame_372 rfl (lv_at hl 10 rfl) ?_
          refine va_get (D := (dC, dI)) (ci := 1) (v := .int (nI ct)) (C := RX1) (T := TX1) (N := 5) hx hb hts hin1 hown hK hP 7 rfl rfl 4 (by decide) (hts (.fieldLink RX1 39 "GuestChairsLaw$Sim" "many" "I") (by decide +kernel)) (fun _ h9 => h9) rfl dX1_isSame_373 ?_
          refine q_ternG (v := (decide (¬ nI ct ≤ 0))) (p3 := 379) (tgt := 383) (mg := 384) hx hb (fun kt kf => lv_if_le (tgt := 383) hx hb dX1_isSame_376 (by decide) (fun c => kf (decide_eq_false (fun q => q c))) (fun c => kt (decide_eq_true c))) dX1_isSame_379 dX1_isSame_380 (by decide) dX1_isSame_383 rfl ?_
          refine lv_istore (lv' := [(12, .int (gB (decide (¬ nI ct ≤ 0)))), (11, .int (gB (decide (¬ nI ct ≤ 0)))), (10, .int (nI x1)), (9, .int su), (8, .int mo), (7, .int fe), (6, .int pa), (5, .int va), (4, .int tn), (3, .int fo9), (2, .int (nI g)), (0, .ref sa), (1, .ref (h 0))]) hx hb dX1_isSame_384 hl (by decide) rfl (fun ls hl => ?_)
          refine lv_iconst (v := 0) hx hb dX1_isSame_386 (by decide) ?_
          refine lv_istore (lv' := [(13, .int 0), (12, .int (gB (decide (¬ nI ct ≤ 0)))), (11, .int (gB (decide (¬ nI ct ≤ 0)))), (10, .int (nI x1)), (9, .int su), (8, .int mo), (7, .int fe), (6, .int pa), (5, .int va), (4, .int tn), (3, .int fo9), (2, .int (nI g)), (0, .ref sa), (1, .ref (h 0))]) hx hb dX1_isSame_387 hl (by decide) rfl (fun ls hl => ?_)
          refine gc_loop (2 ^ g) (fun (S9 : Nat) (H : Heap) (locs : List Loc) (ls : Array Slot) => ∃ (bh : Bool) (bc : Bool), bh = (decide (¬ nI ct ≤ 0) && gmA (mFp K (-1) (-1) (nI (2 * x1))) S9) ∧ bc = (decide (¬ nI ct ≤ 0) && gmA (mFp K (-1) (-1) (nI (2 * x1 + 1))) S9) ∧ va_P (dC, dI) vwCl ((gcW h kc f1 f2 dr cl tr se (nI g) (nI r) inf (nI ct) ++ ([(sa, .inr (1, [.int (nI g), .ref ru, .ref q2, .ref q3, .int (nI ct)]))] ++ ([(ru, qa_R kA r (qa_up r rr))] ++ ([(q2, qa_R kA (2 * g) (qa_up (2 * g) sr))] ++ ([(q3, .inl (kI, 2 ^ g, .inl fs))]))))) ++ (qT r rr (qE kI 3 (qF K)) ++ qT (2 * g) sr (qE kI (2 * g) (qD D9)))) H ∧ va_D A ((gcW h kc f1 f2 dr cl tr se (nI g) (nI r) inf (nI ct) ++ ([(sa, .inr (1, [.int (nI g), .ref ru, .ref q2, .ref q3, .int (nI ct)]))] ++ ([(ru, qa_R kA r (qa_up r rr))] ++ ([(q2, qa_R kA (2 * g) (qa_up (2 * g) sr))] ++ ([(q3, .inl (kI, 2 ^ g, .inl fs))]))))) ++ (qT r rr (qE kI 3 (qF K)) ++ qT (2 * g) sr (qE kI (2 * g) (qD D9)))) ∧ va_S A s.heap H locs ∧ lv_has ls 19 [(13, .int (nI S9)), (12, .int (gB bc)), (11, .int (gB bh)), (10, .int (nI x1)), (9, .int su), (8, .int mo), (7, .int fe), (6, .int pa), (5, .int va), (4, .int tn), (3, .int fo9), (2, .int (nI g)), (0, .ref sa), (1, .ref (h 0))]) 0 (Nat.zero_le _) ⟨(decide (¬ nI ct ≤ 0)), (decide (¬ nI ct ≤ 0)), (by simp [gmA]), (by simp [gmA]), hP, hD, hS, lv_sub hl [0, 1, 2, 3, 4, 5, 6, 7, 8, 9, 10, 11, 12, 13] rfl⟩ ?_
          intro S9 H locs ls hS9 hI ihS9
          obtain ⟨bh, bc, e_bh, e_bc, hP, hD, hS, hl⟩ := hI
          refine lv_iload hx hb dX1_isSame_389 (lv_at hl 0 rfl) ?_
          refine lv_aload_n hx hb dX1_isSame_391 rfl (lv_at hl 12 rfl) ?_
          refine va_get (D := (dC, dI)) (ci := 1) (v := .ref q3) (C := RX1) (T := TX1) (N := 5) hx hb hts hin1 hown hK hP 7 rfl rfl 3 (by decide) (hts (.fieldLink RX1 36 "GuestChairsLaw$Sim" "sets" "[I") (by decide +kernel)) (fun _ h9 => h9) rfl dX1_isSame_392 ?_
          refine va_alen hx hb hK hP 10 7 rfl rfl (v := nI (2 ^ g)) rfl dX1_isSame_395 ?_
          refine lv_icmp_ge (tgt := 462) hx hb dX1_isSame_396 (by decide) (fun c_396 => ?_) (fun c_396 => ?_)
          · skip
            have hES9 : S9 = 2 ^ g := gc_ge c_396 (by omega) (by omega)
            refine q_joinH (I := fun H locs => va_P (dC, dI) vwCl ((gcW h kc f1 f2 dr cl tr se (nI g) (nI r) inf (nI ct) ++ ([(sa, .inr (1, [.int (nI g), .ref ru, .ref q2, .ref q3, .int (nI ct)]))] ++ ([(ru, qa_R kA r (qa_up r rr))] ++ ([(q2, qa_R kA (2 * g) (qa_up (2 * g) sr))] ++ ([(q3, .inl (kI, 2 ^ g, .inl fs))]))))) ++ (qT r rr (qE kI 3 (qF K)) ++ qT (2 * g) sr (qE kI (2 * g) (qD D9)))) H ∧ va_S A s.heap H locs) (g2 := F0 m 491 ls [.int (gB (mTo K x1))]) (fun H locs hJ => ?_) (fun hJ462 => ?_)
            · skip
              obtain ⟨hP, hS⟩ := hJ
              refine lv_istore (lv' := [(13, .int (gB (mTo K x1))), (12, .int (gB bc)), (11, .int (gB bh)), (10, .int (nI x1)), (9, .int su), (8, .int mo), (7, .int fe), (6, .int pa), (5, .int va), (4, .int tn), (3, .int fo9), (2, .int (nI g)), (0, .ref sa), (1, .ref (h 0))]) hx hb dX1_isSame_491 hl (by decide) rfl (fun ls hl => ?_)
              refine lv_iload hx hb dX1_isSame_493 (lv_at hl 9 rfl) ?_
              refine lv_iload hx hb dX1_isSame_495 (lv_at hl 0 rfl) ?_
              refine q_ternG (v := (mTo K x1)) (p3 := 500) (tgt := 504) (mg := 505) hx hb (fun kt kf => lv_if_eq (tgt := 504) hx hb dX1_isSame_497 (by decide) (fun c => kf (gB_f c)) (fun c => kt (gB_t c))) dX1_isSame_500 dX1_isSame_501 (by decide) dX1_isSame_504 rfl ?_
              refine lv_iadd hx hb dX1_isSame_505 ?_
              refine lv_istore (lv' := [(4, .int (tn + gB (mTo K x1))), (13, .int (gB (mTo K x1))), (12, .int (gB bc)), (11, .int (gB bh)), (10, .int (nI x1)), (9, .int su), (8, .int mo), (7, .int fe), (6, .int pa), (5, .int va), (3, .int fo9), (2, .int (nI g)), (0, .ref sa), (1, .ref (h 0))]) hx hb dX1_isSame_506 hl (by decide) rfl (fun ls hl => ?_)
              refine lv_iconst (v := 0) hx hb dX1_isSame_508 (by decide) ?_
              refine lv_istore (lv' := [(14, .int 0), (4, .int (tn + gB (mTo K x1))), (13, .int (gB (mTo K x1))), (12, .int (gB bc)), (11, .int (gB bh)), (10, .int (nI x1)), (9, .int su), (8, .int mo), (7, .int fe), (6, .int pa), (5, .int va), (3, .int fo9), (2, .int (nI g)), (0, .ref sa), (1, .ref (h 0))]) hx hb dX1_isSame_509 hl (by decide) rfl (fun ls hl => ?_)
              refine lv_iconst (v := 0) hx hb dX1_isSame_511 (by decide) ?_
              refine lv_istore (lv' := [(15, .int 0), (14, .int 0), (4, .int (tn + gB (mTo K x1))), (13, .int (gB (mTo K x1))), (12, .int (gB bc)), (11, .int (gB bh)), (10, .int (nI x1)), (9, .int su), (8, .int mo), (7, .int fe), (6, .int pa), (5, .int va), (3, .int fo9), (2, .int (nI g)), (0, .ref sa), (1, .ref (h 0))]) hx hb dX1_isSame_512 hl (by decide) rfl (fun ls hl => ?_)
              refine gc_loop (g) (fun (y1 : Nat) (H : Heap) (locs : List Loc) (ls : Array Slot) => ∃ (wi : Int32), wi = mGs K x1 y1 ∧ va_P (dC, dI) vwCl ((gcW h kc f1 f2 dr cl tr se (nI g) (nI r) inf (nI ct) ++ ([(sa, .inr (1, [.int (nI g), .ref ru, .ref q2, .ref q3, .int (nI ct)]))] ++ ([(ru, qa_R kA r (qa_up r rr))] ++ ([(q2, qa_R kA (2 * g) (qa_up (2 * g) sr))] ++ ([(q3, .inl (kI, 2 ^ g, .inl fs))]))))) ++ (qT r rr (qE kI 3 (qF K)) ++ qT (2 * g) sr (qE kI (2 * g) (qD D9)))) H ∧ va_D A ((gcW h kc f1 f2 dr cl tr se (nI g) (nI r) inf (nI ct) ++ ([(sa, .inr (1, [.int (nI g), .ref ru, .ref q2, .ref q3, .int (nI ct)]))] ++ ([(ru, qa_R kA r (qa_up r rr))] ++ ([(q2, qa_R kA (2 * g) (qa_up (2 * g) sr))] ++ ([(q3, .inl (kI, 2 ^ g, .inl fs))]))))) ++ (qT r rr (qE kI 3 (qF K)) ++ qT (2 * g) sr (qE kI (2 * g) (qD D9)))) ∧ va_S A s.heap H locs ∧ lv_has ls 19 [(15, .int (nI y1)), (14, .int wi), (4, .int (tn + gB (mTo K x1))), (13, .int (gB (mTo K x1))), (12, .int (gB bc)), (11, .int (gB bh)), (10, .int (nI x1)), (9, .int su), (8, .int mo), (7, .int fe), (6, .int pa), (5, .int va), (3, .int fo9), (2, .int (nI g)), (0, .ref sa), (1, .ref (h 0))]) 0 (Nat.zero_le _) ⟨0, (by first | rfl | assumption | omega), hP, hD, hS, lv_sub hl [0, 1, 2, 3, 4, 5, 6, 7, 8, 9, 10, 11, 12, 13, 14, 15] rfl⟩ ?_
              intro y1 H locs ls hy1 hI ihy1
              obtain ⟨wi, e_wi, hP, hD, hS, hl⟩ := hI
              refine lv_iload hx hb dX1_isSame_514 (lv_at hl 0 rfl) ?_
              refine lv_iload_n hx hb dX1_isSame_516 rfl (lv_at hl 13 rfl) ?_
              refine lv_icmp_ge (tgt := 624) hx hb dX1_isSame_517 (by decide) (fun c_517 => ?_) (fun c_517 => ?_)
              · skip
                have hEy1 : y1 = g := gc_ge c_517 (by omega) (by omega)
                refine lv_iconst (v := 4) hx hb dX1_isSame_624 (by decide) ?_
                refine qa_newI hx hb (hts (.arrayClass .int) (by decide +kernel)) hK hP hD hS hA 7 rfl (n := 4) (N' := 4) (by decide) (rfl) (by omega) (by show _ ≤ (24 : Nat); omega) (by show _ ≤ (372 : Nat); omega) dX1_isSame_625 (fun q6 H hP hD hS => ?_)
                have hP := hP.perm qa_side
                have hD := hD.perm qa_side
                have hP : va_P (dC, dI) vwCl ((gcW h kc f1 f2 dr cl tr se (nI g) (nI r) inf (nI ct) ++ ([(sa, .inr (1, [.int (nI g), .ref ru, .ref q2, .ref q3, .int (nI ct)]))] ++ ([(ru, qa_R kA r (qa_up r rr))] ++ ([(q2, qa_R kA (2 * g) (qa_up (2 * g) sr))] ++ ([(q3, .inl (kI, 2 ^ g, .inl fs))] ++ ([(q6, .inl (kI, 4, .inl (fun _ => 0)))])))))) ++ (qT r rr (qE kI 3 (qF K)) ++ qT (2 * g) sr (qE kI (2 * g) (qD D9)))) H := hP
                have hD : va_D A ((gcW h kc f1 f2 dr cl tr se (nI g) (nI r) inf (nI ct) ++ ([(sa, .inr (1, [.int (nI g), .ref ru, .ref q2, .ref q3, .int (nI ct)]))] ++ ([(ru, qa_R kA r (qa_up r rr))] ++ ([(q2, qa_R kA (2 * g) (qa_up (2 * g) sr))] ++ ([(q3, .inl (kI, 2 ^ g, .inl fs))] ++ ([(q6, .inl (kI, 4, .inl (fun _ => 0)))])))))) ++ (qT r rr (qE kI 3 (qF K)) ++ qT (2 * g) sr (qE kI (2 * g) (qD D9)))) := hD
                refine lv_dup hx hb dX1_isSame_627 rfl ?_
                refine lv_iconst (v := 0) hx hb dX1_isSame_628 (by decide) ?_
                refine lv_iload hx hb dX1_isSame_629 (lv_at hl 5 rfl) ?_
                refine q_ternG (v := bh) (p3 := 634) (tgt := 638) (mg := 639) hx hb (fun kt kf => lv_if_eq (tgt := 638) hx hb dX1_isSame_631 (by decide) (fun c => kf (gB_f c)) (fun c => kt (gB_t c))) dX1_isSame_634 dX1_isSame_635 (by decide) dX1_isSame_638 rfl ?_
                refine va_iast hx hb hK hP hD hS 11 7 rfl rfl (vp_in_nI (n := 0) (N := 4) (by omega) (by omega)) dX1_isSame_639 (fun H locs hP hD hS => ?_)
                rw [show (0 : Int32).toNatClampNeg = 0 from rfl] at hP hD
                have hP : va_P (dC, dI) vwCl ((gcW h kc f1 f2 dr cl tr se (nI g) (nI r) inf (nI ct) ++ ([(sa, .inr (1, [.int (nI g), .ref ru, .ref q2, .ref q3, .int (nI ct)]))] ++ ([(ru, qa_R kA r (qa_up r rr))] ++ ([(q2, qa_R kA (2 * g) (qa_up (2 * g) sr))] ++ ([(q3, .inl (kI, 2 ^ g, .inl fs))] ++ ([(q6, .inl (kI, 4, .inl (upd (fun _ => 0) 0 (gB bh))))])))))) ++ (qT r rr (qE kI 3 (qF K)) ++ qT (2 * g) sr (qE kI (2 * g) (qD D9)))) H := hP
                have hD : va_D A ((gcW h kc f1 f2 dr cl tr se (nI g) (nI r) inf (nI ct) ++ ([(sa, .inr (1, [.int (nI g), .ref ru, .ref q2, .ref q3, .int (nI ct)]))] ++ ([(ru, qa_R kA r (qa_up r rr))] ++ ([(q2, qa_R kA (2 * g) (qa_up (2 * g) sr))] ++ ([(q3, .inl (kI, 2 ^ g, .inl fs))] ++ ([(q6, .inl (kI, 4, .inl (upd (fun _ => 0) 0 (gB bh))))])))))) ++ (qT r rr (qE kI 3 (qF K)) ++ qT (2 * g) sr (qE kI (2 * g) (qD D9)))) := hD
                refine lv_dup hx hb dX1_isSame_640 rfl ?_
                refine lv_iconst (v := 1) hx hb dX1_isSame_641 (by decide) ?_
                refine lv_iload hx hb dX1_isSame_642 (lv_at hl 4 rfl) ?_
                refine q_ternG (v := bc) (p3 := 647) (tgt := 651) (mg := 652) hx hb (fun kt kf => lv_if_eq (tgt := 651) hx hb dX1_isSame_644 (by decide) (fun c => kf (gB_f c)) (fun c => kt (gB_t c))) dX1_isSame_647 dX1_isSame_648 (by decide) dX1_isSame_651 rfl ?_
                refine va_iast hx hb hK hP hD hS 11 7 rfl rfl (vp_in_nI (n := 1) (N := 4) (by omega) (by omega)) dX1_isSame_652 (fun H locs hP hD hS => ?_)
                rw [show (1 : Int32).toNatClampNeg = 1 from rfl] at hP hD
                have hP : va_P (dC, dI) vwCl ((gcW h kc f1 f2 dr cl tr se (nI g) (nI r) inf (nI ct) ++ ([(sa, .inr (1, [.int (nI g), .ref ru, .ref q2, .ref q3, .int (nI ct)]))] ++ ([(ru, qa_R kA r (qa_up r rr))] ++ ([(q2, qa_R kA (2 * g) (qa_up (2 * g) sr))] ++ ([(q3, .inl (kI, 2 ^ g, .inl fs))] ++ ([(q6, .inl (kI, 4, .inl (upd (upd (fun _ => 0) 0 (gB bh)) 1 (gB bc))))])))))) ++ (qT r rr (qE kI 3 (qF K)) ++ qT (2 * g) sr (qE kI (2 * g) (qD D9)))) H := hP
                have hD : va_D A ((gcW h kc f1 f2 dr cl tr se (nI g) (nI r) inf (nI ct) ++ ([(sa, .inr (1, [.int (nI g), .ref ru, .ref q2, .ref q3, .int (nI ct)]))] ++ ([(ru, qa_R kA r (qa_up r rr))] ++ ([(q2, qa_R kA (2 * g) (qa_up (2 * g) sr))] ++ ([(q3, .inl (kI, 2 ^ g, .inl fs))] ++ ([(q6, .inl (kI, 4, .inl (upd (upd (fun _ => 0) 0 (gB bh)) 1 (gB bc))))])))))) ++ (qT r rr (qE kI 3 (qF K)) ++ qT (2 * g) sr (qE kI (2 * g) (qD D9)))) := hD
                refine lv_dup hx hb dX1_isSame_653 rfl ?_
                refine lv_iconst (v := 2) hx hb dX1_isSame_654 (by decide) ?_
                refine lv_iload hx hb dX1_isSame_655 (lv_at hl 3 rfl) ?_
                refine q_ternG (v := (mTo K x1)) (p3 := 660) (tgt := 664) (mg := 665) hx hb (fun kt kf => lv_if_eq (tgt := 664) hx hb dX1_isSame_657 (by decide) (fun c => kf (gB_f c)) (fun c => kt (gB_t c))) dX1_isSame_660 dX1_isSame_661 (by decide) dX1_isSame_664 rfl ?_
                refine va_iast hx hb hK hP hD hS 11 7 rfl rfl (vp_in_nI (n := 2) (N := 4) (by omega) (by omega)) dX1_isSame_665 (fun H locs hP hD hS => ?_)
                rw [show (2 : Int32).toNatClampNeg = 2 from rfl] at hP hD
                have hP : va_P (dC, dI) vwCl ((gcW h kc f1 f2 dr cl tr se (nI g) (nI r) inf (nI ct) ++ ([(sa, .inr (1, [.int (nI g), .ref ru, .ref q2, .ref q3, .int (nI ct)]))] ++ ([(ru, qa_R kA r (qa_up r rr))] ++ ([(q2, qa_R kA (2 * g) (qa_up (2 * g) sr))] ++ ([(q3, .inl (kI, 2 ^ g, .inl fs))] ++ ([(q6, .inl (kI, 4, .inl (upd (upd (upd (fun _ => 0) 0 (gB bh)) 1 (gB bc)) 2 (gB (mTo K x1)))))])))))) ++ (qT r rr (qE kI 3 (qF K)) ++ qT (2 * g) sr (qE kI (2 * g) (qD D9)))) H := hP
                have hD : va_D A ((gcW h kc f1 f2 dr cl tr se (nI g) (nI r) inf (nI ct) ++ ([(sa, .inr (1, [.int (nI g), .ref ru, .ref q2, .ref q3, .int (nI ct)]))] ++ ([(ru, qa_R kA r (qa_up r rr))] ++ ([(q2, qa_R kA (2 * g) (qa_up (2 * g) sr))] ++ ([(q3, .inl (kI, 2 ^ g, .inl fs))] ++ ([(q6, .inl (kI, 4, .inl (upd (upd (upd (fun _ => 0) 0 (gB bh)) 1 (gB bc)) 2 (gB (mTo K x1)))))])))))) ++ (qT r rr (qE kI 3 (qF K)) ++ qT (2 * g) sr (qE kI (2 * g) (qD D9)))) := hD
                refine lv_dup hx hb dX1_isSame_666 rfl ?_
                refine lv_iconst (v := 3) hx hb dX1_isSame_667 (by decide) ?_
                refine lv_iload hx hb dX1_isSame_668 (lv_at hl 1 rfl) ?_
                refine va_iast hx hb hK hP hD hS 11 7 rfl rfl (vp_in_nI (n := 3) (N := 4) (by omega) (by omega)) dX1_isSame_670 (fun H locs hP hD hS => ?_)
                rw [show (3 : Int32).toNatClampNeg = 3 from rfl] at hP hD
                have hP : va_P (dC, dI) vwCl ((gcW h kc f1 f2 dr cl tr se (nI g) (nI r) inf (nI ct) ++ ([(sa, .inr (1, [.int (nI g), .ref ru, .ref q2, .ref q3, .int (nI ct)]))] ++ ([(ru, qa_R kA r (qa_up r rr))] ++ ([(q2, qa_R kA (2 * g) (qa_up (2 * g) sr))] ++ ([(q3, .inl (kI, 2 ^ g, .inl fs))] ++ ([(q6, .inl (kI, 4, .inl (upd (upd (upd (upd (fun _ => 0) 0 (gB bh)) 1 (gB bc)) 2 (gB (mTo K x1))) 3 wi)))])))))) ++ (qT r rr (qE kI 3 (qF K)) ++ qT (2 * g) sr (qE kI (2 * g) (qD D9)))) H := hP
                have hD : va_D A ((gcW h kc f1 f2 dr cl tr se (nI g) (nI r) inf (nI ct) ++ ([(sa, .inr (1, [.int (nI g), .ref ru, .ref q2, .ref q3, .int (nI ct)]))] ++ ([(ru, qa_R kA r (qa_up r rr))] ++ ([(q2, qa_R kA (2 * g) (qa_up (2 * g) sr))] ++ ([(q3, .inl (kI, 2 ^ g, .inl fs))] ++ ([(q6, .inl (kI, 4, .inl (upd (upd (upd (upd (fun _ => 0) 0 (gB bh)) 1 (gB bc)) 2 (gB (mTo K x1))) 3 wi)))])))))) ++ (qT r rr (qE kI 3 (qF K)) ++ qT (2 * g) sr (qE kI (2 * g) (qD D9)))) := hD
                refine lv_astore (lv' := [(15, .ref q6), (14, .int wi), (4, .int (tn + gB (mTo K x1))), (13, .int (gB (mTo K x1))), (12, .int (gB bc)), (11, .int (gB bh)), (10, .int (nI x1)), (9, .int su), (8, .int mo), (7, .int fe), (6, .int pa), (5, .int va), (3, .int fo9), (2, .int (nI g)), (0, .ref sa), (1, .ref (h 0))]) hx hb dX1_isSame_671 hl (by decide) rfl (fun ls hl => ?_)
                refine lv_iconst (v := 0) hx hb dX1_isSame_673 (by decide) ?_
                refine lv_istore (lv' := [(16, .int 0), (15, .ref q6), (14, .int wi), (4, .int (tn + gB (mTo K x1))), (13, .int (gB (mTo K x1))), (12, .int (gB bc)), (11, .int (gB bh)), (10, .int (nI x1)), (9, .int su), (8, .int mo), (7, .int fe), (6, .int pa), (5, .int va), (3, .int fo9), (2, .int (nI g)), (0, .ref sa), (1, .ref (h 0))]) hx hb dX1_isSame_674 hl (by decide) rfl (fun ls hl => ?_)
                refine gc_loop (4) (fun (w9 : Nat) (H : Heap) (locs : List Loc) (ls : Array Slot) => va_P (dC, dI) vwCl ((gcW h kc f1 f2 dr cl tr se (nI g) (nI r) inf (nI ct) ++ ([(sa, .inr (1, [.int (nI g), .ref ru, .ref q2, .ref q3, .int (nI ct)]))] ++ ([(ru, qa_R kA r (qa_up r rr))] ++ ([(q2, qa_R kA (2 * g) (qa_up (2 * g) sr))] ++ ([(q3, .inl (kI, 2 ^ g, .inl fs))] ++ ([(q6, .inl (kI, 4, .inl (upd (upd (upd (upd (fun _ => 0) 0 (gB bh)) 1 (gB bc)) 2 (gB (mTo K x1))) 3 wi)))])))))) ++ (qT r rr (qE kI 3 (qF K)) ++ qT (2 * g) sr (qE kI (2 * g) (qD D9)))) H ∧ va_D A ((gcW h kc f1 f2 dr cl tr se (nI g) (nI r) inf (nI ct) ++ ([(sa, .inr (1, [.int (nI g), .ref ru, .ref q2, .ref q3, .int (nI ct)]))] ++ ([(ru, qa_R kA r (qa_up r rr))] ++ ([(q2, qa_R kA (2 * g) (qa_up (2 * g) sr))] ++ ([(q3, .inl (kI, 2 ^ g, .inl fs))] ++ ([(q6, .inl (kI, 4, .inl (upd (upd (upd (upd (fun _ => 0) 0 (gB bh)) 1 (gB bc)) 2 (gB (mTo K x1))) 3 wi)))])))))) ++ (qT r rr (qE kI 3 (qF K)) ++ qT (2 * g) sr (qE kI (2 * g) (qD D9)))) ∧ va_S A s.heap H locs ∧ lv_has ls 19 [(16, .int (nI w9)), (15, .ref q6), (14, .int wi), (4, .int (tn + gB (mTo K x1))), (13, .int (gB (mTo K x1))), (12, .int (gB bc)), (11, .int (gB bh)), (10, .int (nI x1)), (9, .int su), (8, .int mo), (7, .int fe), (6, .int pa), (5, .int va), (3, .int fo9), (2, .int (nI g)), (0, .ref sa), (1, .ref (h 0))]) 0 (Nat.zero_le _) ⟨hP, hD, hS, lv_sub hl [0, 1, 2, 3, 4, 5, 6, 7, 8, 9, 10, 11, 12, 13, 14, 15, 16] rfl⟩ ?_
                intro w9 H locs ls hw9 hI ihw9
                obtain ⟨hP, hD, hS, hl⟩ := hI
                refine lv_iload hx hb dX1_isSame_676 (lv_at hl 0 rfl) ?_
                refine lv_iconst (v := 4) hx hb dX1_isSame_678 (by decide) ?_
                refine lv_icmp_ge (tgt := 706) hx hb dX1_isSame_679 (by decide) (fun c_679 => ?_) (fun c_679 => ?_)
                · skip
                  have hEw9 : w9 = 4 := gc_ge c_679 (by omega) (by omega)
                  refine lv_iinc (v := nI (x1 + 1)) (lv' := [(10, .int (nI (x1 + 1))), (16, .int (nI w9)), (15, .ref q6), (14, .int wi), (4, .int (tn + gB (mTo K x1))), (13, .int (gB (mTo K x1))), (12, .int (gB bc)), (11, .int (gB bh)), (9, .int su), (8, .int mo), (7, .int fe), (6, .int pa), (5, .int va), (3, .int fo9), (2, .int (nI g)), (0, .ref sa), (1, .ref (h 0))]) hx hb dX1_isSame_706 hl (k := 7) rfl (nI_1 x1) (by decide) rfl (fun ls hl => ?_)
                  refine lv_goto (tgt := 352) hx hb dX1_isSame_709 (by decide) ?_
                  have hP : va_P (dC, dI) vwCl ((gcW h kc f1 f2 dr cl tr se (nI g) (nI r) inf (nI ct) ++ ([(sa, .inr (1, [.int (nI g), .ref ru, .ref q2, .ref q3, .int (nI ct)]))] ++ ([(ru, qa_R kA r (qa_up r rr))] ++ ([(q2, qa_R kA (2 * g) (qa_up (2 * g) sr))] ++ ([(q3, .inl (kI, 2 ^ g, .inl fs))]))))) ++ (qT r rr (qE kI 3 (qF K)) ++ qT (2 * g) sr (qE kI (2 * g) (qD D9)))) H := hP.part [0, 1, 2, 3, 4, 5, 6, 7, 8, 9, 10] rfl
                  have hD : va_D A ((gcW h kc f1 f2 dr cl tr se (nI g) (nI r) inf (nI ct) ++ ([(sa, .inr (1, [.int (nI g), .ref ru, .ref q2, .ref q3, .int (nI ct)]))] ++ ([(ru, qa_R kA r (qa_up r rr))] ++ ([(q2, qa_R kA (2 * g) (qa_up (2 * g) sr))] ++ ([(q3, .inl (kI, 2 ^ g, .inl fs))]))))) ++ (qT r rr (qE kI 3 (qF K)) ++ qT (2 * g) sr (qE kI (2 * g) (qD D9)))) := hD.part [0, 1, 2, 3, 4, 5, 6, 7, 8, 9, 10] (by decide) rfl
                  refine W.widen (k := 16 + 1 * (x1 + 1)) (n := 338 + 4 * (x1 + 1)) (by omega) (by omega) ?_
                  exact ihx1 H _ ls (by omega) ⟨(tn + gB (mTo K x1)), (by rw [mCt, ← e_tn]), hP, hD, hS, lv_sub hl [0, 8, 9, 10, 11, 12, 4, 13, 14, 15, 16] rfl⟩
                · skip
                  have hLw9 : w9 < 4 := gc_lt c_679 (by omega) (by omega)
                  refine lv_aload_n hx hb dX1_isSame_682 rfl (lv_at hl 16 rfl) ?_
                  refine lv_iload hx hb dX1_isSame_683 (lv_at hl 7 rfl) ?_
                  refine lv_iload hx hb dX1_isSame_685 (lv_at hl 0 rfl) ?_
                  have hPc : va_P (dC, dI) vwCl (gcW h kc f1 f2 dr cl tr se (nI g) (nI r) inf (nI ct)) _ := hP.sub [0, 1, 2, 3, 4, 5, 6] rfl
                  have hKc : va_K (dC, dI) vwCl (gcT kc) s := hK.sub [0, 1, 2, 3, 4, 5] rfl
                  refine va_calli (va_runV (As := [.int (nI x1), .int (nI w9)]) (rest := []) ⟨hx, hb, hml, hown, hts⟩ (c_X0_guest l dC dI h kc f1 f2 dr cl tr se g r inf ct x1 w9 (by first | assumption | omega) (by first | assumption | omega) (by first | assumption | omega) (by first | assumption | omega) (by first | assumption | omega)) (cwV 2 hts gX1_isSame_X0_guest rfl rfl rfl (by decide +kernel) ⟨Nat.le_of_ble_eq_true rfl, Nat.le_of_ble_eq_true rfl⟩) ⟨gcPR_blind, va_recv hK hP (ci := 0) (q0 := 0) rfl rfl, fun U hU hW => ⟨rfl, by rw [hU]; exact hPc, va_K.moved hW.alike hKc⟩⟩ rfl rfl hl.1 rfl (lv_room (Nat.le_of_ble_eq_true rfl)) dX1_isSame_687 ⟨by show _ ≤ (24 : Nat); omega, by show _ ≤ (372 : Nat); omega⟩) hS (fun q _ h => h.elim) (fun q h => h.elim) (fun r10 u t H locs ht hvm hw hB hz1 hk1 hS => ?_)
                  have hP := gc_keep hP hk1
                  have hw : r10 = gGu cl g x1 w9 := hw
                  subst hw
                  clear hw
                  clear hB hz1 hk1 ht hvm
                  clear hPc hKc
                  refine gc_topi (y := mGu K (-1) (-1) g x1 w9) (guest_eq (by omega) hKg hKr30 hCl hLx1 hLw9) ?_
                  refine lv_aload hx hb dX1_isSame_690 (lv_at hl 1 rfl) ?_
                  refine lv_iload hx hb dX1_isSame_692 (lv_at hl 0 rfl) ?_
                  refine va_iald hx hb hK hP 11 7 rfl rfl (vp_in_nI (n := w9) (N := 4) (by omega) (by omega)) dX1_isSame_694 ?_
                  rw [show (nI w9 : Int32).toNatClampNeg = w9 from nI_clamp (by omega)]
                  refine lv_icmp_eq (tgt := 700) hx hb dX1_isSame_695 (by decide) (fun c_695 => ?_) (fun c_695 => ?_)
                  · skip
                    refine lv_iinc (v := nI (w9 + 1)) (lv' := [(16, .int (nI (w9 + 1))), (15, .ref q6), (14, .int wi), (4, .int (tn + gB (mTo K x1))), (13, .int (gB (mTo K x1))), (12, .int (gB bc)), (11, .int (gB bh)), (10, .int (nI x1)), (9, .int su), (8, .int mo), (7, .int fe), (6, .int pa), (5, .int va), (3, .int fo9), (2, .int (nI g)), (0, .ref sa), (1, .ref (h 0))]) hx hb dX1_isSame_700 hl (k := 0) rfl (nI_1 w9) (by decide) rfl (fun ls hl => ?_)
                    refine lv_goto (tgt := 676) hx hb dX1_isSame_703 (by decide) ?_
                    exact ihw9 H _ ls (by omega) ⟨hP, hD, hS, lv_sub hl [0, 1, 2, 3, 4, 5, 6, 7, 8, 9, 10, 11, 12, 13, 14, 15, 16] rfl⟩
                  · skip
                    exact absurd (told_row (by rw [e_bh, hES9]; unfold mFo; rw [← all_eq (by omega) hKg hKr30 hLF]; rfl) (by rw [e_bc, hES9]; unfold mFo; rw [← all_eq (by omega) hKg hKr30 hLF]; rfl) rfl (by rw [e_wi, hEy1]) hLw9) c_695
              · skip
                have hLy1 : y1 < g := gc_lt c_517 (by omega) (by omega)
                refine lv_iconst (v := 0) hx hb dX1_isSame_520 (by decide) ?_
                refine lv_istore (lv' := [(16, .int 0), (15, .int (nI y1)), (14, .int wi), (4, .int (tn + gB (mTo K x1))), (13, .int (gB (mTo K x1))), (12, .int (gB bc)), (11, .int (gB bh)), (10, .int (nI x1)), (9, .int su), (8, .int mo), (7, .int fe), (6, .int pa), (5, .int va), (3, .int fo9), (2, .int (nI g)), (0, .ref sa), (1, .ref (h 0))]) hx hb dX1_isSame_521 hl (by decide) rfl (fun ls hl => ?_)
                refine lv_iconst (v := 2) hx hb dX1_isSame_523 (by decide) ?_
                refine lv_iload hx hb dX1_isSame_524 (lv_at hl 7 rfl) ?_
                refine lv_imul hx hb dX1_isSame_526 ?_
                refine gc_topi (y := nI (2 * x1)) (pk_mul 2 x1) ?_
                refine lv_istore (lv' := [(17, .int (nI (2 * x1))), (16, .int 0), (15, .int (nI y1)), (14, .int wi), (4, .int (tn + gB (mTo K x1))), (13, .int (gB (mTo K x1))), (12, .int (gB bc)), (11, .int (gB bh)), (10, .int (nI x1)), (9, .int su), (8, .int mo), (7, .int fe), (6, .int pa), (5, .int va), (3, .int fo9), (2, .int (nI g)), (0, .ref sa), (1, .ref (h 0))]) hx hb dX1_isSame_527 hl (by decide) rfl (fun ls hl => ?_)
                refine gc_loop (2) (fun (a9 : Nat) (H : Heap) (locs : List Loc) (ls : Array Slot) => ∃ (bi : Bool), bi = mGo K x1 y1 (2 * a9) ∧ va_P (dC, dI) vwCl ((gcW h kc f1 f2 dr cl tr se (nI g) (nI r) inf (nI ct) ++ ([(sa, .inr (1, [.int (nI g), .ref ru, .ref q2, .ref q3, .int (nI ct)]))] ++ ([(ru, qa_R kA r (qa_up r rr))] ++ ([(q2, qa_R kA (2 * g) (qa_up (2 * g) sr))] ++ ([(q3, .inl (kI, 2 ^ g, .inl fs))]))))) ++ (qT r rr (qE kI 3 (qF K)) ++ qT (2 * g) sr (qE kI (2 * g) (qD D9)))) H ∧ va_D A ((gcW h kc f1 f2 dr cl tr se (nI g) (nI r) inf (nI ct) ++ ([(sa, .inr (1, [.int (nI g), .ref ru, .ref q2, .ref q3, .int (nI ct)]))] ++ ([(ru, qa_R kA r (qa_up r rr))] ++ ([(q2, qa_R kA (2 * g) (qa_up (2 * g) sr))] ++ ([(q3, .inl (kI, 2 ^ g, .inl fs))]))))) ++ (qT r rr (qE kI 3 (qF K)) ++ qT (2 * g) sr (qE kI (2 * g) (qD D9)))) ∧ va_S A s.heap H locs ∧ lv_has ls 19 [(17, .int (nI (2 * x1 + a9))), (16, .int (gB bi)), (15, .int (nI y1)), (14, .int wi), (4, .int (tn + gB (mTo K x1))), (13, .int (gB (mTo K x1))), (12, .int (gB bc)), (11, .int (gB bh)), (10, .int (nI x1)), (9, .int su), (8, .int mo), (7, .int fe), (6, .int pa), (5, .int va), (3, .int fo9), (2, .int (nI g)), (0, .ref sa), (1, .ref (h 0))]) 0 (Nat.zero_le _) ⟨false, (by first | rfl | assumption | omega), hP, hD, hS, lv_sub hl [0, 1, 2, 3, 4, 5, 6, 7, 8, 9, 10, 11, 12, 13, 14, 15, 16, 17] rfl⟩ ?_
                intro a9 H locs ls ha9 hI iha9
                obtain ⟨bi, e_bi, hP, hD, hS, hl⟩ := hI
                refine lv_iload hx hb dX1_isSame_529 (lv_at hl 0 rfl) ?_
                refine lv_iconst (v := 2) hx hb dX1_isSame_531 (by decide) ?_
                refine lv_iload hx hb dX1_isSame_532 (lv_at hl 8 rfl) ?_
                refine lv_imul hx hb dX1_isSame_534 ?_
                refine gc_topi (y := nI (2 * x1)) (pk_mul 2 x1) ?_
                refine lv_iconst (v := 2) hx hb dX1_isSame_535 (by decide) ?_
                refine lv_iadd hx hb dX1_isSame_536 ?_
                refine gc_topi (y := nI (2 * x1 + 2)) (nI_add _ 2) ?_
                refine lv_icmp_ge (tgt := 603) hx hb dX1_isSame_537 (by decide) (fun c_537 => ?_) (fun c_537 => ?_)
                · skip
                  have hEa9 : 2 * x1 + a9 = 2 * x1 + 2 := gc_ge c_537 (by omega) (by omega)
                  refine lv_iload hx hb dX1_isSame_603 (lv_at hl 3 rfl) ?_
                  refine lv_iload hx hb dX1_isSame_605 (lv_at hl 1 rfl) ?_
                  refine q_ternG (v := bi) (p3 := 610) (tgt := 614) (mg := 615) hx hb (fun kt kf => lv_if_eq (tgt := 614) hx hb dX1_isSame_607 (by decide) (fun c => kf (gB_f c)) (fun c => kt (gB_t c))) dX1_isSame_610 dX1_isSame_611 (by decide) dX1_isSame_614 rfl ?_
                  refine lv_iadd hx hb dX1_isSame_615 ?_
                  refine lv_istore (lv' := [(14, .int (wi + gB bi)), (17, .int (nI (2 * x1 + a9))), (16, .int (gB bi)), (15, .int (nI y1)), (4, .int (tn + gB (mTo K x1))), (13, .int (gB (mTo K x1))), (12, .int (gB bc)), (11, .int (gB bh)), (10, .int (nI x1)), (9, .int su), (8, .int mo), (7, .int fe), (6, .int pa), (5, .int va), (3, .int fo9), (2, .int (nI g)), (0, .ref sa), (1, .ref (h 0))]) hx hb dX1_isSame_616 hl (by decide) rfl (fun ls hl => ?_)
                  refine lv_iinc (v := nI (y1 + 1)) (lv' := [(15, .int (nI (y1 + 1))), (14, .int (wi + gB bi)), (17, .int (nI (2 * x1 + a9))), (16, .int (gB bi)), (4, .int (tn + gB (mTo K x1))), (13, .int (gB (mTo K x1))), (12, .int (gB bc)), (11, .int (gB bh)), (10, .int (nI x1)), (9, .int su), (8, .int mo), (7, .int fe), (6, .int pa), (5, .int va), (3, .int fo9), (2, .int (nI g)), (0, .ref sa), (1, .ref (h 0))]) hx hb dX1_isSame_618 hl (k := 3) rfl (nI_1 y1) (by decide) rfl (fun ls hl => ?_)
                  refine lv_goto (tgt := 514) hx hb dX1_isSame_621 (by decide) ?_
                  exact ihy1 H _ ls (by omega) ⟨(wi + gB bi), (by rw [mGs, ← e_wi, show mGo K x1 y1 4 = bi from by rw [e_bi, show a9 = 2 by omega]]), hP, hD, hS, lv_sub hl [0, 1, 4, 5, 6, 7, 8, 9, 10, 11, 12, 13, 14, 15, 16, 17] rfl⟩
                · skip
                  have hLa9 : 2 * x1 + a9 < 2 * x1 + 2 := gc_lt c_537 (by omega) (by omega)
                  refine lv_iconst (v := 2) hx hb dX1_isSame_540 (by decide) ?_
                  refine lv_iload hx hb dX1_isSame_541 (lv_at hl 2 rfl) ?_
                  refine lv_imul hx hb dX1_isSame_543 ?_
                  refine gc_topi (y := nI (2 * y1)) (pk_mul 2 y1) ?_
                  refine lv_istore (lv' := [(18, .int (nI (2 * y1))), (17, .int (nI (2 * x1 + a9))), (16, .int (gB bi)), (15, .int (nI y1)), (14, .int wi), (4, .int (tn + gB (mTo K x1))), (13, .int (gB (mTo K x1))), (12, .int (gB bc)), (11, .int (gB bh)), (10, .int (nI x1)), (9, .int su), (8, .int mo), (7, .int fe), (6, .int pa), (5, .int va), (3, .int fo9), (2, .int (nI g)), (0, .ref sa), (1, .ref (h 0))]) hx hb dX1_isSame_544 hl (by decide) rfl (fun ls hl => ?_)
                  refine gc_loop (2) (fun (b9 : Nat) (H : Heap) (locs : List Loc) (ls : Array Slot) => ∃ (bj : Bool), bj = mGo K x1 y1 (2 * a9 + b9) ∧ va_P (dC, dI) vwCl ((gcW h kc f1 f2 dr cl tr se (nI g) (nI r) inf (nI ct) ++ ([(sa, .inr (1, [.int (nI g), .ref ru, .ref q2, .ref q3, .int (nI ct)]))] ++ ([(ru, qa_R kA r (qa_up r rr))] ++ ([(q2, qa_R kA (2 * g) (qa_up (2 * g) sr))] ++ ([(q3, .inl (kI, 2 ^ g, .inl fs))]))))) ++ (qT r rr (qE kI 3 (qF K)) ++ qT (2 * g) sr (qE kI (2 * g) (qD D9)))) H ∧ va_D A ((gcW h kc f1 f2 dr cl tr se (nI g) (nI r) inf (nI ct) ++ ([(sa, .inr (1, [.int (nI g), .ref ru, .ref q2, .ref q3, .int (nI ct)]))] ++ ([(ru, qa_R kA r (qa_up r rr))] ++ ([(q2, qa_R kA (2 * g) (qa_up (2 * g) sr))] ++ ([(q3, .inl (kI, 2 ^ g, .inl fs))]))))) ++ (qT r rr (qE kI 3 (qF K)) ++ qT (2 * g) sr (qE kI (2 * g) (qD D9)))) ∧ va_S A s.heap H locs ∧ lv_has ls 19 [(18, .int (nI (2 * y1 + b9))), (17, .int (nI (2 * x1 + a9))), (16, .int (gB bj)), (15, .int (nI y1)), (14, .int wi), (4, .int (tn + gB (mTo K x1))), (13, .int (gB (mTo K x1))), (12, .int (gB bc)), (11, .int (gB bh)), (10, .int (nI x1)), (9, .int su), (8, .int mo), (7, .int fe), (6, .int pa), (5, .int va), (3, .int fo9), (2, .int (nI g)), (0, .ref sa), (1, .ref (h 0))]) 0 (Nat.zero_le _) ⟨bi, (e_bi), hP, hD, hS, lv_sub hl [0, 1, 2, 3, 4, 5, 6, 7, 8, 9, 10, 11, 12, 13, 14, 15, 16, 17, 18] rfl⟩ ?_
                  intro b9 H locs ls hb9 hI ihb9
                  obtain ⟨bj, e_bj, hP, hD, hS, hl⟩ := hI
                  refine lv_iload hx hb dX1_isSame_546 (lv_at hl 0 rfl) ?_
                  refine lv_iconst (v := 2) hx hb dX1_isSame_548 (by decide) ?_
                  refine lv_iload hx hb dX1_isSame_549 (lv_at hl 3 rfl) ?_
                  refine lv_imul hx hb dX1_isSame_551 ?_
                  refine gc_topi (y := nI (2 * y1)) (pk_mul 2 y1) ?_
                  refine lv_iconst (v := 2) hx hb dX1_isSame_552 (by decide) ?_
                  refine lv_iadd hx hb dX1_isSame_553 ?_
                  refine gc_topi (y := nI (2 * y1 + 2)) (nI_add _ 2) ?_
                  refine lv_icmp_ge (tgt := 597) hx hb dX1_isSame_554 (by decide) (fun c_554 => ?_) (fun c_554 => ?_)
                  · skip
                    have hEb9 : 2 * y1 + b9 = 2 * y1 + 2 := gc_ge c_554 (by omega) (by omega)
                    refine lv_iinc (v := nI (2 * x1 + a9 + 1)) (lv' := [(17, .int (nI (2 * x1 + a9 + 1))), (18, .int (nI (2 * y1 + b9))), (16, .int (gB bj)), (15, .int (nI y1)), (14, .int wi), (4, .int (tn + gB (mTo K x1))), (13, .int (gB (mTo K x1))), (12, .int (gB bc)), (11, .int (gB bh)), (10, .int (nI x1)), (9, .int su), (8, .int mo), (7, .int fe), (6, .int pa), (5, .int va), (3, .int fo9), (2, .int (nI g)), (0, .ref sa), (1, .ref (h 0))]) hx hb dX1_isSame_597 hl (k := 1) rfl (nI_1 (2 * x1 + a9)) (by decide) rfl (fun ls hl => ?_)
                    refine lv_goto (tgt := 529) hx hb dX1_isSame_600 (by decide) ?_
                    exact iha9 H _ ls (by omega) ⟨bj, (by rw [e_bj, show b9 = 2 by omega]; rfl), hP, hD, hS, lv_sub hl [0, 2, 3, 4, 5, 6, 7, 8, 9, 10, 11, 12, 13, 14, 15, 16, 17, 18] rfl⟩
                  · skip
                    have hLb9 : 2 * y1 + b9 < 2 * y1 + 2 := gc_lt c_554 (by omega) (by omega)
                    refine lv_iload hx hb dX1_isSame_557 (lv_at hl 2 rfl) ?_
                    refine lv_if_ne (tgt := 584) hx hb dX1_isSame_559 (by decide) (fun c_559 => ?_) (fun c_559 => ?_)
                    · skip
                      have c_559 := gB_t c_559
                      refine lv_iconst (v := 1) hx hb dX1_isSame_584 (by decide) ?_
                      refine lv_goto (tgt := 589) hx hb dX1_isSame_585 (by decide) ?_
                      refine lv_istore (lv' := [(16, .int 1), (18, .int (nI (2 * y1 + b9))), (17, .int (nI (2 * x1 + a9))), (15, .int (nI y1)), (14, .int wi), (4, .int (tn + gB (mTo K x1))), (13, .int (gB (mTo K x1))), (12, .int (gB bc)), (11, .int (gB bh)), (10, .int (nI x1)), (9, .int su), (8, .int mo), (7, .int fe), (6, .int pa), (5, .int va), (3, .int fo9), (2, .int (nI g)), (0, .ref sa), (1, .ref (h 0))]) hx hb dX1_isSame_589 hl (by decide) rfl (fun ls hl => ?_)
                      refine lv_iinc (v := nI (2 * y1 + b9 + 1)) (lv' := [(18, .int (nI (2 * y1 + b9 + 1))), (16, .int 1), (17, .int (nI (2 * x1 + a9))), (15, .int (nI y1)), (14, .int wi), (4, .int (tn + gB (mTo K x1))), (13, .int (gB (mTo K x1))), (12, .int (gB bc)), (11, .int (gB bh)), (10, .int (nI x1)), (9, .int su), (8, .int mo), (7, .int fe), (6, .int pa), (5, .int va), (3, .int fo9), (2, .int (nI g)), (0, .ref sa), (1, .ref (h 0))]) hx hb dX1_isSame_591 hl (k := 1) rfl (nI_1 (2 * y1 + b9)) (by decide) rfl (fun ls hl => ?_)
                      refine lv_goto (tgt := 546) hx hb dX1_isSame_594 (by decide) ?_
                      exact ihb9 H _ ls (by omega) ⟨true, (by rw [mGo_step (by omega), ← e_bj]; simp [c_559]), hP, hD, hS, lv_sub hl [0, 2, 1, 3, 4, 5, 6, 7, 8, 9, 10, 11, 12, 13, 14, 15, 16, 17, 18] rfl⟩
                    · skip
                      have c_559 := gB_f c_559
                      refine lv_aload_n hx hb dX1_isSame_562 rfl (lv_at hl 17 rfl) ?_
                      refine lv_iload hx hb dX1_isSame_563 (lv_at hl 1 rfl) ?_
                      refine lv_iload hx hb dX1_isSame_565 (lv_at hl 0 rfl) ?_
                      have hPc : va_P (dC, dI) vwCl (([(sa, .inr (1, [.int (nI g), .ref ru, .ref q2, .ref q3, .int (nI ct)]))] ++ ([(q2, qa_R kA (2 * g) (qa_up (2 * g) sr))])) ++ ((qT r rr (qE kI 3 (qF K))) ++ qT (2 * g) sr (qE kI (2 * g) (qD D9)))) _ := hP.part [7, 9] rfl
                      have hKc : va_K (dC, dI) vwCl ([(kA, .array .int), (kI, .int)]) s := hK.sub [6, 7] rfl
                      refine va_calli (va_runV (As := [.int (nI (2 * x1 + a9)), .int (nI (2 * y1 + b9))]) (rest := []) ⟨hx, hb, hml, hown, hts⟩ (c_X1_leads l dC dI sa ru q2 q3 (nI g) (nI ct) kA kI (2 * g) sr D9 K (qT r rr (qE kI 3 (qF K))) (2 * x1 + a9) (2 * y1 + b9) (by first | assumption | omega) (by first | assumption | omega) (by first | assumption | omega) (by first | assumption | omega)) (cwV 2 hts gX1_isSame_X1_leads rfl rfl rfl (by decide +kernel) ⟨Nat.le_of_ble_eq_true rfl, Nat.le_of_ble_eq_true rfl⟩) ⟨gcPR_blind, va_recv hK hP (ci := 1) (q0 := 7) rfl rfl, fun U hU hW => ⟨rfl, by rw [hU]; exact hPc, va_K.moved hW.alike hKc⟩⟩ rfl rfl hl.1 rfl (lv_room (Nat.le_of_ble_eq_true rfl)) dX1_isSame_567 ⟨by show _ ≤ (24 : Nat); omega, by show _ ≤ (372 : Nat); omega⟩) hS (fun q _ h => h.elim) (fun q h => h.elim) (fun r11 u t H locs ht hvm hw hB hz1 hk1 hS => ?_)
                      have hP := gc_keep hP hk1
                      have hw : r11 = gB (fo K (2 * x1 + a9) (2 * y1 + b9)) := hw
                      subst hw
                      clear hw
                      clear hB hz1 hk1 ht hvm
                      clear hPc hKc
                      refine lv_if_eq (tgt := 588) hx hb dX1_isSame_570 (by decide) (fun c_570 => ?_) (fun c_570 => ?_)
                      · skip
                        have c_570 := gB_f c_570
                        refine lv_iconst (v := 0) hx hb dX1_isSame_588 (by decide) ?_
                        refine lv_istore (lv' := [(16, .int 0), (18, .int (nI (2 * y1 + b9))), (17, .int (nI (2 * x1 + a9))), (15, .int (nI y1)), (14, .int wi), (4, .int (tn + gB (mTo K x1))), (13, .int (gB (mTo K x1))), (12, .int (gB bc)), (11, .int (gB bh)), (10, .int (nI x1)), (9, .int su), (8, .int mo), (7, .int fe), (6, .int pa), (5, .int va), (3, .int fo9), (2, .int (nI g)), (0, .ref sa), (1, .ref (h 0))]) hx hb dX1_isSame_589 hl (by decide) rfl (fun ls hl => ?_)
                        refine lv_iinc (v := nI (2 * y1 + b9 + 1)) (lv' := [(18, .int (nI (2 * y1 + b9 + 1))), (16, .int 0), (17, .int (nI (2 * x1 + a9))), (15, .int (nI y1)), (14, .int wi), (4, .int (tn + gB (mTo K x1))), (13, .int (gB (mTo K x1))), (12, .int (gB bc)), (11, .int (gB bh)), (10, .int (nI x1)), (9, .int su), (8, .int mo), (7, .int fe), (6, .int pa), (5, .int va), (3, .int fo9), (2, .int (nI g)), (0, .ref sa), (1, .ref (h 0))]) hx hb dX1_isSame_591 hl (k := 1) rfl (nI_1 (2 * y1 + b9)) (by decide) rfl (fun ls hl => ?_)
                        refine lv_goto (tgt := 546) hx hb dX1_isSame_594 (by decide) ?_
                        exact ihb9 H _ ls (by omega) ⟨false, (by rw [mGo_step (by omega), ← e_bj]; simp [c_559, c_570]), hP, hD, hS, lv_sub hl [0, 2, 1, 3, 4, 5, 6, 7, 8, 9, 10, 11, 12, 13, 14, 15, 16, 17, 18] rfl⟩
                      · skip
                        have c_570 := gB_t c_570
                        refine lv_aload_n hx hb dX1_isSame_573 rfl (lv_at hl 17 rfl) ?_
                        refine lv_iload hx hb dX1_isSame_574 (lv_at hl 0 rfl) ?_
                        refine lv_iload hx hb dX1_isSame_576 (lv_at hl 1 rfl) ?_
                        have hPc : va_P (dC, dI) vwCl (([(sa, .inr (1, [.int (nI g), .ref ru, .ref q2, .ref q3, .int (nI ct)]))] ++ ([(q2, qa_R kA (2 * g) (qa_up (2 * g) sr))])) ++ ((qT r rr (qE kI 3 (qF K))) ++ qT (2 * g) sr (qE kI (2 * g) (qD D9)))) _ := hP.part [7, 9] rfl
                        have hKc : va_K (dC, dI) vwCl ([(kA, .array .int), (kI, .int)]) s := hK.sub [6, 7] rfl
                        refine va_calli (va_runV (As := [.int (nI (2 * y1 + b9)), .int (nI (2 * x1 + a9))]) (rest := []) ⟨hx, hb, hml, hown, hts⟩ (c_X1_leads l dC dI sa ru q2 q3 (nI g) (nI ct) kA kI (2 * g) sr D9 K (qT r rr (qE kI 3 (qF K))) (2 * y1 + b9) (2 * x1 + a9) (by first | assumption | omega) (by first | assumption | omega) (by first | assumption | omega) (by first | assumption | omega)) (cwV 2 hts gX1_isSame_X1_leads rfl rfl rfl (by decide +kernel) ⟨Nat.le_of_ble_eq_true rfl, Nat.le_of_ble_eq_true rfl⟩) ⟨gcPR_blind, va_recv hK hP (ci := 1) (q0 := 7) rfl rfl, fun U hU hW => ⟨rfl, by rw [hU]; exact hPc, va_K.moved hW.alike hKc⟩⟩ rfl rfl hl.1 rfl (lv_room (Nat.le_of_ble_eq_true rfl)) dX1_isSame_578 ⟨by show _ ≤ (24 : Nat); omega, by show _ ≤ (372 : Nat); omega⟩) hS (fun q _ h => h.elim) (fun q h => h.elim) (fun r12 u t H locs ht hvm hw hB hz1 hk1 hS => ?_)
                        have hP := gc_keep hP hk1
                        have hw : r12 = gB (fo K (2 * y1 + b9) (2 * x1 + a9)) := hw
                        subst hw
                        clear hw
                        clear hB hz1 hk1 ht hvm
                        clear hPc hKc
                        refine q_ternG (v := (fo K (2 * y1 + b9) (2 * x1 + a9))) (p3 := 584) (tgt := 588) (mg := 589) hx hb (fun kt kf => lv_if_eq (tgt := 588) hx hb dX1_isSame_581 (by decide) (fun c => kf (gB_f c)) (fun c => kt (gB_t c))) dX1_isSame_584 dX1_isSame_585 (by decide) dX1_isSame_588 rfl ?_
                        refine lv_istore (lv' := [(16, .int (gB (fo K (2 * y1 + b9) (2 * x1 + a9)))), (18, .int (nI (2 * y1 + b9))), (17, .int (nI (2 * x1 + a9))), (15, .int (nI y1)), (14, .int wi), (4, .int (tn + gB (mTo K x1))), (13, .int (gB (mTo K x1))), (12, .int (gB bc)), (11, .int (gB bh)), (10, .int (nI x1)), (9, .int su), (8, .int mo), (7, .int fe), (6, .int pa), (5, .int va), (3, .int fo9), (2, .int (nI g)), (0, .ref sa), (1, .ref (h 0))]) hx hb dX1_isSame_589 hl (by decide) rfl (fun ls hl => ?_)
                        refine lv_iinc (v := nI (2 * y1 + b9 + 1)) (lv' := [(18, .int (nI (2 * y1 + b9 + 1))), (16, .int (gB (fo K (2 * y1 + b9) (2 * x1 + a9)))), (17, .int (nI (2 * x1 + a9))), (15, .int (nI y1)), (14, .int wi), (4, .int (tn + gB (mTo K x1))), (13, .int (gB (mTo K x1))), (12, .int (gB bc)), (11, .int (gB bh)), (10, .int (nI x1)), (9, .int su), (8, .int mo), (7, .int fe), (6, .int pa), (5, .int va), (3, .int fo9), (2, .int (nI g)), (0, .ref sa), (1, .ref (h 0))]) hx hb dX1_isSame_591 hl (k := 1) rfl (nI_1 (2 * y1 + b9)) (by decide) rfl (fun ls hl => ?_)
                        refine lv_goto (tgt := 546) hx hb dX1_isSame_594 (by decide) ?_
                        exact ihb9 H _ ls (by omega) ⟨(fo K (2 * y1 + b9) (2 * x1 + a9)), (by rw [mGo_step (by omega), ← e_bj]; simp [c_559, c_570]), hP, hD, hS, lv_sub hl [0, 2, 1, 3, 4, 5, 6, 7, 8, 9, 10, 11, 12, 13, 14, 15, 16, 17, 18] rfl⟩
            · skip
              refine lv_aload_n hx hb dX1_isSame_462 rfl (lv_at hl 12 rfl) ?_
              refine lv_iconst (v := 2) hx hb dX1_isSame_463 (by decide) ?_
              refine lv_iload hx hb dX1_isSame_464 (lv_at hl 3 rfl) ?_
              refine lv_imul hx hb dX1_isSame_466 ?_
              refine gc_topi (y := nI (2 * x1)) (pk_mul 2 x1) ?_
              have hPc : va_P (dC, dI) vwCl (([(sa, .inr (1, [.int (nI g), .ref ru, .ref q2, .ref q3, .int (nI ct)]))] ++ ([(q2, qa_R kA (2 * g) (qa_up (2 * g) sr))])) ++ ((qT r rr (qE kI 3 (qF K))) ++ qT (2 * g) sr (qE kI (2 * g) (qD D9)))) _ := hP.part [7, 9] rfl
              have hKc : va_K (dC, dI) vwCl ([(kA, .array .int), (kI, .int)]) s := hK.sub [6, 7] rfl
              refine va_calli (va_runV (As := [.int (nI (2 * x1))]) (rest := []) ⟨hx, hb, hml, hown, hts⟩ (c_X1_isVain l dC dI sa ru q2 q3 (nI g) (nI ct) kA kI (2 * g) sr D9 K (qT r rr (qE kI 3 (qF K))) (2 * x1) (by first | assumption | omega) (by first | assumption | omega) (by first | assumption | omega) (xor1_lt (by omega))) (cwV 1 hts gX1_isSame_X1_isVain rfl rfl rfl (by decide +kernel) ⟨Nat.le_of_ble_eq_true rfl, Nat.le_of_ble_eq_true rfl⟩) ⟨gcPR_blind, va_recv hK hP (ci := 1) (q0 := 7) rfl rfl, fun U hU hW => ⟨rfl, by rw [hU]; exact hPc, va_K.moved hW.alike hKc⟩⟩ rfl rfl hl.1 rfl (lv_room (Nat.le_of_ble_eq_true rfl)) dX1_isSame_467 ⟨by show _ ≤ (24 : Nat); omega, by show _ ≤ (372 : Nat); omega⟩) hS (fun q _ h => h.elim) (fun q h => h.elim) (fun r13 u t H locs ht hvm hw hB hz1 hk1 hS => ?_)
              have hP := gc_keep hP hk1
              have hw : r13 = gB (fo K (2 * x1) ((2 * x1) ^^^ 1)) := hw
              subst hw
              clear hw
              clear hB hz1 hk1 ht hvm
              clear hPc hKc
              refine lv_if_eq (tgt := 490) hx hb dX1_isSame_470 (by decide) (fun c_470 => ?_) (fun c_470 => ?_)
              · skip
                have c_470 := gB_f c_470
                refine lv_iconst (v := 0) hx hb dX1_isSame_490 (by decide) ?_
                refine gc_topi (y := gB (mTo K x1)) (by simp [gB, mTo, c_470]) ?_
                exact hJ462 H _ ⟨hP, hS⟩
              · skip
                have c_470 := gB_t c_470
                refine lv_aload_n hx hb dX1_isSame_473 rfl (lv_at hl 12 rfl) ?_
                refine lv_iconst (v := 2) hx hb dX1_isSame_474 (by decide) ?_
                refine lv_iload hx hb dX1_isSame_475 (lv_at hl 3 rfl) ?_
                refine lv_imul hx hb dX1_isSame_477 ?_
                refine gc_topi (y := nI (2 * x1)) (pk_mul 2 x1) ?_
                refine lv_iconst (v := 1) hx hb dX1_isSame_478 (by decide) ?_
                refine lv_iadd hx hb dX1_isSame_479 ?_
                refine gc_topi (y := nI (2 * x1 + 1)) (nI_1 _) ?_
                have hPc : va_P (dC, dI) vwCl (([(sa, .inr (1, [.int (nI g), .ref ru, .ref q2, .ref q3, .int (nI ct)]))] ++ ([(q2, qa_R kA (2 * g) (qa_up (2 * g) sr))])) ++ ((qT r rr (qE kI 3 (qF K))) ++ qT (2 * g) sr (qE kI (2 * g) (qD D9)))) _ := hP.part [7, 9] rfl
                have hKc : va_K (dC, dI) vwCl ([(kA, .array .int), (kI, .int)]) s := hK.sub [6, 7] rfl
                refine va_calli (va_runV (As := [.int (nI (2 * x1 + 1))]) (rest := []) ⟨hx, hb, hml, hown, hts⟩ (c_X1_isVain l dC dI sa ru q2 q3 (nI g) (nI ct) kA kI (2 * g) sr D9 K (qT r rr (qE kI 3 (qF K))) (2 * x1 + 1) (by first | assumption | omega) (by first | assumption | omega) (by first | assumption | omega) (xor1_lt (by omega))) (cwV 1 hts gX1_isSame_X1_isVain rfl rfl rfl (by decide +kernel) ⟨Nat.le_of_ble_eq_true rfl, Nat.le_of_ble_eq_true rfl⟩) ⟨gcPR_blind, va_recv hK hP (ci := 1) (q0 := 7) rfl rfl, fun U hU hW => ⟨rfl, by rw [hU]; exact hPc, va_K.moved hW.alike hKc⟩⟩ rfl rfl hl.1 rfl (lv_room (Nat.le_of_ble_eq_true rfl)) dX1_isSame_480 ⟨by show _ ≤ (24 : Nat); omega, by show _ ≤ (372 : Nat); omega⟩) hS (fun q _ h => h.elim) (fun q h => h.elim) (fun r14 u t H locs ht hvm hw hB hz1 hk1 hS => ?_)
                have hP := gc_keep hP hk1
                have hw : r14 = gB (fo K (2 * x1 + 1) ((2 * x1 + 1) ^^^ 1)) := hw
                subst hw
                clear hw
                clear hB hz1 hk1 ht hvm
                clear hPc hKc
                refine q_ternG (v := (fo K (2 * x1 + 1) ((2 * x1 + 1) ^^^ 1))) (p3 := 486) (tgt := 490) (mg := 491) hx hb (fun kt kf => lv_if_eq (tgt := 490) hx hb dX1_isSame_483 (by decide) (fun c => kf (gB_f c)) (fun c => kt (gB_t c))) dX1_isSame_486 dX1_isSame_487 (by decide) dX1_isSame_490 rfl ?_
                refine gc_topi (y := gB (mTo K x1)) (by simp [gB, mTo, c_470]) ?_
                exact hJ462 H _ ⟨hP, hS⟩
          · skip
            have hLS9 : S9 < 2 ^ g := gc_lt c_396 (by omega) (by omega)
            refine lv_aload_n hx hb dX1_isSame_399 rfl (lv_at hl 12 rfl) ?_
            refine va_get (D := (dC, dI)) (ci := 1) (v := .ref q3) (C := RX1) (T := TX1) (N := 5) hx hb hts hin1 hown hK hP 7 rfl rfl 3 (by decide) (hts (.fieldLink RX1 36 "GuestChairsLaw$Sim" "sets" "[I") (by decide +kernel)) (fun _ h9 => h9) rfl dX1_isSame_400 ?_
            refine lv_iload hx hb dX1_isSame_403 (lv_at hl 0 rfl) ?_
            refine va_iald hx hb hK hP 10 7 rfl rfl (vp_in_nI (n := S9) (N := 2 ^ g) (by omega) (by omega)) dX1_isSame_405 ?_
            rw [show (nI S9 : Int32).toNatClampNeg = S9 from nI_clamp (by omega)]
            refine gc_topi (y := qS K S9) (hfs S9 hLS9) ?_
            refine lv_if_ge (tgt := 412) hx hb dX1_isSame_406 (by decide) (fun c_406 => ?_) (fun c_406 => ?_)
            · skip
              have hs9 : satp K S9 := qS_ge c_406
              refine lv_iload hx hb dX1_isSame_412 (lv_at hl 2 rfl) ?_
              refine lv_if_eq (tgt := 431) hx hb dX1_isSame_414 (by decide) (fun c_414 => ?_) (fun c_414 => ?_)
              · skip
                have c_414 := gB_f c_414
                refine lv_iconst (v := 0) hx hb dX1_isSame_431 (by decide) ?_
                refine lv_istore (lv' := [(11, .int 0), (13, .int (nI S9)), (12, .int (gB bc)), (10, .int (nI x1)), (9, .int su), (8, .int mo), (7, .int fe), (6, .int pa), (5, .int va), (4, .int tn), (3, .int fo9), (2, .int (nI g)), (0, .ref sa), (1, .ref (h 0))]) hx hb dX1_isSame_432 hl (by decide) rfl (fun ls hl => ?_)
                refine lv_iload hx hb dX1_isSame_434 (lv_at hl 2 rfl) ?_
                refine lv_if_eq (tgt := 453) hx hb dX1_isSame_436 (by decide) (fun c_436 => ?_) (fun c_436 => ?_)
                · skip
                  have c_436 := gB_f c_436
                  refine lv_iconst (v := 0) hx hb dX1_isSame_453 (by decide) ?_
                  refine lv_istore (lv' := [(12, .int 0), (11, .int 0), (13, .int (nI S9)), (10, .int (nI x1)), (9, .int su), (8, .int mo), (7, .int fe), (6, .int pa), (5, .int va), (4, .int tn), (3, .int fo9), (2, .int (nI g)), (0, .ref sa), (1, .ref (h 0))]) hx hb dX1_isSame_454 hl (by decide) rfl (fun ls hl => ?_)
                  refine lv_iinc (v := nI (S9 + 1)) (lv' := [(13, .int (nI (S9 + 1))), (12, .int 0), (11, .int 0), (10, .int (nI x1)), (9, .int su), (8, .int mo), (7, .int fe), (6, .int pa), (5, .int va), (4, .int tn), (3, .int fo9), (2, .int (nI g)), (0, .ref sa), (1, .ref (h 0))]) hx hb dX1_isSame_456 hl (k := 2) rfl (nI_1 S9) (by decide) rfl (fun ls hl => ?_)
                  refine lv_goto (tgt := 389) hx hb dX1_isSame_459 (by decide) ?_
                  exact ihS9 H _ ls (by omega) ⟨false, false, (by rw [gmA, ← Bool.and_assoc, ← e_bh, mFp_y (by omega) hKg hKr30 (by omega) (by omega) hs9, hol_2]; simp [c_414]), (by rw [gmA, ← Bool.and_assoc, ← e_bc, mFp_y (by omega) hKg hKr30 (by omega) (by omega) hs9, hol_21]; simp [c_436]), hP, hD, hS, lv_sub hl [0, 1, 2, 3, 4, 5, 6, 7, 8, 9, 10, 11, 12, 13] rfl⟩
                · skip
                  have c_436 := gB_t c_436
                  refine lv_iload hx hb dX1_isSame_439 (lv_at hl 1 rfl) ?_
                  refine lv_iload hx hb dX1_isSame_441 (lv_at hl 3 rfl) ?_
                  refine va_calli (va_runS (As := [.int (nI S9), .int (nI x1)]) (rest := []) ⟨hx, hb, hml, hown, hts⟩ (c_X1_comes l S9 x1 (by first | assumption | omega) (by first | assumption | omega)) (va_cwS 2 hts gX1_isSame_X1_comes rfl rfl rfl (by decide +kernel) ⟨Nat.le_of_ble_eq_true rfl, Nat.le_of_ble_eq_true rfl⟩) ⟨fun a U g mk q => q, fun U hU hW => ⟨rfl, trivial⟩⟩ rfl rfl hl.1 rfl (lv_room (Nat.le_of_ble_eq_true rfl)) dX1_isSame_443 ⟨by show _ ≤ (24 : Nat); omega, by show _ ≤ (372 : Nat); omega⟩) hS (fun q _ h => h.elim) (fun q h => h.elim) (fun r15 u t H locs ht hvm hw hB hz1 hk1 hS => ?_)
                  have hP := gc_keep hP hk1
                  have hw : r15 = gB (S9.testBit x1) := hw
                  subst hw
                  clear hw
                  clear hB hz1 hk1 ht hvm
                  refine q_ternG (v := (!(S9.testBit x1))) (p3 := 449) (tgt := 453) (mg := 454) hx hb (fun kt kf => lv_if_ne (tgt := 453) hx hb dX1_isSame_446 (by decide) (fun c => kf (by rw [gB_t c]; rfl)) (fun c => kt (by rw [gB_f c]; rfl))) dX1_isSame_449 dX1_isSame_450 (by decide) dX1_isSame_453 rfl ?_
                  refine lv_istore (lv' := [(12, .int (gB (!(S9.testBit x1)))), (11, .int 0), (13, .int (nI S9)), (10, .int (nI x1)), (9, .int su), (8, .int mo), (7, .int fe), (6, .int pa), (5, .int va), (4, .int tn), (3, .int fo9), (2, .int (nI g)), (0, .ref sa), (1, .ref (h 0))]) hx hb dX1_isSame_454 hl (by decide) rfl (fun ls hl => ?_)
                  refine lv_iinc (v := nI (S9 + 1)) (lv' := [(13, .int (nI (S9 + 1))), (12, .int (gB (!(S9.testBit x1)))), (11, .int 0), (10, .int (nI x1)), (9, .int su), (8, .int mo), (7, .int fe), (6, .int pa), (5, .int va), (4, .int tn), (3, .int fo9), (2, .int (nI g)), (0, .ref sa), (1, .ref (h 0))]) hx hb dX1_isSame_456 hl (k := 2) rfl (nI_1 S9) (by decide) rfl (fun ls hl => ?_)
                  refine lv_goto (tgt := 389) hx hb dX1_isSame_459 (by decide) ?_
                  exact ihS9 H _ ls (by omega) ⟨false, (!(S9.testBit x1)), (by rw [gmA, ← Bool.and_assoc, ← e_bh, mFp_y (by omega) hKg hKr30 (by omega) (by omega) hs9, hol_2]; simp [c_414]), (by rw [gmA, ← Bool.and_assoc, ← e_bc, mFp_y (by omega) hKg hKr30 (by omega) (by omega) hs9, hol_21]; simp [c_436]), hP, hD, hS, lv_sub hl [0, 1, 2, 3, 4, 5, 6, 7, 8, 9, 10, 11, 12, 13] rfl⟩
              · skip
                have c_414 := gB_t c_414
                refine lv_iload hx hb dX1_isSame_417 (lv_at hl 0 rfl) ?_
                refine lv_iload hx hb dX1_isSame_419 (lv_at hl 3 rfl) ?_
                refine va_calli (va_runS (As := [.int (nI S9), .int (nI x1)]) (rest := []) ⟨hx, hb, hml, hown, hts⟩ (c_X1_comes l S9 x1 (by first | assumption | omega) (by first | assumption | omega)) (va_cwS 2 hts gX1_isSame_X1_comes rfl rfl rfl (by decide +kernel) ⟨Nat.le_of_ble_eq_true rfl, Nat.le_of_ble_eq_true rfl⟩) ⟨fun a U g mk q => q, fun U hU hW => ⟨rfl, trivial⟩⟩ rfl rfl hl.1 rfl (lv_room (Nat.le_of_ble_eq_true rfl)) dX1_isSame_421 ⟨by show _ ≤ (24 : Nat); omega, by show _ ≤ (372 : Nat); omega⟩) hS (fun q _ h => h.elim) (fun q h => h.elim) (fun r16 u t H locs ht hvm hw hB hz1 hk1 hS => ?_)
                have hP := gc_keep hP hk1
                have hw : r16 = gB (S9.testBit x1) := hw
                subst hw
                clear hw
                clear hB hz1 hk1 ht hvm
                refine q_ternG (v := (S9.testBit x1)) (p3 := 427) (tgt := 431) (mg := 432) hx hb (fun kt kf => lv_if_eq (tgt := 431) hx hb dX1_isSame_424 (by decide) (fun c => kf (gB_f c)) (fun c => kt (gB_t c))) dX1_isSame_427 dX1_isSame_428 (by decide) dX1_isSame_431 rfl ?_
                refine lv_istore (lv' := [(11, .int (gB (S9.testBit x1))), (13, .int (nI S9)), (12, .int (gB bc)), (10, .int (nI x1)), (9, .int su), (8, .int mo), (7, .int fe), (6, .int pa), (5, .int va), (4, .int tn), (3, .int fo9), (2, .int (nI g)), (0, .ref sa), (1, .ref (h 0))]) hx hb dX1_isSame_432 hl (by decide) rfl (fun ls hl => ?_)
                refine lv_iload hx hb dX1_isSame_434 (lv_at hl 2 rfl) ?_
                refine lv_if_eq (tgt := 453) hx hb dX1_isSame_436 (by decide) (fun c_436 => ?_) (fun c_436 => ?_)
                · skip
                  have c_436 := gB_f c_436
                  refine lv_iconst (v := 0) hx hb dX1_isSame_453 (by decide) ?_
                  refine lv_istore (lv' := [(12, .int 0), (11, .int (gB (S9.testBit x1))), (13, .int (nI S9)), (10, .int (nI x1)), (9, .int su), (8, .int mo), (7, .int fe), (6, .int pa), (5, .int va), (4, .int tn), (3, .int fo9), (2, .int (nI g)), (0, .ref sa), (1, .ref (h 0))]) hx hb dX1_isSame_454 hl (by decide) rfl (fun ls hl => ?_)
                  refine lv_iinc (v := nI (S9 + 1)) (lv' := [(13, .int (nI (S9 + 1))), (12, .int 0), (11, .int (gB (S9.testBit x1))), (10, .int (nI x1)), (9, .int su), (8, .int mo), (7, .int fe), (6, .int pa), (5, .int va), (4, .int tn), (3, .int fo9), (2, .int (nI g)), (0, .ref sa), (1, .ref (h 0))]) hx hb dX1_isSame_456 hl (k := 2) rfl (nI_1 S9) (by decide) rfl (fun ls hl => ?_)
                  refine lv_goto (tgt := 389) hx hb dX1_isSame_459 (by decide) ?_
                  exact ihS9 H _ ls (by omega) ⟨(S9.testBit x1), false, (by rw [gmA, ← Bool.and_assoc, ← e_bh, mFp_y (by omega) hKg hKr30 (by omega) (by omega) hs9, hol_2]; simp [c_414]), (by rw [gmA, ← Bool.and_assoc, ← e_bc, mFp_y (by omega) hKg hKr30 (by omega) (by omega) hs9, hol_21]; simp [c_436]), hP, hD, hS, lv_sub hl [0, 1, 2, 3, 4, 5, 6, 7, 8, 9, 10, 11, 12, 13] rfl⟩
                · skip
                  have c_436 := gB_t c_436
                  refine lv_iload hx hb dX1_isSame_439 (lv_at hl 1 rfl) ?_
                  refine lv_iload hx hb dX1_isSame_441 (lv_at hl 3 rfl) ?_
                  refine va_calli (va_runS (As := [.int (nI S9), .int (nI x1)]) (rest := []) ⟨hx, hb, hml, hown, hts⟩ (c_X1_comes l S9 x1 (by first | assumption | omega) (by first | assumption | omega)) (va_cwS 2 hts gX1_isSame_X1_comes rfl rfl rfl (by decide +kernel) ⟨Nat.le_of_ble_eq_true rfl, Nat.le_of_ble_eq_true rfl⟩) ⟨fun a U g mk q => q, fun U hU hW => ⟨rfl, trivial⟩⟩ rfl rfl hl.1 rfl (lv_room (Nat.le_of_ble_eq_true rfl)) dX1_isSame_443 ⟨by show _ ≤ (24 : Nat); omega, by show _ ≤ (372 : Nat); omega⟩) hS (fun q _ h => h.elim) (fun q h => h.elim) (fun r17 u t H locs ht hvm hw hB hz1 hk1 hS => ?_)
                  have hP := gc_keep hP hk1
                  have hw : r17 = gB (S9.testBit x1) := hw
                  subst hw
                  clear hw
                  clear hB hz1 hk1 ht hvm
                  refine q_ternG (v := (!(S9.testBit x1))) (p3 := 449) (tgt := 453) (mg := 454) hx hb (fun kt kf => lv_if_ne (tgt := 453) hx hb dX1_isSame_446 (by decide) (fun c => kf (by rw [gB_t c]; rfl)) (fun c => kt (by rw [gB_f c]; rfl))) dX1_isSame_449 dX1_isSame_450 (by decide) dX1_isSame_453 rfl ?_
                  refine lv_istore (lv' := [(12, .int (gB (!(S9.testBit x1)))), (11, .int (gB (S9.testBit x1))), (13, .int (nI S9)), (10, .int (nI x1)), (9, .int su), (8, .int mo), (7, .int fe), (6, .int pa), (5, .int va), (4, .int tn), (3, .int fo9), (2, .int (nI g)), (0, .ref sa), (1, .ref (h 0))]) hx hb dX1_isSame_454 hl (by decide) rfl (fun ls hl => ?_)
                  refine lv_iinc (v := nI (S9 + 1)) (lv' := [(13, .int (nI (S9 + 1))), (12, .int (gB (!(S9.testBit x1)))), (11, .int (gB (S9.testBit x1))), (10, .int (nI x1)), (9, .int su), (8, .int mo), (7, .int fe), (6, .int pa), (5, .int va), (4, .int tn), (3, .int fo9), (2, .int (nI g)), (0, .ref sa), (1, .ref (h 0))]) hx hb dX1_isSame_456 hl (k := 2) rfl (nI_1 S9) (by decide) rfl (fun ls hl => ?_)
                  refine lv_goto (tgt := 389) hx hb dX1_isSame_459 (by decide) ?_
                  exact ihS9 H _ ls (by omega) ⟨(S9.testBit x1), (!(S9.testBit x1)), (by rw [gmA, ← Bool.and_assoc, ← e_bh, mFp_y (by omega) hKg hKr30 (by omega) (by omega) hs9, hol_2]; simp [c_414]), (by rw [gmA, ← Bool.and_assoc, ← e_bc, mFp_y (by omega) hKg hKr30 (by omega) (by omega) hs9, hol_21]; simp [c_436]), hP, hD, hS, lv_sub hl [0, 1, 2, 3, 4, 5, 6, 7, 8, 9, 10, 11, 12, 13] rfl⟩
            · skip
              have hs9 : ¬ satp K S9 := qS_nge c_406
              refine lv_goto (tgt := 456) hx hb dX1_isSame_409 (by decide) ?_
              refine lv_iinc (v := nI (S9 + 1)) (lv' := [(13, .int (nI (S9 + 1))), (12, .int (gB bc)), (11, .int (gB bh)), (10, .int (nI x1)), (9, .int su), (8, .int mo), (7, .int fe), (6, .int pa), (5, .int va), (4, .int tn), (3, .int fo9), (2, .int (nI g)), (0, .ref sa), (1, .ref (h 0))]) hx hb dX1_isSame_456 hl (k := 0) rfl (nI_1 S9) (by decide) rfl (fun ls hl => ?_)
              refine lv_goto (tgt := 389) hx hb dX1_isSame_459 (by decide) ?_
              exact ihS9 H _ ls (by omega) ⟨bh, bc, (by rw [gmA, ← Bool.and_assoc, ← e_bh, mFp_n (by omega) hKg hKr30 (by omega) hs9, Bool.and_true]), (by rw [gmA, ← Bool.and_assoc, ← e_bc, mFp_n (by omega) hKg hKr30 (by omega) hs9, Bool.and_true]), hP, hD, hS, lv_sub hl [0, 1, 2, 3, 4, 5, 6, 7, 8, 9, 10, 11, 12, 13] rfl⟩
      · skip
        have hLw1 : w1 < 2 * g := gc_lt c_183 (by omega) (by omega)
        refine lv_iload hx hb dX1_isSame_186 (lv_at hl 5 rfl) ?_
        refine lv_aload_n hx hb dX1_isSame_188 rfl (lv_at hl 9 rfl) ?_
        refine lv_iload hx hb dX1_isSame_189 (lv_at hl 0 rfl) ?_
        have hPc : va_P (dC, dI) vwCl (([(sa, .inr (1, [.int (nI g), .ref ru, .ref q2, .ref q3, .int (nI ct)]))] ++ ([(q2, qa_R kA (2 * g) (qa_up (2 * g) sr))])) ++ ((qT r rr (qE kI 3 (qF K))) ++ qT (2 * g) sr (qE kI (2 * g) (qD D9)))) _ := hP.part [7, 9] rfl
        have hKc : va_K (dC, dI) vwCl ([(kA, .array .int), (kI, .int)]) s := hK.sub [6, 7] rfl
        refine va_calli (va_runV (As := [.int (nI w1)]) (rest := [.int va]) ⟨hx, hb, hml, hown, hts⟩ (c_X1_isVain l dC dI sa ru q2 q3 (nI g) (nI ct) kA kI (2 * g) sr D9 K (qT r rr (qE kI 3 (qF K))) w1 (by first | assumption | omega) (by first | assumption | omega) (by first | assumption | omega) (xor1_lt (by omega))) (cwV 1 hts gX1_isSame_X1_isVain rfl rfl rfl (by decide +kernel) ⟨Nat.le_of_ble_eq_true rfl, Nat.le_of_ble_eq_true rfl⟩) ⟨gcPR_blind, va_recv hK hP (ci := 1) (q0 := 7) rfl rfl, fun U hU hW => ⟨rfl, by rw [hU]; exact hPc, va_K.moved hW.alike hKc⟩⟩ rfl rfl hl.1 rfl (lv_room (Nat.le_of_ble_eq_true rfl)) dX1_isSame_191 ⟨by show _ ≤ (24 : Nat); omega, by show _ ≤ (372 : Nat); omega⟩) hS (fun q _ h => h.elim) (fun q h => h.elim) (fun r18 u t H locs ht hvm hw hB hz1 hk1 hS => ?_)
        have hP := gc_keep hP hk1
        have hw : r18 = gB (fo K w1 (w1 ^^^ 1)) := hw
        subst hw
        clear hw
        clear hB hz1 hk1 ht hvm
        clear hPc hKc
        refine q_ternG (v := (fo K w1 (w1 ^^^ 1))) (p3 := 197) (tgt := 201) (mg := 202) hx hb (fun kt kf => lv_if_eq (tgt := 201) hx hb dX1_isSame_194 (by decide) (fun c => kf (gB_f c)) (fun c => kt (gB_t c))) dX1_isSame_197 dX1_isSame_198 (by decide) dX1_isSame_201 rfl ?_
        refine lv_iadd hx hb dX1_isSame_202 ?_
        refine lv_istore (lv' := [(5, .int (va + gB (fo K w1 (w1 ^^^ 1)))), (10, .int (nI w1)), (9, .int su), (8, .int mo), (7, .int fe), (6, .int pa), (4, .int 0), (3, .int fo9), (2, .int (nI g)), (0, .ref sa), (1, .ref (h 0))]) hx hb dX1_isSame_203 hl (by decide) rfl (fun ls hl => ?_)
        refine lv_iconst (v := 0) hx hb dX1_isSame_205 (by decide) ?_
        refine lv_istore (lv' := [(11, .int 0), (5, .int (va + gB (fo K w1 (w1 ^^^ 1)))), (10, .int (nI w1)), (9, .int su), (8, .int mo), (7, .int fe), (6, .int pa), (4, .int 0), (3, .int fo9), (2, .int (nI g)), (0, .ref sa), (1, .ref (h 0))]) hx hb dX1_isSame_206 hl (by decide) rfl (fun ls hl => ?_)
        refine lv_iconst (v := 0) hx hb dX1_isSame_208 (by decide) ?_
        refine lv_istore (lv' := [(12, .int 0), (11, .int 0), (5, .int (va + gB (fo K w1 (w1 ^^^ 1)))), (10, .int (nI w1)), (9, .int su), (8, .int mo), (7, .int fe), (6, .int pa), (4, .int 0), (3, .int fo9), (2, .int (nI g)), (0, .ref sa), (1, .ref (h 0))]) hx hb dX1_isSame_209 hl (by decide) rfl (fun ls hl => ?_)
        refine gc_loop (2 * g) (fun (u1 : Nat) (H : Heap) (locs : List Loc) (ls : Array Slot) => ∃ (x5 : Int32) (p6 : Int32), x5 = mRe K w1 u1 ∧ p6 = mCp K w1 + nI (fb_ct (fun v => fo K w1 v && !decide (v = w1)) u1) ∧ va_P (dC, dI) vwCl ((gcW h kc f1 f2 dr cl tr se (nI g) (nI r) inf (nI ct) ++ ([(sa, .inr (1, [.int (nI g), .ref ru, .ref q2, .ref q3, .int (nI ct)]))] ++ ([(ru, qa_R kA r (qa_up r rr))] ++ ([(q2, qa_R kA (2 * g) (qa_up (2 * g) sr))] ++ ([(q3, .inl (kI, 2 ^ g, .inl fs))]))))) ++ (qT r rr (qE kI 3 (qF K)) ++ qT (2 * g) sr (qE kI (2 * g) (qD D9)))) H ∧ va_D A ((gcW h kc f1 f2 dr cl tr se (nI g) (nI r) inf (nI ct) ++ ([(sa, .inr (1, [.int (nI g), .ref ru, .ref q2, .ref q3, .int (nI ct)]))] ++ ([(ru, qa_R kA r (qa_up r rr))] ++ ([(q2, qa_R kA (2 * g) (qa_up (2 * g) sr))] ++ ([(q3, .inl (kI, 2 ^ g, .inl fs))]))))) ++ (qT r rr (qE kI 3 (qF K)) ++ qT (2 * g) sr (qE kI (2 * g) (qD D9)))) ∧ va_S A s.heap H locs ∧ lv_has ls 19 [(12, .int (nI u1)), (11, .int x5), (5, .int (va + gB (fo K w1 (w1 ^^^ 1)))), (10, .int (nI w1)), (9, .int su), (8, .int mo), (7, .int fe), (6, .int p6), (4, .int 0), (3, .int fo9), (2, .int (nI g)), (0, .ref sa), (1, .ref (h 0))]) 0 (Nat.zero_le _) ⟨0, pa, (by first | rfl | assumption | omega), (by rw [e_pa]; exact (Int32.add_zero _).symm), hP, hD, hS, lv_sub hl [0, 1, 2, 3, 4, 5, 6, 7, 8, 9, 10, 11, 12] rfl⟩ ?_
        intro u1 H locs ls hu1 hI ihu1
        obtain ⟨x5, p6, e_x5, e_p6, hP, hD, hS, hl⟩ := hI
        refine lv_iload hx hb dX1_isSame_211 (lv_at hl 0 rfl) ?_
        refine lv_iconst (v := 2) hx hb dX1_isSame_213 (by decide) ?_
        refine lv_iload_n hx hb dX1_isSame_214 rfl (lv_at hl 10 rfl) ?_
        refine lv_imul hx hb dX1_isSame_215 ?_
        refine gc_topi (y := nI (2 * g)) (pk_mul 2 g) ?_
        refine lv_icmp_ge (tgt := 330) hx hb dX1_isSame_216 (by decide) (fun c_216 => ?_) (fun c_216 => ?_)
        · skip
          have hEu1 : u1 = 2 * g := gc_ge c_216 (by omega) (by omega)
          refine lv_aload_n hx hb dX1_isSame_330 rfl (lv_at hl 12 rfl) ?_
          refine lv_iload hx hb dX1_isSame_331 (lv_at hl 3 rfl) ?_
          have hPc : va_P (dC, dI) vwCl (gcW h kc f1 f2 dr cl tr se (nI g) (nI r) inf (nI ct)) _ := hP.sub [0, 1, 2, 3, 4, 5, 6] rfl
          have hKc : va_K (dC, dI) vwCl (gcT kc) s := hK.sub [0, 1, 2, 3, 4, 5] rfl
          refine va_calli (va_runV (As := [.int (nI w1)]) (rest := []) ⟨hx, hb, hml, hown, hts⟩ (c_X0_reach l dC dI h kc f1 f2 dr cl tr se g r inf ct w1 (by first | assumption | omega) (by first | assumption | omega)) (cwV 1 hts gX1_isSame_X0_reach rfl rfl rfl (by decide +kernel) ⟨Nat.le_of_ble_eq_true rfl, Nat.le_of_ble_eq_true rfl⟩) ⟨gcPR_blind, va_recv hK hP (ci := 0) (q0 := 0) rfl rfl, fun U hU hW => ⟨rfl, by rw [hU]; exact hPc, va_K.moved hW.alike hKc⟩⟩ rfl rfl hl.1 rfl (lv_room (Nat.le_of_ble_eq_true rfl)) dX1_isSame_333 ⟨by show _ ≤ (24 : Nat); omega, by show _ ≤ (372 : Nat); omega⟩) hS (fun q _ h => h.elim) (fun q h => h.elim) (fun r19 u t H locs ht hvm hw hB hz1 hk1 hS => ?_)
          have hP := gc_keep hP hk1
          have hw : r19 = gAt 20 cl (nI w1) := hw
          subst hw
          clear hw
          clear hB hz1 hk1 ht hvm
          clear hPc hKc
          refine gc_topi (y := mRe K w1 (2 * g)) (cl_reach (by omega) hKg hCl hLw1) ?_
          refine lv_iload hx hb dX1_isSame_336 (lv_at hl 1 rfl) ?_
          refine lv_icmp_eq (tgt := 343) hx hb dX1_isSame_338 (by decide) (fun c_338 => ?_) (fun c_338 => ?_)
          · skip
            refine lv_iinc (v := nI (w1 + 1)) (lv' := [(10, .int (nI (w1 + 1))), (12, .int (nI u1)), (11, .int x5), (5, .int (va + gB (fo K w1 (w1 ^^^ 1)))), (9, .int su), (8, .int mo), (7, .int fe), (6, .int p6), (4, .int 0), (3, .int fo9), (2, .int (nI g)), (0, .ref sa), (1, .ref (h 0))]) hx hb dX1_isSame_343 hl (k := 3) rfl (nI_1 w1) (by decide) rfl (fun ls hl => ?_)
            refine lv_goto (tgt := 178) hx hb dX1_isSame_346 (by decide) ?_
            exact ihw1 H _ ls (by omega) ⟨(va + gB (fo K w1 (w1 ^^^ 1))), p6, (by rw [mCv, ← e_va]), (by rw [e_p6, hEu1]; exact mCp_add (by omega) hKg hLw1), hP, hD, hS, lv_sub hl [0, 4, 5, 6, 7, 3, 8, 9, 10, 11, 12] rfl⟩
          · skip
            exact absurd (by rw [e_x5, hEu1]) c_338
        · skip
          have hLu1 : u1 < 2 * g := gc_lt c_216 (by omega) (by omega)
          refine lv_aload_n hx hb dX1_isSame_219 rfl (lv_at hl 11 rfl) ?_
          refine lv_iload hx hb dX1_isSame_220 (lv_at hl 3 rfl) ?_
          refine lv_iload hx hb dX1_isSame_222 (lv_at hl 0 rfl) ?_
          have hPc : va_P (dC, dI) vwCl (([(sa, .inr (1, [.int (nI g), .ref ru, .ref q2, .ref q3, .int (nI ct)]))] ++ ([(q2, qa_R kA (2 * g) (qa_up (2 * g) sr))])) ++ ((qT r rr (qE kI 3 (qF K))) ++ qT (2 * g) sr (qE kI (2 * g) (qD D9)))) _ := hP.part [7, 9] rfl
          have hKc : va_K (dC, dI) vwCl ([(kA, .array .int), (kI, .int)]) s := hK.sub [6, 7] rfl
          refine va_calli (va_runV (As := [.int (nI w1), .int (nI u1)]) (rest := []) ⟨hx, hb, hml, hown, hts⟩ (c_X1_leads l dC dI sa ru q2 q3 (nI g) (nI ct) kA kI (2 * g) sr D9 K (qT r rr (qE kI 3 (qF K))) w1 u1 (by first | assumption | omega) (by first | assumption | omega) (by first | assumption | omega) (by first | assumption | omega)) (cwV 2 hts gX1_isSame_X1_leads rfl rfl rfl (by decide +kernel) ⟨Nat.le_of_ble_eq_true rfl, Nat.le_of_ble_eq_true rfl⟩) ⟨gcPR_blind, va_recv hK hP (ci := 1) (q0 := 7) rfl rfl, fun U hU hW => ⟨rfl, by rw [hU]; exact hPc, va_K.moved hW.alike hKc⟩⟩ rfl rfl hl.1 rfl (lv_room (Nat.le_of_ble_eq_true rfl)) dX1_isSame_224 ⟨by show _ ≤ (24 : Nat); omega, by show _ ≤ (372 : Nat); omega⟩) hS (fun q _ h => h.elim) (fun q h => h.elim) (fun r20 u t H locs ht hvm hw hB hz1 hk1 hS => ?_)
          have hP := gc_keep hP hk1
          have hw : r20 = gB (fo K w1 u1) := hw
          subst hw
          clear hw
          clear hB hz1 hk1 ht hvm
          clear hPc hKc
          refine lv_if_eq (tgt := 239) hx hb dX1_isSame_227 (by decide) (fun c_227 => ?_) (fun c_227 => ?_)
          · skip
            have c_227 := gB_f c_227
            refine lv_iload hx hb dX1_isSame_239 (lv_at hl 7 rfl) ?_
            refine lv_aload_n hx hb dX1_isSame_241 rfl (lv_at hl 11 rfl) ?_
            refine lv_iload hx hb dX1_isSame_242 (lv_at hl 3 rfl) ?_
            refine lv_iload hx hb dX1_isSame_244 (lv_at hl 0 rfl) ?_
            have hPc : va_P (dC, dI) vwCl (([(sa, .inr (1, [.int (nI g), .ref ru, .ref q2, .ref q3, .int (nI ct)]))] ++ ([(q2, qa_R kA (2 * g) (qa_up (2 * g) sr))])) ++ ((qT r rr (qE kI 3 (qF K))) ++ qT (2 * g) sr (qE kI (2 * g) (qD D9)))) _ := hP.part [7, 9] rfl
            have hKc : va_K (dC, dI) vwCl ([(kA, .array .int), (kI, .int)]) s := hK.sub [6, 7] rfl
            refine va_calli (va_runV (As := [.int (nI w1), .int (nI u1)]) (rest := [.int p6]) ⟨hx, hb, hml, hown, hts⟩ (c_X1_leads l dC dI sa ru q2 q3 (nI g) (nI ct) kA kI (2 * g) sr D9 K (qT r rr (qE kI 3 (qF K))) w1 u1 (by first | assumption | omega) (by first | assumption | omega) (by first | assumption | omega) (by first | assumption | omega)) (cwV 2 hts gX1_isSame_X1_leads rfl rfl rfl (by decide +kernel) ⟨Nat.le_of_ble_eq_true rfl, Nat.le_of_ble_eq_true rfl⟩) ⟨gcPR_blind, va_recv hK hP (ci := 1) (q0 := 7) rfl rfl, fun U hU hW => ⟨rfl, by rw [hU]; exact hPc, va_K.moved hW.alike hKc⟩⟩ rfl rfl hl.1 rfl (lv_room (Nat.le_of_ble_eq_true rfl)) dX1_isSame_246 ⟨by show _ ≤ (24 : Nat); omega, by show _ ≤ (372 : Nat); omega⟩) hS (fun q _ h => h.elim) (fun q h => h.elim) (fun r21 u t H locs ht hvm hw hB hz1 hk1 hS => ?_)
            have hP := gc_keep hP hk1
            have hw : r21 = gB (fo K w1 u1) := hw
            subst hw
            clear hw
            clear hB hz1 hk1 ht hvm
            clear hPc hKc
            refine lv_if_eq (tgt := 263) hx hb dX1_isSame_249 (by decide) (fun _ => ?_) (fun h => absurd ((gB_t h).symm.trans c_227) (by decide))
            refine lv_iconst (v := 0) hx hb dX1_isSame_263 (by decide) ?_
            refine lv_iadd hx hb dX1_isSame_264 ?_
            refine lv_istore (lv' := [(6, .int (p6 + 0)), (12, .int (nI u1)), (11, .int x5), (5, .int (va + gB (fo K w1 (w1 ^^^ 1)))), (10, .int (nI w1)), (9, .int su), (8, .int mo), (7, .int fe), (4, .int 0), (3, .int fo9), (2, .int (nI g)), (0, .ref sa), (1, .ref (h 0))]) hx hb dX1_isSame_265 hl (by decide) rfl (fun ls hl => ?_)
            refine lv_aload_n hx hb dX1_isSame_267 rfl (lv_at hl 12 rfl) ?_
            refine lv_iload hx hb dX1_isSame_268 (lv_at hl 4 rfl) ?_
            refine lv_iload hx hb dX1_isSame_270 (lv_at hl 1 rfl) ?_
            have hPc : va_P (dC, dI) vwCl (gcW h kc f1 f2 dr cl tr se (nI g) (nI r) inf (nI ct)) _ := hP.sub [0, 1, 2, 3, 4, 5, 6] rfl
            have hKc : va_K (dC, dI) vwCl (gcT kc) s := hK.sub [0, 1, 2, 3, 4, 5] rfl
            refine va_calli (va_runV (As := [.int (nI w1), .int (nI u1)]) (rest := []) ⟨hx, hb, hml, hown, hts⟩ (c_X0_follows l dC dI h kc f1 f2 dr cl tr se g r inf ct w1 u1 (by first | assumption | omega) (by first | assumption | omega) (by first | assumption | omega)) (cwV 2 hts gX1_isSame_X0_follows rfl rfl rfl (by decide +kernel) ⟨Nat.le_of_ble_eq_true rfl, Nat.le_of_ble_eq_true rfl⟩) ⟨gcPR_blind, va_recv hK hP (ci := 0) (q0 := 0) rfl rfl, fun U hU hW => ⟨rfl, by rw [hU]; exact hPc, va_K.moved hW.alike hKc⟩⟩ rfl rfl hl.1 rfl (lv_room (Nat.le_of_ble_eq_true rfl)) dX1_isSame_272 ⟨by show _ ≤ (24 : Nat); omega, by show _ ≤ (372 : Nat); omega⟩) hS (fun q _ h => h.elim) (fun q h => h.elim) (fun r22 u t H locs ht hvm hw hB hz1 hk1 hS => ?_)
            have hP := gc_keep hP hk1
            have hw : r22 = gB (gHas (gAt 20 cl (nI w1)) (nI u1)) := hw
            subst hw
            clear hw
            clear hB hz1 hk1 ht hvm
            clear hPc hKc
            refine gc_topi (y := gB (fo K w1 u1)) (by rw [cl_has hCl (by omega) (by omega)]) ?_
            refine lv_aload_n hx hb dX1_isSame_275 rfl (lv_at hl 11 rfl) ?_
            refine lv_iload hx hb dX1_isSame_276 (lv_at hl 4 rfl) ?_
            refine lv_iload hx hb dX1_isSame_278 (lv_at hl 1 rfl) ?_
            have hPc : va_P (dC, dI) vwCl (([(sa, .inr (1, [.int (nI g), .ref ru, .ref q2, .ref q3, .int (nI ct)]))] ++ ([(q2, qa_R kA (2 * g) (qa_up (2 * g) sr))])) ++ ((qT r rr (qE kI 3 (qF K))) ++ qT (2 * g) sr (qE kI (2 * g) (qD D9)))) _ := hP.part [7, 9] rfl
            have hKc : va_K (dC, dI) vwCl ([(kA, .array .int), (kI, .int)]) s := hK.sub [6, 7] rfl
            refine va_calli (va_runV (As := [.int (nI w1), .int (nI u1)]) (rest := [.int (gB (fo K w1 u1))]) ⟨hx, hb, hml, hown, hts⟩ (c_X1_leads l dC dI sa ru q2 q3 (nI g) (nI ct) kA kI (2 * g) sr D9 K (qT r rr (qE kI 3 (qF K))) w1 u1 (by first | assumption | omega) (by first | assumption | omega) (by first | assumption | omega) (by first | assumption | omega)) (cwV 2 hts gX1_isSame_X1_leads rfl rfl rfl (by decide +kernel) ⟨Nat.le_of_ble_eq_true rfl, Nat.le_of_ble_eq_true rfl⟩) ⟨gcPR_blind, va_recv hK hP (ci := 1) (q0 := 7) rfl rfl, fun U hU hW => ⟨rfl, by rw [hU]; exact hPc, va_K.moved hW.alike hKc⟩⟩ rfl rfl hl.1 rfl (lv_room (Nat.le_of_ble_eq_true rfl)) dX1_isSame_280 ⟨by show _ ≤ (24 : Nat); omega, by show _ ≤ (372 : Nat); omega⟩) hS (fun q _ h => h.elim) (fun q h => h.elim) (fun r23 u t H locs ht hvm hw hB hz1 hk1 hS => ?_)
            have hP := gc_keep hP hk1
            have hw : r23 = gB (fo K w1 u1) := hw
            subst hw
            clear hw
            clear hB hz1 hk1 ht hvm
            clear hPc hKc
            refine lv_icmp_ne (tgt := 322) hx hb dX1_isSame_283 (by decide) (fun h => absurd rfl h) (fun _ => ?_)
            refine lv_aload_n hx hb dX1_isSame_286 rfl (lv_at hl 12 rfl) ?_
            refine lv_iload hx hb dX1_isSame_287 (lv_at hl 4 rfl) ?_
            refine lv_iload hx hb dX1_isSame_289 (lv_at hl 1 rfl) ?_
            have hPc : va_P (dC, dI) vwCl (gcW h kc f1 f2 dr cl tr se (nI g) (nI r) inf (nI ct)) _ := hP.sub [0, 1, 2, 3, 4, 5, 6] rfl
            have hKc : va_K (dC, dI) vwCl (gcT kc) s := hK.sub [0, 1, 2, 3, 4, 5] rfl
            refine va_calli (va_runV (As := [.int (nI w1), .int (nI u1)]) (rest := []) ⟨hx, hb, hml, hown, hts⟩ (c_X0_stepsB l dC dI h kc f1 f2 dr cl tr se g r inf ct w1 u1 (by first | assumption | omega) (by first | assumption | omega) (by first | assumption | omega)) (cwV 2 hts gX1_isSame_X0_steps rfl rfl rfl (by decide +kernel) ⟨Nat.le_of_ble_eq_true rfl, Nat.le_of_ble_eq_true rfl⟩) ⟨gcPR_blind, va_recv hK hP (ci := 0) (q0 := 0) rfl rfl, fun U hU hW => ⟨rfl, by rw [hU]; exact hPc, va_K.moved hW.alike hKc⟩⟩ rfl rfl hl.1 rfl (lv_room (Nat.le_of_ble_eq_true rfl)) dX1_isSame_291 ⟨by show _ ≤ (24 : Nat); omega, by show _ ≤ (372 : Nat); omega⟩) hS (fun q _ h => h.elim) (fun q h => h.elim) (fun r24 u t H locs ht hvm hw hB hz1 hk1 hS => ?_)
            have hP := gc_keep hP hk1
            have hw : r24 = gStp dr g w1 u1 := hw
            subst hw
            clear hw
            clear hB hz1 hk1 ht hvm
            clear hPc hKc
            refine gc_topi (y := di K w1 u1) (steps_eq (by omega) hKg hDr hLw1 hLu1 (di_or (Kg_20 (by omega) hKg) (by omega))) ?_
            refine lv_aload_n hx hb dX1_isSame_294 rfl (lv_at hl 11 rfl) ?_
            refine lv_iload hx hb dX1_isSame_295 (lv_at hl 4 rfl) ?_
            refine lv_iload hx hb dX1_isSame_297 (lv_at hl 1 rfl) ?_
            have hPc : va_P (dC, dI) vwCl (([(sa, .inr (1, [.int (nI g), .ref ru, .ref q2, .ref q3, .int (nI ct)]))] ++ ([(q2, qa_R kA (2 * g) (qa_up (2 * g) sr))])) ++ ((qT r rr (qE kI 3 (qF K))) ++ qT (2 * g) sr (qE kI (2 * g) (qD D9)))) _ := hP.part [7, 9] rfl
            have hKc : va_K (dC, dI) vwCl ([(kA, .array .int), (kI, .int)]) s := hK.sub [6, 7] rfl
            refine va_calli (va_runV (As := [.int (nI w1), .int (nI u1)]) (rest := [.int (di K w1 u1)]) ⟨hx, hb, hml, hown, hts⟩ (c_X1_leads l dC dI sa ru q2 q3 (nI g) (nI ct) kA kI (2 * g) sr D9 K (qT r rr (qE kI 3 (qF K))) w1 u1 (by first | assumption | omega) (by first | assumption | omega) (by first | assumption | omega) (by first | assumption | omega)) (cwV 2 hts gX1_isSame_X1_leads rfl rfl rfl (by decide +kernel) ⟨Nat.le_of_ble_eq_true rfl, Nat.le_of_ble_eq_true rfl⟩) ⟨gcPR_blind, va_recv hK hP (ci := 1) (q0 := 7) rfl rfl, fun U hU hW => ⟨rfl, by rw [hU]; exact hPc, va_K.moved hW.alike hKc⟩⟩ rfl rfl hl.1 rfl (lv_room (Nat.le_of_ble_eq_true rfl)) dX1_isSame_299 ⟨by show _ ≤ (24 : Nat); omega, by show _ ≤ (372 : Nat); omega⟩) hS (fun q _ h => h.elim) (fun q h => h.elim) (fun r25 u t H locs ht hvm hw hB hz1 hk1 hS => ?_)
            have hP := gc_keep hP hk1
            have hw : r25 = gB (fo K w1 u1) := hw
            subst hw
            clear hw
            clear hB hz1 hk1 ht hvm
            clear hPc hKc
            refine lv_if_eq (tgt := 318) hx hb dX1_isSame_302 (by decide) (fun _ => ?_) (fun h => absurd ((gB_t h).symm.trans c_227) (by decide))
            refine lv_iconst (v := -1) hx hb dX1_isSame_318 (by decide) ?_
            refine gc_topi (y := di K w1 u1) (FT_not hFT hLw1 hLu1 c_227) ?_
            refine lv_icmp_eq (tgt := 324) hx hb dX1_isSame_319 (by decide) (fun _ => ?_) (fun h => absurd rfl h)
            refine lv_iinc (v := nI (u1 + 1)) (lv' := [(12, .int (nI (u1 + 1))), (6, .int (p6 + 0)), (11, .int x5), (5, .int (va + gB (fo K w1 (w1 ^^^ 1)))), (10, .int (nI w1)), (9, .int su), (8, .int mo), (7, .int fe), (4, .int 0), (3, .int fo9), (2, .int (nI g)), (0, .ref sa), (1, .ref (h 0))]) hx hb dX1_isSame_324 hl (k := 1) rfl (nI_1 u1) (by decide) rfl (fun ls hl => ?_)
            refine lv_goto (tgt := 211) hx hb dX1_isSame_327 (by decide) ?_
            exact ihu1 H _ ls (by omega) ⟨x5, (p6 + 0), (by rw [← mRe_not c_227]; exact e_x5), (by rw [ct_n (q := (fun v => fo K w1 v && !decide (v = w1))) (u := u1) (by show (fo K w1 u1 && !decide (u1 = w1)) = false; rw [c_227]; rfl), ← e_p6]; exact Int32.add_zero _), hP, hD, hS, lv_sub hl [0, 2, 3, 4, 5, 6, 7, 1, 8, 9, 10, 11, 12] rfl⟩
          · skip
            have c_227 := gB_t c_227
            refine lv_iload hx hb dX1_isSame_230 (lv_at hl 1 rfl) ?_
            refine lv_iconst (v := 1) hx hb dX1_isSame_232 (by decide) ?_
            refine lv_iload hx hb dX1_isSame_233 (lv_at hl 0 rfl) ?_
            refine lv_ishl hx hb dX1_isSame_235 ?_
            refine lv_iadd hx hb dX1_isSame_236 ?_
            refine lv_istore (lv' := [(11, .int (x5 + ((1 : Int32) <<< (nI u1 &&& 31)))), (12, .int (nI u1)), (5, .int (va + gB (fo K w1 (w1 ^^^ 1)))), (10, .int (nI w1)), (9, .int su), (8, .int mo), (7, .int fe), (6, .int p6), (4, .int 0), (3, .int fo9), (2, .int (nI g)), (0, .ref sa), (1, .ref (h 0))]) hx hb dX1_isSame_237 hl (by decide) rfl (fun ls hl => ?_)
            refine lv_iload hx hb dX1_isSame_239 (lv_at hl 7 rfl) ?_
            refine lv_aload_n hx hb dX1_isSame_241 rfl (lv_at hl 11 rfl) ?_
            refine lv_iload hx hb dX1_isSame_242 (lv_at hl 3 rfl) ?_
            refine lv_iload hx hb dX1_isSame_244 (lv_at hl 1 rfl) ?_
            have hPc : va_P (dC, dI) vwCl (([(sa, .inr (1, [.int (nI g), .ref ru, .ref q2, .ref q3, .int (nI ct)]))] ++ ([(q2, qa_R kA (2 * g) (qa_up (2 * g) sr))])) ++ ((qT r rr (qE kI 3 (qF K))) ++ qT (2 * g) sr (qE kI (2 * g) (qD D9)))) _ := hP.part [7, 9] rfl
            have hKc : va_K (dC, dI) vwCl ([(kA, .array .int), (kI, .int)]) s := hK.sub [6, 7] rfl
            refine va_calli (va_runV (As := [.int (nI w1), .int (nI u1)]) (rest := [.int p6]) ⟨hx, hb, hml, hown, hts⟩ (c_X1_leads l dC dI sa ru q2 q3 (nI g) (nI ct) kA kI (2 * g) sr D9 K (qT r rr (qE kI 3 (qF K))) w1 u1 (by first | assumption | omega) (by first | assumption | omega) (by first | assumption | omega) (by first | assumption | omega)) (cwV 2 hts gX1_isSame_X1_leads rfl rfl rfl (by decide +kernel) ⟨Nat.le_of_ble_eq_true rfl, Nat.le_of_ble_eq_true rfl⟩) ⟨gcPR_blind, va_recv hK hP (ci := 1) (q0 := 7) rfl rfl, fun U hU hW => ⟨rfl, by rw [hU]; exact hPc, va_K.moved hW.alike hKc⟩⟩ rfl rfl hl.1 rfl (lv_room (Nat.le_of_ble_eq_true rfl)) dX1_isSame_246 ⟨by show _ ≤ (24 : Nat); omega, by show _ ≤ (372 : Nat); omega⟩) hS (fun q _ h => h.elim) (fun q h => h.elim) (fun r26 u t H locs ht hvm hw hB hz1 hk1 hS => ?_)
            have hP := gc_keep hP hk1
            have hw : r26 = gB (fo K w1 u1) := hw
            subst hw
            clear hw
            clear hB hz1 hk1 ht hvm
            clear hPc hKc
            refine lv_if_eq (tgt := 263) hx hb dX1_isSame_249 (by decide) (fun h => absurd ((gB_f h).symm.trans c_227) (by decide)) (fun _ => ?_)
            refine lv_iload hx hb dX1_isSame_252 (lv_at hl 3 rfl) ?_
            refine lv_iload hx hb dX1_isSame_254 (lv_at hl 1 rfl) ?_
            refine lv_icmp_eq (tgt := 263) hx hb dX1_isSame_256 (by decide) (fun c_256 => ?_) (fun c_256 => ?_)
            · skip
              refine lv_iconst (v := 0) hx hb dX1_isSame_263 (by decide) ?_
              refine lv_iadd hx hb dX1_isSame_264 ?_
              refine lv_istore (lv' := [(6, .int (p6 + 0)), (11, .int (x5 + ((1 : Int32) <<< (nI u1 &&& 31)))), (12, .int (nI u1)), (5, .int (va + gB (fo K w1 (w1 ^^^ 1)))), (10, .int (nI w1)), (9, .int su), (8, .int mo), (7, .int fe), (4, .int 0), (3, .int fo9), (2, .int (nI g)), (0, .ref sa), (1, .ref (h 0))]) hx hb dX1_isSame_265 hl (by decide) rfl (fun ls hl => ?_)
              refine lv_aload_n hx hb dX1_isSame_267 rfl (lv_at hl 12 rfl) ?_
              refine lv_iload hx hb dX1_isSame_268 (lv_at hl 4 rfl) ?_
              refine lv_iload hx hb dX1_isSame_270 (lv_at hl 2 rfl) ?_
              have hPc : va_P (dC, dI) vwCl (gcW h kc f1 f2 dr cl tr se (nI g) (nI r) inf (nI ct)) _ := hP.sub [0, 1, 2, 3, 4, 5, 6] rfl
              have hKc : va_K (dC, dI) vwCl (gcT kc) s := hK.sub [0, 1, 2, 3, 4, 5] rfl
              refine va_calli (va_runV (As := [.int (nI w1), .int (nI u1)]) (rest := []) ⟨hx, hb, hml, hown, hts⟩ (c_X0_follows l dC dI h kc f1 f2 dr cl tr se g r inf ct w1 u1 (by first | assumption | omega) (by first | assumption | omega) (by first | assumption | omega)) (cwV 2 hts gX1_isSame_X0_follows rfl rfl rfl (by decide +kernel) ⟨Nat.le_of_ble_eq_true rfl, Nat.le_of_ble_eq_true rfl⟩) ⟨gcPR_blind, va_recv hK hP (ci := 0) (q0 := 0) rfl rfl, fun U hU hW => ⟨rfl, by rw [hU]; exact hPc, va_K.moved hW.alike hKc⟩⟩ rfl rfl hl.1 rfl (lv_room (Nat.le_of_ble_eq_true rfl)) dX1_isSame_272 ⟨by show _ ≤ (24 : Nat); omega, by show _ ≤ (372 : Nat); omega⟩) hS (fun q _ h => h.elim) (fun q h => h.elim) (fun r27 u t H locs ht hvm hw hB hz1 hk1 hS => ?_)
              have hP := gc_keep hP hk1
              have hw : r27 = gB (gHas (gAt 20 cl (nI w1)) (nI u1)) := hw
              subst hw
              clear hw
              clear hB hz1 hk1 ht hvm
              clear hPc hKc
              refine gc_topi (y := gB (fo K w1 u1)) (by rw [cl_has hCl (by omega) (by omega)]) ?_
              refine lv_aload_n hx hb dX1_isSame_275 rfl (lv_at hl 11 rfl) ?_
              refine lv_iload hx hb dX1_isSame_276 (lv_at hl 4 rfl) ?_
              refine lv_iload hx hb dX1_isSame_278 (lv_at hl 2 rfl) ?_
              have hPc : va_P (dC, dI) vwCl (([(sa, .inr (1, [.int (nI g), .ref ru, .ref q2, .ref q3, .int (nI ct)]))] ++ ([(q2, qa_R kA (2 * g) (qa_up (2 * g) sr))])) ++ ((qT r rr (qE kI 3 (qF K))) ++ qT (2 * g) sr (qE kI (2 * g) (qD D9)))) _ := hP.part [7, 9] rfl
              have hKc : va_K (dC, dI) vwCl ([(kA, .array .int), (kI, .int)]) s := hK.sub [6, 7] rfl
              refine va_calli (va_runV (As := [.int (nI w1), .int (nI u1)]) (rest := [.int (gB (fo K w1 u1))]) ⟨hx, hb, hml, hown, hts⟩ (c_X1_leads l dC dI sa ru q2 q3 (nI g) (nI ct) kA kI (2 * g) sr D9 K (qT r rr (qE kI 3 (qF K))) w1 u1 (by first | assumption | omega) (by first | assumption | omega) (by first | assumption | omega) (by first | assumption | omega)) (cwV 2 hts gX1_isSame_X1_leads rfl rfl rfl (by decide +kernel) ⟨Nat.le_of_ble_eq_true rfl, Nat.le_of_ble_eq_true rfl⟩) ⟨gcPR_blind, va_recv hK hP (ci := 1) (q0 := 7) rfl rfl, fun U hU hW => ⟨rfl, by rw [hU]; exact hPc, va_K.moved hW.alike hKc⟩⟩ rfl rfl hl.1 rfl (lv_room (Nat.le_of_ble_eq_true rfl)) dX1_isSame_280 ⟨by show _ ≤ (24 : Nat); omega, by show _ ≤ (372 : Nat); omega⟩) hS (fun q _ h => h.elim) (fun q h => h.elim) (fun r28 u t H locs ht hvm hw hB hz1 hk1 hS => ?_)
              have hP := gc_keep hP hk1
              have hw : r28 = gB (fo K w1 u1) := hw
              subst hw
              clear hw
              clear hB hz1 hk1 ht hvm
              clear hPc hKc
              refine lv_icmp_ne (tgt := 322) hx hb dX1_isSame_283 (by decide) (fun h => absurd rfl h) (fun _ => ?_)
              refine lv_aload_n hx hb dX1_isSame_286 rfl (lv_at hl 12 rfl) ?_
              refine lv_iload hx hb dX1_isSame_287 (lv_at hl 4 rfl) ?_
              refine lv_iload hx hb dX1_isSame_289 (lv_at hl 2 rfl) ?_
              have hPc : va_P (dC, dI) vwCl (gcW h kc f1 f2 dr cl tr se (nI g) (nI r) inf (nI ct)) _ := hP.sub [0, 1, 2, 3, 4, 5, 6] rfl
              have hKc : va_K (dC, dI) vwCl (gcT kc) s := hK.sub [0, 1, 2, 3, 4, 5] rfl
              refine va_calli (va_runV (As := [.int (nI w1), .int (nI u1)]) (rest := []) ⟨hx, hb, hml, hown, hts⟩ (c_X0_stepsB l dC dI h kc f1 f2 dr cl tr se g r inf ct w1 u1 (by first | assumption | omega) (by first | assumption | omega) (by first | assumption | omega)) (cwV 2 hts gX1_isSame_X0_steps rfl rfl rfl (by decide +kernel) ⟨Nat.le_of_ble_eq_true rfl, Nat.le_of_ble_eq_true rfl⟩) ⟨gcPR_blind, va_recv hK hP (ci := 0) (q0 := 0) rfl rfl, fun U hU hW => ⟨rfl, by rw [hU]; exact hPc, va_K.moved hW.alike hKc⟩⟩ rfl rfl hl.1 rfl (lv_room (Nat.le_of_ble_eq_true rfl)) dX1_isSame_291 ⟨by show _ ≤ (24 : Nat); omega, by show _ ≤ (372 : Nat); omega⟩) hS (fun q _ h => h.elim) (fun q h => h.elim) (fun r29 u t H locs ht hvm hw hB hz1 hk1 hS => ?_)
              have hP := gc_keep hP hk1
              have hw : r29 = gStp dr g w1 u1 := hw
              subst hw
              clear hw
              clear hB hz1 hk1 ht hvm
              clear hPc hKc
              refine gc_topi (y := di K w1 u1) (steps_eq (by omega) hKg hDr hLw1 hLu1 (di_or (Kg_20 (by omega) hKg) (by omega))) ?_
              refine lv_aload_n hx hb dX1_isSame_294 rfl (lv_at hl 11 rfl) ?_
              refine lv_iload hx hb dX1_isSame_295 (lv_at hl 4 rfl) ?_
              refine lv_iload hx hb dX1_isSame_297 (lv_at hl 2 rfl) ?_
              have hPc : va_P (dC, dI) vwCl (([(sa, .inr (1, [.int (nI g), .ref ru, .ref q2, .ref q3, .int (nI ct)]))] ++ ([(q2, qa_R kA (2 * g) (qa_up (2 * g) sr))])) ++ ((qT r rr (qE kI 3 (qF K))) ++ qT (2 * g) sr (qE kI (2 * g) (qD D9)))) _ := hP.part [7, 9] rfl
              have hKc : va_K (dC, dI) vwCl ([(kA, .array .int), (kI, .int)]) s := hK.sub [6, 7] rfl
              refine va_calli (va_runV (As := [.int (nI w1), .int (nI u1)]) (rest := [.int (di K w1 u1)]) ⟨hx, hb, hml, hown, hts⟩ (c_X1_leads l dC dI sa ru q2 q3 (nI g) (nI ct) kA kI (2 * g) sr D9 K (qT r rr (qE kI 3 (qF K))) w1 u1 (by first | assumption | omega) (by first | assumption | omega) (by first | assumption | omega) (by first | assumption | omega)) (cwV 2 hts gX1_isSame_X1_leads rfl rfl rfl (by decide +kernel) ⟨Nat.le_of_ble_eq_true rfl, Nat.le_of_ble_eq_true rfl⟩) ⟨gcPR_blind, va_recv hK hP (ci := 1) (q0 := 7) rfl rfl, fun U hU hW => ⟨rfl, by rw [hU]; exact hPc, va_K.moved hW.alike hKc⟩⟩ rfl rfl hl.1 rfl (lv_room (Nat.le_of_ble_eq_true rfl)) dX1_isSame_299 ⟨by show _ ≤ (24 : Nat); omega, by show _ ≤ (372 : Nat); omega⟩) hS (fun q _ h => h.elim) (fun q h => h.elim) (fun r30 u t H locs ht hvm hw hB hz1 hk1 hS => ?_)
              have hP := gc_keep hP hk1
              have hw : r30 = gB (fo K w1 u1) := hw
              subst hw
              clear hw
              clear hB hz1 hk1 ht hvm
              clear hPc hKc
              refine lv_if_eq (tgt := 318) hx hb dX1_isSame_302 (by decide) (fun h => absurd ((gB_f h).symm.trans c_227) (by decide)) (fun _ => ?_)
              refine lv_aload_n hx hb dX1_isSame_305 rfl (lv_at hl 11 rfl) ?_
              refine va_get (D := (dC, dI)) (ci := 1) (v := .ref q2) (C := RX1) (T := TX1) (N := 5) hx hb hts hin1 hown hK hP 7 rfl rfl 2 (by decide) (hts (.fieldLink RX1 27 "GuestChairsLaw$Sim" "steps" "[[I") (by decide +kernel)) (fun _ h9 => h9) rfl dX1_isSame_306 ?_
              refine lv_iload hx hb dX1_isSame_309 (lv_at hl 4 rfl) ?_
              refine qa_ald hx hb hK hP 9 6 rfl rfl (v := sr w1) (vp_in_nI (n := w1) (N := 2 * g) (by omega) (by omega)) (by rw [show (nI w1 : Int32).toNatClampNeg = w1 from nI_clamp (by omega)]; exact qa_up_at (by omega)) dX1_isSame_311 ?_
              refine lv_iload hx hb dX1_isSame_312 (lv_at hl 2 rfl) ?_
              refine va_iald hx hb hK hP _ 7 (qR2 (i := w1) (by omega) _ _) rfl (vp_in_nI (n := u1) (N := 2 * g) (by omega) (by omega)) dX1_isSame_314 ?_
              rw [show (nI u1 : Int32).toNatClampNeg = u1 from nI_clamp (by omega)]
              refine gc_topi (y := nI (D9 w1 u1)) rfl ?_
              refine lv_goto (tgt := 319) hx hb dX1_isSame_315 (by decide) ?_
              refine gc_topi (y := di K w1 u1) (FT_yes hFT hLw1 hLu1 c_227) ?_
              refine lv_icmp_eq (tgt := 324) hx hb dX1_isSame_319 (by decide) (fun _ => ?_) (fun h => absurd rfl h)
              refine lv_iinc (v := nI (u1 + 1)) (lv' := [(12, .int (nI (u1 + 1))), (6, .int (p6 + 0)), (11, .int (x5 + ((1 : Int32) <<< (nI u1 &&& 31)))), (5, .int (va + gB (fo K w1 (w1 ^^^ 1)))), (10, .int (nI w1)), (9, .int su), (8, .int mo), (7, .int fe), (4, .int 0), (3, .int fo9), (2, .int (nI g)), (0, .ref sa), (1, .ref (h 0))]) hx hb dX1_isSame_324 hl (k := 2) rfl (nI_1 u1) (by decide) rfl (fun ls hl => ?_)
              refine lv_goto (tgt := 211) hx hb dX1_isSame_327 (by decide) ?_
              exact ihu1 H _ ls (by omega) ⟨(x5 + ((1 : Int32) <<< (nI u1 &&& 31))), (p6 + 0), (by rw [← mRe_add (by omega) c_227, ← e_x5]), (by rw [ct_n (q := (fun v => fo K w1 v && !decide (v = w1))) (u := u1) (by have q := (nI_eq (by omega) (by omega)).mp c_256; subst q; simp), ← e_p6]; exact Int32.add_zero _), hP, hD, hS, lv_sub hl [0, 2, 3, 4, 5, 6, 7, 1, 8, 9, 10, 11, 12] rfl⟩
            · skip
              refine lv_iconst (v := 1) hx hb dX1_isSame_259 (by decide) ?_
              refine lv_goto (tgt := 264) hx hb dX1_isSame_260 (by decide) ?_
              refine lv_iadd hx hb dX1_isSame_264 ?_
              refine lv_istore (lv' := [(6, .int (p6 + 1)), (11, .int (x5 + ((1 : Int32) <<< (nI u1 &&& 31)))), (12, .int (nI u1)), (5, .int (va + gB (fo K w1 (w1 ^^^ 1)))), (10, .int (nI w1)), (9, .int su), (8, .int mo), (7, .int fe), (4, .int 0), (3, .int fo9), (2, .int (nI g)), (0, .ref sa), (1, .ref (h 0))]) hx hb dX1_isSame_265 hl (by decide) rfl (fun ls hl => ?_)
              refine lv_aload_n hx hb dX1_isSame_267 rfl (lv_at hl 12 rfl) ?_
              refine lv_iload hx hb dX1_isSame_268 (lv_at hl 4 rfl) ?_
              refine lv_iload hx hb dX1_isSame_270 (lv_at hl 2 rfl) ?_
              have hPc : va_P (dC, dI) vwCl (gcW h kc f1 f2 dr cl tr se (nI g) (nI r) inf (nI ct)) _ := hP.sub [0, 1, 2, 3, 4, 5, 6] rfl
              have hKc : va_K (dC, dI) vwCl (gcT kc) s := hK.sub [0, 1, 2, 3, 4, 5] rfl
              refine va_calli (va_runV (As := [.int (nI w1), .int (nI u1)]) (rest := []) ⟨hx, hb, hml, hown, hts⟩ (c_X0_follows l dC dI h kc f1 f2 dr cl tr se g r inf ct w1 u1 (by first | assumption | omega) (by first | assumption | omega) (by first | assumption | omega)) (cwV 2 hts gX1_isSame_X0_follows rfl rfl rfl (by decide +kernel) ⟨Nat.le_of_ble_eq_true rfl, Nat.le_of_ble_eq_true rfl⟩) ⟨gcPR_blind, va_recv hK hP (ci := 0) (q0 := 0) rfl rfl, fun U hU hW => ⟨rfl, by rw [hU]; exact hPc, va_K.moved hW.alike hKc⟩⟩ rfl rfl hl.1 rfl (lv_room (Nat.le_of_ble_eq_true rfl)) dX1_isSame_272 ⟨by show _ ≤ (24 : Nat); omega, by show _ ≤ (372 : Nat); omega⟩) hS (fun q _ h => h.elim) (fun q h => h.elim) (fun r31 u t H locs ht hvm hw hB hz1 hk1 hS => ?_)
              have hP := gc_keep hP hk1
              have hw : r31 = gB (gHas (gAt 20 cl (nI w1)) (nI u1)) := hw
              subst hw
              clear hw
              clear hB hz1 hk1 ht hvm
              clear hPc hKc
              refine gc_topi (y := gB (fo K w1 u1)) (by rw [cl_has hCl (by omega) (by omega)]) ?_
              refine lv_aload_n hx hb dX1_isSame_275 rfl (lv_at hl 11 rfl) ?_
              refine lv_iload hx hb dX1_isSame_276 (lv_at hl 4 rfl) ?_
              refine lv_iload hx hb dX1_isSame_278 (lv_at hl 2 rfl) ?_
              have hPc : va_P (dC, dI) vwCl (([(sa, .inr (1, [.int (nI g), .ref ru, .ref q2, .ref q3, .int (nI ct)]))] ++ ([(q2, qa_R kA (2 * g) (qa_up (2 * g) sr))])) ++ ((qT r rr (qE kI 3 (qF K))) ++ qT (2 * g) sr (qE kI (2 * g) (qD D9)))) _ := hP.part [7, 9] rfl
              have hKc : va_K (dC, dI) vwCl ([(kA, .array .int), (kI, .int)]) s := hK.sub [6, 7] rfl
              refine va_calli (va_runV (As := [.int (nI w1), .int (nI u1)]) (rest := [.int (gB (fo K w1 u1))]) ⟨hx, hb, hml, hown, hts⟩ (c_X1_leads l dC dI sa ru q2 q3 (nI g) (nI ct) kA kI (2 * g) sr D9 K (qT r rr (qE kI 3 (qF K))) w1 u1 (by first | assumption | omega) (by first | assumption | omega) (by first | assumption | omega) (by first | assumption | omega)) (cwV 2 hts gX1_isSame_X1_leads rfl rfl rfl (by decide +kernel) ⟨Nat.le_of_ble_eq_true rfl, Nat.le_of_ble_eq_true rfl⟩) ⟨gcPR_blind, va_recv hK hP (ci := 1) (q0 := 7) rfl rfl, fun U hU hW => ⟨rfl, by rw [hU]; exact hPc, va_K.moved hW.alike hKc⟩⟩ rfl rfl hl.1 rfl (lv_room (Nat.le_of_ble_eq_true rfl)) dX1_isSame_280 ⟨by show _ ≤ (24 : Nat); omega, by show _ ≤ (372 : Nat); omega⟩) hS (fun q _ h => h.elim) (fun q h => h.elim) (fun r32 u t H locs ht hvm hw hB hz1 hk1 hS => ?_)
              have hP := gc_keep hP hk1
              have hw : r32 = gB (fo K w1 u1) := hw
              subst hw
              clear hw
              clear hB hz1 hk1 ht hvm
              clear hPc hKc
              refine lv_icmp_ne (tgt := 322) hx hb dX1_isSame_283 (by decide) (fun h => absurd rfl h) (fun _ => ?_)
              refine lv_aload_n hx hb dX1_isSame_286 rfl (lv_at hl 12 rfl) ?_
              refine lv_iload hx hb dX1_isSame_287 (lv_at hl 4 rfl) ?_
              refine lv_iload hx hb dX1_isSame_289 (lv_at hl 2 rfl) ?_
              have hPc : va_P (dC, dI) vwCl (gcW h kc f1 f2 dr cl tr se (nI g) (nI r) inf (nI ct)) _ := hP.sub [0, 1, 2, 3, 4, 5, 6] rfl
              have hKc : va_K (dC, dI) vwCl (gcT kc) s := hK.sub [0, 1, 2, 3, 4, 5] rfl
              refine va_calli (va_runV (As := [.int (nI w1), .int (nI u1)]) (rest := []) ⟨hx, hb, hml, hown, hts⟩ (c_X0_stepsB l dC dI h kc f1 f2 dr cl tr se g r inf ct w1 u1 (by first | assumption | omega) (by first | assumption | omega) (by first | assumption | omega)) (cwV 2 hts gX1_isSame_X0_steps rfl rfl rfl (by decide +kernel) ⟨Nat.le_of_ble_eq_true rfl, Nat.le_of_ble_eq_true rfl⟩) ⟨gcPR_blind, va_recv hK hP (ci := 0) (q0 := 0) rfl rfl, fun U hU hW => ⟨rfl, by rw [hU]; exact hPc, va_K.moved hW.alike hKc⟩⟩ rfl rfl hl.1 rfl (lv_room (Nat.le_of_ble_eq_true rfl)) dX1_isSame_291 ⟨by show _ ≤ (24 : Nat); omega, by show _ ≤ (372 : Nat); omega⟩) hS (fun q _ h => h.elim) (fun q h => h.elim) (fun r33 u t H locs ht hvm hw hB hz1 hk1 hS => ?_)
              have hP := gc_keep hP hk1
              have hw : r33 = gStp dr g w1 u1 := hw
              subst hw
              clear hw
              clear hB hz1 hk1 ht hvm
              clear hPc hKc
              refine gc_topi (y := di K w1 u1) (steps_eq (by omega) hKg hDr hLw1 hLu1 (di_or (Kg_20 (by omega) hKg) (by omega))) ?_
              refine lv_aload_n hx hb dX1_isSame_294 rfl (lv_at hl 11 rfl) ?_
              refine lv_iload hx hb dX1_isSame_295 (lv_at hl 4 rfl) ?_
              refine lv_iload hx hb dX1_isSame_297 (lv_at hl 2 rfl) ?_
              have hPc : va_P (dC, dI) vwCl (([(sa, .inr (1, [.int (nI g), .ref ru, .ref q2, .ref q3, .int (nI ct)]))] ++ ([(q2, qa_R kA (2 * g) (qa_up (2 * g) sr))])) ++ ((qT r rr (qE kI 3 (qF K))) ++ qT (2 * g) sr (qE kI (2 * g) (qD D9)))) _ := hP.part [7, 9] rfl
              have hKc : va_K (dC, dI) vwCl ([(kA, .array .int), (kI, .int)]) s := hK.sub [6, 7] rfl
              refine va_calli (va_runV (As := [.int (nI w1), .int (nI u1)]) (rest := [.int (di K w1 u1)]) ⟨hx, hb, hml, hown, hts⟩ (c_X1_leads l dC dI sa ru q2 q3 (nI g) (nI ct) kA kI (2 * g) sr D9 K (qT r rr (qE kI 3 (qF K))) w1 u1 (by first | assumption | omega) (by first | assumption | omega) (by first | assumption | omega) (by first | assumption | omega)) (cwV 2 hts gX1_isSame_X1_leads rfl rfl rfl (by decide +kernel) ⟨Nat.le_of_ble_eq_true rfl, Nat.le_of_ble_eq_true rfl⟩) ⟨gcPR_blind, va_recv hK hP (ci := 1) (q0 := 7) rfl rfl, fun U hU hW => ⟨rfl, by rw [hU]; exact hPc, va_K.moved hW.alike hKc⟩⟩ rfl rfl hl.1 rfl (lv_room (Nat.le_of_ble_eq_true rfl)) dX1_isSame_299 ⟨by show _ ≤ (24 : Nat); omega, by show _ ≤ (372 : Nat); omega⟩) hS (fun q _ h => h.elim) (fun q h => h.elim) (fun r34 u t H locs ht hvm hw hB hz1 hk1 hS => ?_)
              have hP := gc_keep hP hk1
              have hw : r34 = gB (fo K w1 u1) := hw
              subst hw
              clear hw
              clear hB hz1 hk1 ht hvm
              clear hPc hKc
              refine lv_if_eq (tgt := 318) hx hb dX1_isSame_302 (by decide) (fun h => absurd ((gB_f h).symm.trans c_227) (by decide)) (fun _ => ?_)
              refine lv_aload_n hx hb dX1_isSame_305 rfl (lv_at hl 11 rfl) ?_
              refine va_get (D := (dC, dI)) (ci := 1) (v := .ref q2) (C := RX1) (T := TX1) (N := 5) hx hb hts hin1 hown hK hP 7 rfl rfl 2 (by decide) (hts (.fieldLink RX1 27 "GuestChairsLaw$Sim" "steps" "[[I") (by decide +kernel)) (fun _ h9 => h9) rfl dX1_isSame_306 ?_
              refine lv_iload hx hb dX1_isSame_309 (lv_at hl 4 rfl) ?_
              refine qa_ald hx hb hK hP 9 6 rfl rfl (v := sr w1) (vp_in_nI (n := w1) (N := 2 * g) (by omega) (by omega)) (by rw [show (nI w1 : Int32).toNatClampNeg = w1 from nI_clamp (by omega)]; exact qa_up_at (by omega)) dX1_isSame_311 ?_
              refine lv_iload hx hb dX1_isSame_312 (lv_at hl 2 rfl) ?_
              refine va_iald hx hb hK hP _ 7 (qR2 (i := w1) (by omega) _ _) rfl (vp_in_nI (n := u1) (N := 2 * g) (by omega) (by omega)) dX1_isSame_314 ?_
              rw [show (nI u1 : Int32).toNatClampNeg = u1 from nI_clamp (by omega)]
              refine gc_topi (y := nI (D9 w1 u1)) rfl ?_
              refine lv_goto (tgt := 319) hx hb dX1_isSame_315 (by decide) ?_
              refine gc_topi (y := di K w1 u1) (FT_yes hFT hLw1 hLu1 c_227) ?_
              refine lv_icmp_eq (tgt := 324) hx hb dX1_isSame_319 (by decide) (fun _ => ?_) (fun h => absurd rfl h)
              refine lv_iinc (v := nI (u1 + 1)) (lv' := [(12, .int (nI (u1 + 1))), (6, .int (p6 + 1)), (11, .int (x5 + ((1 : Int32) <<< (nI u1 &&& 31)))), (5, .int (va + gB (fo K w1 (w1 ^^^ 1)))), (10, .int (nI w1)), (9, .int su), (8, .int mo), (7, .int fe), (4, .int 0), (3, .int fo9), (2, .int (nI g)), (0, .ref sa), (1, .ref (h 0))]) hx hb dX1_isSame_324 hl (k := 2) rfl (nI_1 u1) (by decide) rfl (fun ls hl => ?_)
              refine lv_goto (tgt := 211) hx hb dX1_isSame_327 (by decide) ?_
              exact ihu1 H _ ls (by omega) ⟨(x5 + ((1 : Int32) <<< (nI u1 &&& 31))), (p6 + 1), (by rw [← mRe_add (by omega) c_227, ← e_x5]), (by rw [ct_y (q := (fun v => fo K w1 v && !decide (v = w1))) (u := u1) (by have q : ¬ u1 = w1 := fun q => c_256 (by rw [q]); simp [c_227, q]), ← nI_1, ← Int32.add_assoc, ← e_p6]), hP, hD, hS, lv_sub hl [0, 2, 3, 4, 5, 6, 7, 1, 8, 9, 10, 11, 12] rfl⟩
    · skip
      have hLS8 : S8 < 2 ^ g := gc_lt c_117 (by omega) (by omega)
      refine lv_aload hx hb dX1_isSame_120 (lv_at hl 2 rfl) ?_
      refine lv_iload hx hb dX1_isSame_122 (lv_at hl 0 rfl) ?_
      refine va_iald hx hb hK hP 10 7 rfl rfl (vp_in_nI (n := S8) (N := 2 ^ g) (by omega) (by omega)) dX1_isSame_124 ?_
      rw [show (nI S8 : Int32).toNatClampNeg = S8 from nI_clamp (by omega)]
      refine gc_topi (y := qS K S8) (hfs S8 hLS8) ?_
      refine lv_istore (lv' := [(13, .int (qS K S8)), (12, .int (nI S8)), (11, .int (nI (2 ^ g))), (10, .ref q3), (9, .int su), (8, .int mo), (7, .int fe), (6, .int 0), (5, .int 0), (4, .int 0), (3, .int fo9), (2, .int (nI g)), (0, .ref sa), (1, .ref (h 0))]) hx hb dX1_isSame_125 hl (by decide) rfl (fun ls hl => ?_)
      refine lv_iload hx hb dX1_isSame_127 (lv_at hl 0 rfl) ?_
      refine lv_if_ge (tgt := 135) hx hb dX1_isSame_129 (by decide) (fun c_129 => ?_) (fun c_129 => ?_)
      · skip
        have hs8 : satp K S8 := qS_ge c_129
        have hb8 : mBB K (-1) (-1) (nI S8) = -1 := (mBB_sat (by omega) hKg hKr30 (by omega)).mpr hs8
        have hq8 : qS K S8 = mSz (nI S8) 10 := mSz_q (by omega) hs8
        refine lv_iload hx hb dX1_isSame_135 (lv_at hl 4 rfl) ?_
        refine lv_iload hx hb dX1_isSame_137 (lv_at hl 0 rfl) ?_
        refine lv_iadd hx hb dX1_isSame_139 ?_
        refine lv_istore (lv' := [(9, .int (su + qS K S8)), (13, .int (qS K S8)), (12, .int (nI S8)), (11, .int (nI (2 ^ g))), (10, .ref q3), (8, .int mo), (7, .int fe), (6, .int 0), (5, .int 0), (4, .int 0), (3, .int fo9), (2, .int (nI g)), (0, .ref sa), (1, .ref (h 0))]) hx hb dX1_isSame_140 hl (by decide) rfl (fun ls hl => ?_)
        refine lv_iload hx hb dX1_isSame_142 (lv_at hl 1 rfl) ?_
        refine lv_iload hx hb dX1_isSame_144 (lv_at hl 5 rfl) ?_
        refine lv_icmp_le (tgt := 153) hx hb dX1_isSame_146 (by decide) (fun c_146 => ?_) (fun c_146 => ?_)
        · skip
          refine lv_iload hx hb dX1_isSame_153 (lv_at hl 6 rfl) ?_
          refine lv_if_lt (tgt := 165) hx hb dX1_isSame_155 (by decide) (fun c_155 => ?_) (fun c_155 => ?_)
          · skip
            have hfe9 : fe = -1 := by rw [e_fe]; exact (mFe_ge (by omega) hKg hKr30 (by omega)).mp (by rw [← e_fe]; exact c_155)
            refine lv_iload hx hb dX1_isSame_165 (lv_at hl 1 rfl) ?_
            refine lv_istore (lv' := [(7, .int (qS K S8)), (9, .int (su + qS K S8)), (13, .int (qS K S8)), (12, .int (nI S8)), (11, .int (nI (2 ^ g))), (10, .ref q3), (8, .int mo), (6, .int 0), (5, .int 0), (4, .int 0), (3, .int fo9), (2, .int (nI g)), (0, .ref sa), (1, .ref (h 0))]) hx hb dX1_isSame_167 hl (by decide) rfl (fun ls hl => ?_)
            refine lv_iinc (v := nI (S8 + 1)) (lv' := [(12, .int (nI (S8 + 1))), (7, .int (qS K S8)), (9, .int (su + qS K S8)), (13, .int (qS K S8)), (11, .int (nI (2 ^ g))), (10, .ref q3), (8, .int mo), (6, .int 0), (5, .int 0), (4, .int 0), (3, .int fo9), (2, .int (nI g)), (0, .ref sa), (1, .ref (h 0))]) hx hb dX1_isSame_169 hl (k := 3) rfl (nI_1 S8) (by decide) rfl (fun ls hl => ?_)
            refine lv_goto (tgt := 113) hx hb dX1_isSame_172 (by decide) ?_
            exact ihS8 H _ ls (by omega) ⟨(su + qS K S8), mo, (qS K S8), (by rw [mSu, if_pos hb8, ← e_su, ← hq8]), (by rw [mMo, if_pos hb8, ← hq8, ← e_mo, if_neg (i32_nlt c_146)]), (by rw [mFe, ← e_fe, ← hq8, if_pos ⟨hb8, Or.inl hfe9⟩]), hP, hD, hS, lv_sub hl [0, 4, 5, 2, 6, 1, 7, 8, 9, 10, 11, 12, 13] rfl⟩
          · skip
            refine lv_iload hx hb dX1_isSame_158 (lv_at hl 1 rfl) ?_
            refine lv_iload hx hb dX1_isSame_160 (lv_at hl 6 rfl) ?_
            refine lv_icmp_ge (tgt := 169) hx hb dX1_isSame_162 (by decide) (fun c_162 => ?_) (fun c_162 => ?_)
            · skip
              refine lv_iinc (v := nI (S8 + 1)) (lv' := [(12, .int (nI (S8 + 1))), (9, .int (su + qS K S8)), (13, .int (qS K S8)), (11, .int (nI (2 ^ g))), (10, .ref q3), (8, .int mo), (7, .int fe), (6, .int 0), (5, .int 0), (4, .int 0), (3, .int fo9), (2, .int (nI g)), (0, .ref sa), (1, .ref (h 0))]) hx hb dX1_isSame_169 hl (k := 2) rfl (nI_1 S8) (by decide) rfl (fun ls hl => ?_)
              refine lv_goto (tgt := 113) hx hb dX1_isSame_172 (by decide) ?_
              exact ihS8 H _ ls (by omega) ⟨(su + qS K S8), mo, fe, (by rw [mSu, if_pos hb8, ← e_su, ← hq8]), (by rw [mMo, if_pos hb8, ← hq8, ← e_mo, if_neg (i32_nlt c_146)]), (by rw [mFe, ← e_fe, ← hq8, if_neg (fun q => q.2.elim (fun z => c_155 (by rw [z]; decide)) (fun z => i32_nlt c_162 z))]), hP, hD, hS, lv_sub hl [0, 3, 4, 1, 5, 6, 7, 8, 9, 10, 11, 12, 13] rfl⟩
            · skip
              refine lv_iload hx hb dX1_isSame_165 (lv_at hl 1 rfl) ?_
              refine lv_istore (lv' := [(7, .int (qS K S8)), (9, .int (su + qS K S8)), (13, .int (qS K S8)), (12, .int (nI S8)), (11, .int (nI (2 ^ g))), (10, .ref q3), (8, .int mo), (6, .int 0), (5, .int 0), (4, .int 0), (3, .int fo9), (2, .int (nI g)), (0, .ref sa), (1, .ref (h 0))]) hx hb dX1_isSame_167 hl (by decide) rfl (fun ls hl => ?_)
              refine lv_iinc (v := nI (S8 + 1)) (lv' := [(12, .int (nI (S8 + 1))), (7, .int (qS K S8)), (9, .int (su + qS K S8)), (13, .int (qS K S8)), (11, .int (nI (2 ^ g))), (10, .ref q3), (8, .int mo), (6, .int 0), (5, .int 0), (4, .int 0), (3, .int fo9), (2, .int (nI g)), (0, .ref sa), (1, .ref (h 0))]) hx hb dX1_isSame_169 hl (k := 3) rfl (nI_1 S8) (by decide) rfl (fun ls hl => ?_)
              refine lv_goto (tgt := 113) hx hb dX1_isSame_172 (by decide) ?_
              exact ihS8 H _ ls (by omega) ⟨(su + qS K S8), mo, (qS K S8), (by rw [mSu, if_pos hb8, ← e_su, ← hq8]), (by rw [mMo, if_pos hb8, ← hq8, ← e_mo, if_neg (i32_nlt c_146)]), (by rw [mFe, ← e_fe, ← hq8, if_pos ⟨hb8, Or.inr (i32_lt c_162)⟩]), hP, hD, hS, lv_sub hl [0, 4, 5, 2, 6, 1, 7, 8, 9, 10, 11, 12, 13] rfl⟩
        · skip
          refine lv_iload hx hb dX1_isSame_149 (lv_at hl 1 rfl) ?_
          refine lv_istore (lv' := [(8, .int (qS K S8)), (9, .int (su + qS K S8)), (13, .int (qS K S8)), (12, .int (nI S8)), (11, .int (nI (2 ^ g))), (10, .ref q3), (7, .int fe), (6, .int 0), (5, .int 0), (4, .int 0), (3, .int fo9), (2, .int (nI g)), (0, .ref sa), (1, .ref (h 0))]) hx hb dX1_isSame_151 hl (by decide) rfl (fun ls hl => ?_)
          refine lv_iload hx hb dX1_isSame_153 (lv_at hl 6 rfl) ?_
          refine lv_if_lt (tgt := 165) hx hb dX1_isSame_155 (by decide) (fun c_155 => ?_) (fun c_155 => ?_)
          · skip
            have hfe9 : fe = -1 := by rw [e_fe]; exact (mFe_ge (by omega) hKg hKr30 (by omega)).mp (by rw [← e_fe]; exact c_155)
            refine lv_iload hx hb dX1_isSame_165 (lv_at hl 2 rfl) ?_
            refine lv_istore (lv' := [(7, .int (qS K S8)), (8, .int (qS K S8)), (9, .int (su + qS K S8)), (13, .int (qS K S8)), (12, .int (nI S8)), (11, .int (nI (2 ^ g))), (10, .ref q3), (6, .int 0), (5, .int 0), (4, .int 0), (3, .int fo9), (2, .int (nI g)), (0, .ref sa), (1, .ref (h 0))]) hx hb dX1_isSame_167 hl (by decide) rfl (fun ls hl => ?_)
            refine lv_iinc (v := nI (S8 + 1)) (lv' := [(12, .int (nI (S8 + 1))), (7, .int (qS K S8)), (8, .int (qS K S8)), (9, .int (su + qS K S8)), (13, .int (qS K S8)), (11, .int (nI (2 ^ g))), (10, .ref q3), (6, .int 0), (5, .int 0), (4, .int 0), (3, .int fo9), (2, .int (nI g)), (0, .ref sa), (1, .ref (h 0))]) hx hb dX1_isSame_169 hl (k := 4) rfl (nI_1 S8) (by decide) rfl (fun ls hl => ?_)
            refine lv_goto (tgt := 113) hx hb dX1_isSame_172 (by decide) ?_
            exact ihS8 H _ ls (by omega) ⟨(su + qS K S8), (qS K S8), (qS K S8), (by rw [mSu, if_pos hb8, ← e_su, ← hq8]), (by rw [mMo, if_pos hb8, ← hq8, ← e_mo, if_pos (i32_lt c_146)]), (by rw [mFe, ← e_fe, ← hq8, if_pos ⟨hb8, Or.inl hfe9⟩]), hP, hD, hS, lv_sub hl [0, 5, 6, 3, 2, 1, 7, 8, 9, 10, 11, 12, 13] rfl⟩
          · skip
            refine lv_iload hx hb dX1_isSame_158 (lv_at hl 2 rfl) ?_
            refine lv_iload hx hb dX1_isSame_160 (lv_at hl 6 rfl) ?_
            refine lv_icmp_ge (tgt := 169) hx hb dX1_isSame_162 (by decide) (fun c_162 => ?_) (fun c_162 => ?_)
            · skip
              refine lv_iinc (v := nI (S8 + 1)) (lv' := [(12, .int (nI (S8 + 1))), (8, .int (qS K S8)), (9, .int (su + qS K S8)), (13, .int (qS K S8)), (11, .int (nI (2 ^ g))), (10, .ref q3), (7, .int fe), (6, .int 0), (5, .int 0), (4, .int 0), (3, .int fo9), (2, .int (nI g)), (0, .ref sa), (1, .ref (h 0))]) hx hb dX1_isSame_169 hl (k := 3) rfl (nI_1 S8) (by decide) rfl (fun ls hl => ?_)
              refine lv_goto (tgt := 113) hx hb dX1_isSame_172 (by decide) ?_
              exact ihS8 H _ ls (by omega) ⟨(su + qS K S8), (qS K S8), fe, (by rw [mSu, if_pos hb8, ← e_su, ← hq8]), (by rw [mMo, if_pos hb8, ← hq8, ← e_mo, if_pos (i32_lt c_146)]), (by rw [mFe, ← e_fe, ← hq8, if_neg (fun q => q.2.elim (fun z => c_155 (by rw [z]; decide)) (fun z => i32_nlt c_162 z))]), hP, hD, hS, lv_sub hl [0, 4, 5, 2, 1, 6, 7, 8, 9, 10, 11, 12, 13] rfl⟩
            · skip
              refine lv_iload hx hb dX1_isSame_165 (lv_at hl 2 rfl) ?_
              refine lv_istore (lv' := [(7, .int (qS K S8)), (8, .int (qS K S8)), (9, .int (su + qS K S8)), (13, .int (qS K S8)), (12, .int (nI S8)), (11, .int (nI (2 ^ g))), (10, .ref q3), (6, .int 0), (5, .int 0), (4, .int 0), (3, .int fo9), (2, .int (nI g)), (0, .ref sa), (1, .ref (h 0))]) hx hb dX1_isSame_167 hl (by decide) rfl (fun ls hl => ?_)
              refine lv_iinc (v := nI (S8 + 1)) (lv' := [(12, .int (nI (S8 + 1))), (7, .int (qS K S8)), (8, .int (qS K S8)), (9, .int (su + qS K S8)), (13, .int (qS K S8)), (11, .int (nI (2 ^ g))), (10, .ref q3), (6, .int 0), (5, .int 0), (4, .int 0), (3, .int fo9), (2, .int (nI g)), (0, .ref sa), (1, .ref (h 0))]) hx hb dX1_isSame_169 hl (k := 4) rfl (nI_1 S8) (by decide) rfl (fun ls hl => ?_)
              refine lv_goto (tgt := 113) hx hb dX1_isSame_172 (by decide) ?_
              exact ihS8 H _ ls (by omega) ⟨(su + qS K S8), (qS K S8), (qS K S8), (by rw [mSu, if_pos hb8, ← e_su, ← hq8]), (by rw [mMo, if_pos hb8, ← hq8, ← e_mo, if_pos (i32_lt c_146)]), (by rw [mFe, ← e_fe, ← hq8, if_pos ⟨hb8, Or.inr (i32_lt c_162)⟩]), hP, hD, hS, lv_sub hl [0, 5, 6, 3, 2, 1, 7, 8, 9, 10, 11, 12, 13] rfl⟩
      · skip
        have hs8 : ¬ satp K S8 := qS_nge c_129
        have hb8 : ¬ mBB K (-1) (-1) (nI S8) = -1 := fun q => hs8 ((mBB_sat (by omega) hKg hKr30 (by omega)).mp q)
        refine lv_goto (tgt := 169) hx hb dX1_isSame_132 (by decide) ?_
        refine lv_iinc (v := nI (S8 + 1)) (lv' := [(12, .int (nI (S8 + 1))), (13, .int (qS K S8)), (11, .int (nI (2 ^ g))), (10, .ref q3), (9, .int su), (8, .int mo), (7, .int fe), (6, .int 0), (5, .int 0), (4, .int 0), (3, .int fo9), (2, .int (nI g)), (0, .ref sa), (1, .ref (h 0))]) hx hb dX1_isSame_169 hl (k := 1) rfl (nI_1 S8) (by decide) rfl (fun ls hl => ?_)
        refine lv_goto (tgt := 113) hx hb dX1_isSame_172 (by decide) ?_
        exact ihS8 H _ ls (by omega) ⟨su, mo, fe, (by rw [mSu, if_neg hb8, ← e_su]; exact (Int32.add_zero _).symm), (by rw [mMo, if_neg hb8, ← e_mo]), (by rw [mFe, if_neg (fun q => hb8 q.1), ← e_fe]), hP, hD, hS, lv_sub hl [0, 2, 3, 4, 5, 6, 7, 8, 9, 10, 11, 12, 13] rfl⟩
  · skip
    have hLi1 : i1 < r := gc_lt c_40 (by omega) (by omega)
    refine lv_iconst (v := 0) hx hb dX1_isSame_43 (by decide) ?_
    refine lv_istore (lv' := [(11, .int 0), (10, .int (nI i1)), (9, .int 0), (8, .int (-1)), (7, .int (-1)), (6, .int 0), (5, .int 0), (4, .int 0), (3, .int fo9), (2, .int (nI g)), (0, .ref sa), (1, .ref (h 0))]) hx hb dX1_isSame_44 hl (by decide) rfl (fun ls hl => ?_)
    refine gc_loop (3) (fun (w9 : Nat) (H : Heap) (locs : List Loc) (ls : Array Slot) => va_P (dC, dI) vwCl ((gcW h kc f1 f2 dr cl tr se (nI g) (nI r) inf (nI ct) ++ ([(sa, .inr (1, [.int (nI g), .ref ru, .ref q2, .ref q3, .int (nI ct)]))] ++ ([(ru, qa_R kA r (qa_up r rr))] ++ ([(q2, qa_R kA (2 * g) (qa_up (2 * g) sr))] ++ ([(q3, .inl (kI, 2 ^ g, .inl fs))]))))) ++ (qT r rr (qE kI 3 (qF K)) ++ qT (2 * g) sr (qE kI (2 * g) (qD D9)))) H ∧ va_D A ((gcW h kc f1 f2 dr cl tr se (nI g) (nI r) inf (nI ct) ++ ([(sa, .inr (1, [.int (nI g), .ref ru, .ref q2, .ref q3, .int (nI ct)]))] ++ ([(ru, qa_R kA r (qa_up r rr))] ++ ([(q2, qa_R kA (2 * g) (qa_up (2 * g) sr))] ++ ([(q3, .inl (kI, 2 ^ g, .inl fs))]))))) ++ (qT r rr (qE kI 3 (qF K)) ++ qT (2 * g) sr (qE kI (2 * g) (qD D9)))) ∧ va_S A s.heap H locs ∧ lv_has ls 19 [(11, .int (nI w9)), (10, .int (nI i1)), (9, .int 0), (8, .int (-1)), (7, .int (-1)), (6, .int 0), (5, .int 0), (4, .int 0), (3, .int fo9), (2, .int (nI g)), (0, .ref sa), (1, .ref (h 0))]) 0 (Nat.zero_le _) ⟨hP, hD, hS, lv_sub hl [0, 1, 2, 3, 4, 5, 6, 7, 8, 9, 10, 11] rfl⟩ ?_
    intro w9 H locs ls hw9 hI ihw9
    obtain ⟨hP, hD, hS, hl⟩ := hI
    refine lv_iload hx hb dX1_isSame_46 (lv_at hl 0 rfl) ?_
    refine lv_iconst (v := 3) hx hb dX1_isSame_48 (by decide) ?_
    refine lv_icmp_ge (tgt := 81) hx hb dX1_isSame_49 (by decide) (fun c_49 => ?_) (fun c_49 => ?_)
    · skip
      have hEw9 : w9 = 3 := gc_ge c_49 (by omega) (by omega)
      refine lv_iload_n hx hb dX1_isSame_81 rfl (lv_at hl 8 rfl) ?_
      refine lv_aload_n hx hb dX1_isSame_82 rfl (lv_at hl 10 rfl) ?_
      refine va_get (D := (dC, dI)) (ci := 1) (v := .ref ru) (C := RX1) (T := TX1) (N := 5) hx hb hts hin1 hown hK hP 7 rfl rfl 1 (by decide) (hts (.fieldLink RX1 9 "GuestChairsLaw$Sim" "rules" "[[I") (by decide +kernel)) (fun _ h9 => h9) rfl dX1_isSame_83 ?_
      refine lv_iload hx hb dX1_isSame_86 (lv_at hl 1 rfl) ?_
      refine qa_ald hx hb hK hP 8 6 rfl rfl (v := rr i1) (vp_in_nI (n := i1) (N := r) (by omega) (by omega)) (by rw [show (nI i1 : Int32).toNatClampNeg = i1 from nI_clamp (by omega)]; exact qa_up_at (by omega)) dX1_isSame_88 ?_
      refine lv_iconst (v := 2) hx hb dX1_isSame_89 (by decide) ?_
      refine va_iald hx hb hK hP _ 7 (qR1 (i := i1) (by omega) _ _) rfl (vp_in_nI (n := 2) (N := 3) (by omega) (by omega)) dX1_isSame_90 ?_
      rw [show (2 : Int32).toNatClampNeg = 2 from rfl]
      refine gc_topi (y := gB (K.2.2.2 i1)) rfl ?_
      refine lv_iadd hx hb dX1_isSame_91 ?_
      refine lv_istore_n (lv' := [(3, .int (fo9 + gB (K.2.2.2 i1))), (11, .int (nI w9)), (10, .int (nI i1)), (9, .int 0), (8, .int (-1)), (7, .int (-1)), (6, .int 0), (5, .int 0), (4, .int 0), (2, .int (nI g)), (0, .ref sa), (1, .ref (h 0))]) hx hb dX1_isSame_92 rfl hl (by decide) rfl (fun ls hl => ?_)
      refine lv_iinc (v := nI (i1 + 1)) (lv' := [(10, .int (nI (i1 + 1))), (3, .int (fo9 + gB (K.2.2.2 i1))), (11, .int (nI w9)), (9, .int 0), (8, .int (-1)), (7, .int (-1)), (6, .int 0), (5, .int 0), (4, .int 0), (2, .int (nI g)), (0, .ref sa), (1, .ref (h 0))]) hx hb dX1_isSame_93 hl (k := 2) rfl (nI_1 i1) (by decide) rfl (fun ls hl => ?_)
      refine lv_goto (tgt := 33) hx hb dX1_isSame_96 (by decide) ?_
      exact ihi1 H _ ls (by omega) ⟨(fo9 + gB (K.2.2.2 i1)), (by rw [mCi, ← e_fo9]), hP, hD, hS, lv_sub hl [0, 3, 4, 5, 6, 7, 8, 1, 9, 10, 11] rfl⟩
    · skip
      have hLw9 : w9 < 3 := gc_lt c_49 (by omega) (by omega)
      refine lv_aload_n hx hb dX1_isSame_52 rfl (lv_at hl 11 rfl) ?_
      refine lv_iload hx hb dX1_isSame_53 (lv_at hl 1 rfl) ?_
      refine lv_iload hx hb dX1_isSame_55 (lv_at hl 0 rfl) ?_
      have hPc : va_P (dC, dI) vwCl (gcW h kc f1 f2 dr cl tr se (nI g) (nI r) inf (nI ct)) _ := hP.sub [0, 1, 2, 3, 4, 5, 6] rfl
      have hKc : va_K (dC, dI) vwCl (gcT kc) s := hK.sub [0, 1, 2, 3, 4, 5] rfl
      refine va_calli (va_runV (As := [.int (nI i1), .int (nI w9)]) (rest := []) ⟨hx, hb, hml, hown, hts⟩ (c_X0_told l dC dI h kc f1 f2 dr cl tr se g r inf ct i1 w9 (by first | assumption | omega) (by first | assumption | omega) (by first | assumption | omega)) (cwV 2 hts gX1_isSame_X0_told rfl rfl rfl (by decide +kernel) ⟨Nat.le_of_ble_eq_true rfl, Nat.le_of_ble_eq_true rfl⟩) ⟨gcPR_blind, va_recv hK hP (ci := 0) (q0 := 0) rfl rfl, fun U hU hW => ⟨rfl, by rw [hU]; exact hPc, va_K.moved hW.alike hKc⟩⟩ rfl rfl hl.1 rfl (lv_room (Nat.le_of_ble_eq_true rfl)) dX1_isSame_57 ⟨by show _ ≤ (24 : Nat); omega, by show _ ≤ (372 : Nat); omega⟩) hS (fun q _ h => h.elim) (fun q h => h.elim) (fun r35 u t H locs ht hvm hw hB hz1 hk1 hS => ?_)
      have hP := gc_keep hP hk1
      have hw : r35 = gTo f1 f2 inf i1 w9 := hw
      subst hw
      clear hw
      clear hB hz1 hk1 ht hvm
      clear hPc hKc
      refine gc_topi (y := (qF K) i1 w9) (by rw [told_eq hOK hr30 hLi1 hLw9, qF_td hLw9]) ?_
      refine lv_aload_n hx hb dX1_isSame_60 rfl (lv_at hl 10 rfl) ?_
      refine va_get (D := (dC, dI)) (ci := 1) (v := .ref ru) (C := RX1) (T := TX1) (N := 5) hx hb hts hin1 hown hK hP 7 rfl rfl 1 (by decide) (hts (.fieldLink RX1 9 "GuestChairsLaw$Sim" "rules" "[[I") (by decide +kernel)) (fun _ h9 => h9) rfl dX1_isSame_61 ?_
      refine lv_iload hx hb dX1_isSame_64 (lv_at hl 1 rfl) ?_
      refine qa_ald hx hb hK hP 8 6 rfl rfl (v := rr i1) (vp_in_nI (n := i1) (N := r) (by omega) (by omega)) (by rw [show (nI i1 : Int32).toNatClampNeg = i1 from nI_clamp (by omega)]; exact qa_up_at (by omega)) dX1_isSame_66 ?_
      refine lv_iload hx hb dX1_isSame_67 (lv_at hl 0 rfl) ?_
      refine va_iald hx hb hK hP _ 7 (qR1 (i := i1) (by omega) _ _) rfl (vp_in_nI (n := w9) (N := 3) (by omega) (by omega)) dX1_isSame_69 ?_
      rw [show (nI w9 : Int32).toNatClampNeg = w9 from nI_clamp (by omega)]
      refine lv_icmp_eq (tgt := 75) hx hb dX1_isSame_70 (by decide) (fun _ => ?_) (fun h => absurd rfl h)
      refine lv_iinc (v := nI (w9 + 1)) (lv' := [(11, .int (nI (w9 + 1))), (10, .int (nI i1)), (9, .int 0), (8, .int (-1)), (7, .int (-1)), (6, .int 0), (5, .int 0), (4, .int 0), (3, .int fo9), (2, .int (nI g)), (0, .ref sa), (1, .ref (h 0))]) hx hb dX1_isSame_75 hl (k := 0) rfl (nI_1 w9) (by decide) rfl (fun ls hl => ?_)
      refine lv_goto (tgt := 46) hx hb dX1_isSame_78 (by decide) ?_
      exact ihw9 H _ ls (by omega) ⟨hP, hD, hS, lv_sub hl [0, 1, 2, 3, 4, 5, 6, 7, 8, 9, 10, 11] rfl⟩
