/-! THE LAW, ROUND BY ROUND. -/
/-- at the head of a round -/
def LSt (dC : Nat → ClassId) (dI : Nat → Nat → Nat) (A : Nat → Prop) (s : State) (b : Nat) (aG : Nat → Nat) (kG : Nat → ClassId) (sa : Nat) (kA kI : ClassId) (t : Nat) (H : Heap) (locs : List Loc) (ls : Array Slot) : Prop :=
  ∃ (K : Bk) (g r : Nat) (f1 f2 dr cl tr se : Nat → Int32) (inf : Int32) (ct ru : Nat) (rr : Nat → Nat), 1 ≤ g ∧ Inv K g r f1 f2 inf dr cl se ct ∧ va_P (dC, dI) vwCl ((gcW aG kG f1 f2 dr cl tr se (nI g) (nI r) inf (nI ct) ++ ([(sa, .inr (1, [.int (nI g), .ref ru, .null, .null, .int 0]))] ++ ([(ru, qa_R kA r (qa_up r rr))]))) ++ (qT r rr (qE kI 3 (qF K)) ++ [])) H ∧ va_D A ((gcW aG kG f1 f2 dr cl tr se (nI g) (nI r) inf (nI ct) ++ ([(sa, .inr (1, [.int (nI g), .ref ru, .null, .null, .int 0]))] ++ ([(ru, qa_R kA r (qa_up r rr))]))) ++ (qT r rr (qE kI 3 (qF K)) ++ [])) ∧ va_S A s.heap H locs ∧ lv_has ls 17 [(3, .int (nI t)), (0, .ref b), (1, .ref (aG 0)), (2, .ref sa)]
/-- within a round, where roads meet again -/
def JSt (dC : Nat → ClassId) (dI : Nat → Nat → Nat) (A : Nat → Prop) (s : State) (aG : Nat → Nat) (kG : Nat → ClassId) (sa : Nat) (kA kI : ClassId) (g q ct : Nat) (H : Heap) (locs : List Loc) : Prop :=
  ∃ (K : Bk) (r : Nat) (f1 f2 dr cl tr se : Nat → Int32) (inf : Int32) (ru : Nat) (rr : Nat → Nat), q ≤ r ∧ Inv K g r f1 f2 inf dr cl se ct ∧ va_P (dC, dI) vwCl ((gcW aG kG f1 f2 dr cl tr se (nI g) (nI r) inf (nI ct) ++ ([(sa, .inr (1, [.int (nI g), .ref ru, .null, .null, .int 0]))] ++ ([(ru, qa_R kA r (qa_up r rr))]))) ++ (qT r rr (qE kI 3 (qF K)) ++ [])) H ∧ va_D A ((gcW aG kG f1 f2 dr cl tr se (nI g) (nI r) inf (nI ct) ++ ([(sa, .inr (1, [.int (nI g), .ref ru, .null, .null, .int 0]))] ++ ([(ru, qa_R kA r (qa_up r rr))]))) ++ (qT r rr (qE kI 3 (qF K)) ++ [])) ∧ va_S A s.heap H locs
set_option maxHeartbeats 16000000 in
set_option maxRecDepth 100000 in
theorem law_round {p : Program} {e : Env} {s : State} {m : MethodId} {below : List Frame} {meth : Method} {c : Code} (l : Launch) {b L : Nat} {xs : Nat → Int32} (hL : L ≤ 260) (C0 : lw_At p s m meth c b L xs) {dC : Nat → ClassId} {dI : Nat → Nat → Nat} {A : Nat → Prop} (hA : ∀ q, s.heap.size ≤ q → A q) (hAb : ∀ q, A q → s.heap.size ≤ q) {aG : Nat → Nat} {kG : Nat → ClassId} {sa : Nat} {kA kI : ClassId} (hK : va_K (dC, dI) vwCl (gcT kG ++ [(kA, .array .int), (kI, .int)]) s) {tt : Nat} (htt : tt ≤ 8) {d : Drawn} (hd : s.drawn.sameBut d lw_cs) {H : Heap} {locs : List Loc} {ls : Array Slot} (hLS : LSt dC dI A s b aG kG sa kA kI tt H locs ls) (ih : ∀ (d1 : Drawn) (H1 : Heap) (locs1 : List Loc) (ls1 : Array Slot), tt < 8 → s.drawn.sameBut d1 lw_cs → LSt dC dI A s b aG kG sa kA kI (tt + 1) H1 locs1 ls1 → W p l e room_1 (s.setDrawn d1) m #[Value.ref b] below meth c H1 locs1 (33 + 6 * (tt + 1)) (1567 + 102 * (tt + 1)) (lw_Z below #[Value.ref b] s) (F0 m 22 ls1 [])) : W p l e room_1 (s.setDrawn d) m #[Value.ref b] below meth c H locs (33 + 6 * tt) (1567 + 102 * tt) (lw_Z below #[Value.ref b] s) (F0 m 22 ls []) := by
  obtain ⟨hx, hb, hr, hml, hown, hts0, hX, hbl, hlocks, hgv⟩ := C0
  have hown : s.vm.findClass RL = some m.cls := hown
  have hts1 : ∀ w ∈ wsL_law, w.before #[Value.ref b] s = true := fun w h => hts0 w (wsL_law_in w h)
  have hts := dr_words hts1 d
  have hKd : va_K (dC, dI) vwCl (gcT kG ++ [(kA, .array .int), (kI, .int)]) (s.setDrawn d) := hK
  have hO : va_AOA .int s := va_AOA.of (hts0 (.arrayOver (.array .int)) (by decide +kernel))
  have hbA : ¬ A b := fun h => absurd (hAb b h) (Nat.not_le.mpr hbl)
  have hL31 : L < 2 ^ 31 := by omega
  obtain ⟨K, g, r, f1, f2, dr, cl, tr, se, inf, ct, ru, rr, hg1, hI, hP, hD, hS, hl⟩ := hLS
  have hin1 : ∀ w ∈ wsX10, w ∈ wsL_law := inlX1
  refine lv_iload_n hx hb dL_law_22 rfl (lv_at hl 0 rfl) ?_
  refine lv_bipush (v := 8) hx hb dL_law_23 (by decide) ?_
  refine lv_icmp_ge (tgt := 774) hx hb dL_law_25 (by decide) (fun c_25 => ?_) (fun c_25 => ?_)
  · skip
    refine lv_aload_n hx hb dL_law_774 rfl (lv_at hl 3 rfl) ?_
    refine lv_aload_n hx hb dL_law_775 rfl (lv_at hl 2 rfl) ?_
    have hPc : va_P (dC, dI) vwCl ((gcW aG kG f1 f2 dr cl tr se (nI g) (nI r) inf (nI ct) ++ ([(sa, .inr (1, [.int (nI g), .ref ru, .null, .null, .int 0]))] ++ ([(ru, qa_R kA r (qa_up r rr))]))) ++ (qT r rr (qE kI 3 (qF K)) ++ [])) _ := hP.part [0, 1, 2, 3, 4, 5, 6, 7, 8] rfl
    have hKc : va_K (dC, dI) vwCl (gcT kG ++ [(kA, .array .int), (kI, .int)]) s := hK.sub [0, 1, 2, 3, 4, 5, 6, 7] rfl
    have hDc : va_D A ((gcW aG kG f1 f2 dr cl tr se (nI g) (nI r) inf (nI ct) ++ ([(sa, .inr (1, [.int (nI g), .ref ru, .null, .null, .int 0]))] ++ ([(ru, qa_R kA r (qa_up r rr))]))) ++ (qT r rr (qE kI 3 (qF K)) ++ [])) := hD.part [0, 1, 2, 3, 4, 5, 6, 7, 8] (by decide) rfl
    have hFc := va_freeP (cx := (gcW aG kG f1 f2 dr cl tr se (nI g) (nI r) inf (nI ct) ++ ([(sa, .inr (1, [.int (nI g), .ref ru, .null, .null, .int 0]))] ++ ([(ru, qa_R kA r (qa_up r rr))])))) hD hS hA [0, 1, 2, 3, 4, 5, 6, 7, 8] rfl
    refine va_calliD hd (va_runV_D (As := [.ref (aG 0)]) (rest := []) ⟨hx, hb, hml, hown, hts⟩ (c_X1_isSame l dC dI aG kG f1 f2 dr cl tr se g r inf ct sa ru kA kI rr K H.size (by first | assumption | omega) (by first | assumption | omega)) (cwV 1 hts gL_law_X1_isSame rfl rfl rfl (by decide +kernel) ⟨Nat.le_of_ble_eq_true rfl, Nat.le_of_ble_eq_true rfl⟩) ⟨qaPM_blind, va_recv hK hP (ci := 1) (q0 := 7) rfl rfl, fun U hU hW => ⟨rfl, by rw [hU], by rw [hU]; exact hPc, va_K.moved hW.alike hKc, hDc.weaken (fun _ _ _ _ => trivial), va_AOA.moved hW.alike hO⟩⟩ rfl rfl hl.1 rfl (lv_room (Nat.le_of_ble_eq_true rfl)) dL_law_776 ⟨by show _ ≤ (600172 : Nat); omega, by show _ ≤ (7300668 : Nat); omega⟩) hS (fun q _ h => hFc q h) hFc (fun r1 u t H locs ht hvm hw hB hz1 hk1 hS d776 hd776 => ?_)
    have hts := dr_words hts1 d776
    have hKd : va_K (dC, dI) vwCl (gcT kG ++ [(kA, .array .int), (kI, .int)]) (s.setDrawn d776) := hK
    have hw : r1 = 1 := hw
    subst hw
    clear hw hB hz1 hk1 ht hvm hFc hDc hPc hKc hP hD
    refine gc_topi (y := 1) (rfl) ?_
    refine va_forget (fun q hq => hAb _ (hS.2.2 q hq)) ?_
    refine W.widen (k := 600172) (n := 7300668) (by omega) (by omega) ?_
    exact lw_ret hd776 hx hb hr hlocks dL_law_779
  · skip
    have ht8 : tt < 8 := Nat.not_le.mp (fun q => c_25 (nI_le (a := 8) q (by omega)))
    refine lv_aload_n hx hb dL_law_28 rfl (lv_at hl 1 rfl) ?_
    refine lv_iload_n hx hb dL_law_29 rfl (lv_at hl 0 rfl) ?_
    have hXc : va_X b L xs s H := hX.kept (hS.2.1 b hbl hbA)
    have hbc : b < H.size := Nat.lt_of_lt_of_le hbl hS.1
    refine va_calli (va_runS (As := [.ref b, .int (nI tt)]) (rest := []) ⟨hx, hb, hml, hown, hts⟩ (c_L_cell l tt b L xs (by first | assumption | omega) (by omega)) (va_cwS 2 hts gL_law_L_cell rfl rfl rfl (by decide +kernel) ⟨Nat.le_of_ble_eq_true rfl, Nat.le_of_ble_eq_true rfl⟩) ⟨qaPC_blind, fun U hU hW => ⟨rfl, va_X.moved hW.alike (by rw [hU]; exact hXc), by rw [hU]; exact hbc⟩⟩ rfl rfl hl.1 rfl (lv_room (Nat.le_of_ble_eq_true rfl)) dL_law_30 ⟨by show _ ≤ (600172 : Nat); omega, by show _ ≤ (7300668 : Nat); omega⟩) hS (fun q _ h => h.elim) (fun q h => h.elim) (fun r2 u t H locs ht hvm hw hB hz1 hk1 hS => ?_)
    clear hXc hbc
    have hP := gc_keep hP hk1
    have hw : r2 = ceV L xs tt := hw
    subst hw
    clear hw
    clear hB hz1 hk1 ht hvm
    refine lv_sipush (v := 229) hx hb dL_law_33 (by decide) ?_
    refine lv_iload_n hx hb dL_law_36 rfl (lv_at hl 0 rfl) ?_
    refine lv_imul hx hb dL_law_37 ?_
    refine lv_iadd hx hb dL_law_38 ?_
    refine lv_topi (fun xx e_xx => ?_)
    refine lv_istore (lv' := [(4, .int xx), (3, .int (nI tt)), (0, .ref b), (1, .ref (aG 0)), (2, .ref sa)]) hx hb dL_law_39 hl (by decide) rfl (fun ls hl => ?_)
    refine lv_iconst (v := 0) hx hb dL_law_41 (by decide) ?_
    refine lv_istore (lv' := [(5, .int 0), (4, .int xx), (3, .int (nI tt)), (0, .ref b), (1, .ref (aG 0)), (2, .ref sa)]) hx hb dL_law_42 hl (by decide) rfl (fun ls hl => ?_)
    refine W.widen (k := 33 + 6 * tt) (n := 1567 + 102 * tt) (by omega) (by omega) ?_
    refine gc_loopG 2 34 (2) (fun (j : Nat) (H : Heap) (locs : List Loc) (ls : Array Slot) => ∃ (Kq : Bk) (gq : Nat) (rq : Nat) (f1q : Nat → Int32) (f2q : Nat → Int32) (drq : Nat → Int32) (clq : Nat → Int32) (trq : Nat → Int32) (seq : Nat → Int32) (infq : Int32) (ctq : Nat) (ruq : Nat) (rrq : Nat → Nat), (1 ≤ gq) ∧ (Inv Kq gq rq f1q f2q infq drq clq seq ctq) ∧ va_P (dC, dI) vwCl ((gcW aG kG f1q f2q drq clq trq seq (nI gq) (nI rq) infq (nI ctq) ++ ([(sa, .inr (1, [.int (nI gq), .ref ruq, .null, .null, .int 0]))] ++ ([(ruq, qa_R kA rq (qa_up rq rrq))]))) ++ (qT rq rrq (qE kI 3 (qF Kq)) ++ [])) H ∧ va_D A ((gcW aG kG f1q f2q drq clq trq seq (nI gq) (nI rq) infq (nI ctq) ++ ([(sa, .inr (1, [.int (nI gq), .ref ruq, .null, .null, .int 0]))] ++ ([(ruq, qa_R kA rq (qa_up rq rrq))]))) ++ (qT rq rrq (qE kI 3 (qF Kq)) ++ [])) ∧ va_S A s.heap H locs ∧ lv_has ls 17 [(5, .int (nI j)), (4, .int xx), (3, .int (nI tt)), (0, .ref b), (1, .ref (aG 0)), (2, .ref sa)]) ⟨K, g, r, f1, f2, dr, cl, tr, se, inf, ct, ru, rr, (hg1), (hI), hP, hD, hS, lv_sub hl [0, 1, 2, 3, 4, 5] rfl⟩ ?_
    intro j H locs ls hj hI ihj
    obtain ⟨Kq, gq, rq, f1q, f2q, drq, clq, trq, seq, infq, ctq, ruq, rrq, hg1q, hIq, hP, hD, hS, hl⟩ := hI
    refine lv_iload hx hb dL_law_44 (lv_at hl 0 rfl) ?_
    refine lv_iconst (v := 2) hx hb dL_law_46 (by decide) ?_
    refine lv_icmp_ge (tgt := 80) hx hb dL_law_47 (by decide) (fun c_47 => ?_) (fun c_47 => ?_)
    · skip
      have hEj : j = 2 := gc_ge c_47 (by omega) (by omega)
      refine W.widen (k := 37 + 6 * tt) (n := 1635 + 102 * tt) (by omega) (by omega) ?_
      obtain ⟨hg7, hr30, hOK, hz, hne, hDr, hCl, s0, hse, hct⟩ := id hIq
      have hKg := gOK_Kg hOK
      have hKr : (Kq).1 = rq := hOK.1
      have hLF : LF (Kq) gq seq ctq := by rw [hse, hct]; exact LF_of (by omega) hKg hCl s0
      have hc1024 : ctq ≤ 1024 := hLF.2
      have hKr30 : (Kq).1 ≤ 30 := by omega
      have hft : gFt clq gq = decide (0 < ctq) := by rw [hct]; exact ft_pos (by omega) hKg hCl s0
      have hcn : ctq = fb_ct (sb (Kq)) (2 ^ gq) := LF_count hKg hLF
      have hg2 : 2 ^ gq ≤ 128 := Nat.pow_le_pow_right (n := 2) (by decide) hg7
      refine lv_aload_n hx hb dL_law_80 rfl (lv_at hl 4 rfl) ?_
      refine lv_iconst (v := 0) hx hb dL_law_81 (by decide) ?_
      have hPc : va_P (dC, dI) vwCl (gcW aG kG f1q f2q drq clq trq seq (nI gq) (nI rq) infq (nI ctq)) _ := hP.sub [0, 1, 2, 3, 4, 5, 6] rfl
      have hKc : va_K (dC, dI) vwCl (gcT kG) s := hK.sub [0, 1, 2, 3, 4, 5] rfl
      refine va_calli (va_runV (As := [.int 0]) (rest := []) ⟨hx, hb, hml, hown, hts⟩ (c_X0_count l dC dI aG kG f1q f2q drq clq trq seq gq rq infq ctq 0 (by first | assumption | omega) (by first | assumption | omega)) (cwV 1 hts gL_law_X0_count rfl rfl rfl (by decide +kernel) ⟨Nat.le_of_ble_eq_true rfl, Nat.le_of_ble_eq_true rfl⟩) ⟨gcPR_blind, va_recv hK hP (ci := 0) (q0 := 0) rfl rfl, fun U hU hW => ⟨rfl, by rw [hU]; exact hPc, va_K.moved hW.alike hKc⟩⟩ rfl rfl hl.1 rfl (lv_room (Nat.le_of_ble_eq_true rfl)) dL_law_82 ⟨by show _ ≤ (600172 : Nat); omega, by show _ ≤ (7300668 : Nat); omega⟩) hS (fun q _ h => h.elim) (fun q h => h.elim) (fun r3 u t H locs ht hvm hw hB hz1 hk1 hS => ?_)
      have hP := gc_keep hP hk1
      have hw : r3 = gCo clq gq rq infq 0 := hw
      subst hw
      clear hw
      clear hB hz1 hk1 ht hvm
      clear hPc hKc
      refine gc_topi (y := nI gq) (rfl) ?_
      refine lv_istore (lv' := [(5, .int (nI gq)), (4, .int xx), (3, .int (nI tt)), (0, .ref b), (1, .ref (aG 0)), (2, .ref sa)]) hx hb dL_law_85 hl (by decide) rfl (fun ls hl => ?_)
      refine lv_aload_n hx hb dL_law_87 rfl (lv_at hl 4 rfl) ?_
      refine lv_iconst (v := 1) hx hb dL_law_88 (by decide) ?_
      have hPc : va_P (dC, dI) vwCl (gcW aG kG f1q f2q drq clq trq seq (nI gq) (nI rq) infq (nI ctq)) _ := hP.sub [0, 1, 2, 3, 4, 5, 6] rfl
      have hKc : va_K (dC, dI) vwCl (gcT kG) s := hK.sub [0, 1, 2, 3, 4, 5] rfl
      refine va_calli (va_runV (As := [.int 1]) (rest := []) ⟨hx, hb, hml, hown, hts⟩ (c_X0_count l dC dI aG kG f1q f2q drq clq trq seq gq rq infq ctq 1 (by first | assumption | omega) (by first | assumption | omega)) (cwV 1 hts gL_law_X0_count rfl rfl rfl (by decide +kernel) ⟨Nat.le_of_ble_eq_true rfl, Nat.le_of_ble_eq_true rfl⟩) ⟨gcPR_blind, va_recv hK hP (ci := 0) (q0 := 0) rfl rfl, fun U hU hW => ⟨rfl, by rw [hU]; exact hPc, va_K.moved hW.alike hKc⟩⟩ rfl rfl hl.1 rfl (lv_room (Nat.le_of_ble_eq_true rfl)) dL_law_89 ⟨by show _ ≤ (600172 : Nat); omega, by show _ ≤ (7300668 : Nat); omega⟩) hS (fun q _ h => h.elim) (fun q h => h.elim) (fun r4 u t H locs ht hvm hw hB hz1 hk1 hS => ?_)
      have hP := gc_keep hP hk1
      have hw : r4 = gCo clq gq rq infq 1 := hw
      subst hw
      clear hw
      clear hB hz1 hk1 ht hvm
      clear hPc hKc
      refine gc_topi (y := nI rq) (rfl) ?_
      refine lv_istore (lv' := [(6, .int (nI rq)), (5, .int (nI gq)), (4, .int xx), (3, .int (nI tt)), (0, .ref b), (1, .ref (aG 0)), (2, .ref sa)]) hx hb dL_law_92 hl (by decide) rfl (fun ls hl => ?_)
      refine lv_iconst (v := 0) hx hb dL_law_94 (by decide) ?_
      refine lv_istore (lv' := [(7, .int 0), (6, .int (nI rq)), (5, .int (nI gq)), (4, .int xx), (3, .int (nI tt)), (0, .ref b), (1, .ref (aG 0)), (2, .ref sa)]) hx hb dL_law_95 hl (by decide) rfl (fun ls hl => ?_)
      refine lv_iconst (v := 0) hx hb dL_law_97 (by decide) ?_
      refine lv_istore (lv' := [(8, .int 0), (7, .int 0), (6, .int (nI rq)), (5, .int (nI gq)), (4, .int xx), (3, .int (nI tt)), (0, .ref b), (1, .ref (aG 0)), (2, .ref sa)]) hx hb dL_law_98 hl (by decide) rfl (fun ls hl => ?_)
      refine lv_iconst (v := -1) hx hb dL_law_100 (by decide) ?_
      refine lv_istore (lv' := [(9, .int (-1)), (8, .int 0), (7, .int 0), (6, .int (nI rq)), (5, .int (nI gq)), (4, .int xx), (3, .int (nI tt)), (0, .ref b), (1, .ref (aG 0)), (2, .ref sa)]) hx hb dL_law_101 hl (by decide) rfl (fun ls hl => ?_)
      refine lv_iconst (v := -1) hx hb dL_law_103 (by decide) ?_
      refine lv_istore (lv' := [(10, .int (-1)), (9, .int (-1)), (8, .int 0), (7, .int 0), (6, .int (nI rq)), (5, .int (nI gq)), (4, .int xx), (3, .int (nI tt)), (0, .ref b), (1, .ref (aG 0)), (2, .ref sa)]) hx hb dL_law_104 hl (by decide) rfl (fun ls hl => ?_)
      refine lv_iconst (v := 0) hx hb dL_law_106 (by decide) ?_
      refine lv_istore (lv' := [(11, .int 0), (10, .int (-1)), (9, .int (-1)), (8, .int 0), (7, .int 0), (6, .int (nI rq)), (5, .int (nI gq)), (4, .int xx), (3, .int (nI tt)), (0, .ref b), (1, .ref (aG 0)), (2, .ref sa)]) hx hb dL_law_107 hl (by decide) rfl (fun ls hl => ?_)
      refine gc_loop (2 ^ gq) (fun (S9 : Nat) (H : Heap) (locs : List Loc) (ls : Array Slot) => ∃ (al : Nat) (su : Int32) (fe : Int32) (mo : Int32), al = fb_ct (sb Kq) S9 ∧ su = mSu Kq (-1) (-1) S9 ∧ fe = mFe Kq (-1) (-1) S9 ∧ mo = mMo Kq (-1) (-1) S9 ∧ va_P (dC, dI) vwCl ((gcW aG kG f1q f2q drq clq trq seq (nI gq) (nI rq) infq (nI ctq) ++ ([(sa, .inr (1, [.int (nI gq), .ref ruq, .null, .null, .int 0]))] ++ ([(ruq, qa_R kA rq (qa_up rq rrq))]))) ++ (qT rq rrq (qE kI 3 (qF Kq)) ++ [])) H ∧ va_D A ((gcW aG kG f1q f2q drq clq trq seq (nI gq) (nI rq) infq (nI ctq) ++ ([(sa, .inr (1, [.int (nI gq), .ref ruq, .null, .null, .int 0]))] ++ ([(ruq, qa_R kA rq (qa_up rq rrq))]))) ++ (qT rq rrq (qE kI 3 (qF Kq)) ++ [])) ∧ va_S A s.heap H locs ∧ lv_has ls 17 [(11, .int (nI S9)), (10, .int mo), (9, .int fe), (8, .int su), (7, .int (nI al)), (6, .int (nI rq)), (5, .int (nI gq)), (4, .int xx), (3, .int (nI tt)), (0, .ref b), (1, .ref (aG 0)), (2, .ref sa)]) 0 (Nat.zero_le _) ⟨0, 0, (-1), (-1), (by first | rfl | assumption | omega), (by first | rfl | assumption | omega), (by first | rfl | assumption | omega), (by first | rfl | assumption | omega), hP, hD, hS, lv_sub hl [0, 1, 2, 3, 4, 5, 6, 7, 8, 9, 10, 11] rfl⟩ ?_
      intro S9 H locs ls hS9 hI ihS9
      obtain ⟨al, su, fe, mo, e_al, e_su, e_fe, e_mo, hP, hD, hS, hl⟩ := hI
      refine lv_iload hx hb dL_law_109 (lv_at hl 0 rfl) ?_
      refine lv_iconst (v := 1) hx hb dL_law_111 (by decide) ?_
      refine lv_iload hx hb dL_law_112 (lv_at hl 6 rfl) ?_
      refine lv_ishl hx hb dL_law_114 ?_
      refine gc_topi (y := nI (2 ^ gq)) (gc_shl1 (by omega)) ?_
      refine lv_icmp_ge (tgt := 303) hx hb dL_law_115 (by decide) (fun c_115 => ?_) (fun c_115 => ?_)
      · skip
        have hES9 : S9 = 2 ^ gq := gc_ge c_115 (by omega) (by omega)
        have hal9 : nI al = nI ctq := by rw [e_al, hES9, ← hcn]
        have hal0 : al = ctq := by rw [e_al, hES9, ← hcn]
        refine lv_aload_n hx hb dL_law_303 rfl (lv_at hl 10 rfl) ?_
        have hPc : va_P (dC, dI) vwCl (gcW aG kG f1q f2q drq clq trq seq (nI gq) (nI rq) infq (nI ctq)) _ := hP.sub [0, 1, 2, 3, 4, 5, 6] rfl
        have hKc : va_K (dC, dI) vwCl (gcT kG) s := hK.sub [0, 1, 2, 3, 4, 5] rfl
        refine va_calli (va_runV (As := []) (rest := []) ⟨hx, hb, hml, hown, hts⟩ (c_X0_seatings l dC dI aG kG f1q f2q drq clq trq seq gq rq infq ctq) (cwV 0 hts gL_law_X0_seatings rfl rfl rfl (by decide +kernel) ⟨Nat.le_of_ble_eq_true rfl, Nat.le_of_ble_eq_true rfl⟩) ⟨gcPR_blind, va_recv hK hP (ci := 0) (q0 := 0) rfl rfl, fun U hU hW => ⟨rfl, by rw [hU]; exact hPc, va_K.moved hW.alike hKc⟩⟩ rfl rfl hl.1 rfl (lv_room (Nat.le_of_ble_eq_true rfl)) dL_law_304 ⟨by show _ ≤ (600172 : Nat); omega, by show _ ≤ (7300668 : Nat); omega⟩) hS (fun q _ h => h.elim) (fun q h => h.elim) (fun r5 u t H locs ht hvm hw hB hz1 hk1 hS => ?_)
        have hP := gc_keep hP hk1
        have hw : r5 = nI ctq := hw
        subst hw
        clear hw
        clear hB hz1 hk1 ht hvm
        clear hPc hKc
        refine lv_iload hx hb dL_law_307 (lv_at hl 4 rfl) ?_
        refine gc_topi (y := nI ctq) (hal9) ?_
        refine lv_icmp_ne (tgt := 412) hx hb dL_law_309 (by decide) (fun h => absurd rfl h) (fun _ => ?_)
        refine lv_aload_n hx hb dL_law_312 rfl (lv_at hl 10 rfl) ?_
        have hPc : va_P (dC, dI) vwCl (gcW aG kG f1q f2q drq clq trq seq (nI gq) (nI rq) infq (nI ctq)) _ := hP.sub [0, 1, 2, 3, 4, 5, 6] rfl
        have hKc : va_K (dC, dI) vwCl (gcT kG) s := hK.sub [0, 1, 2, 3, 4, 5] rfl
        refine va_calli (va_runV (As := []) (rest := []) ⟨hx, hb, hml, hown, hts⟩ (c_X0_fits l dC dI aG kG f1q f2q drq clq trq seq gq rq infq ctq (by first | assumption | omega) (by first | assumption | omega)) (cwV 0 hts gL_law_X0_fits rfl rfl rfl (by decide +kernel) ⟨Nat.le_of_ble_eq_true rfl, Nat.le_of_ble_eq_true rfl⟩) ⟨gcPR_blind, va_recv hK hP (ci := 0) (q0 := 0) rfl rfl, fun U hU hW => ⟨rfl, by rw [hU]; exact hPc, va_K.moved hW.alike hKc⟩⟩ rfl rfl hl.1 rfl (lv_room (Nat.le_of_ble_eq_true rfl)) dL_law_313 ⟨by show _ ≤ (600172 : Nat); omega, by show _ ≤ (7300668 : Nat); omega⟩) hS (fun q _ h => h.elim) (fun q h => h.elim) (fun r6 u t H locs ht hvm hw hB hz1 hk1 hS => ?_)
        have hP := gc_keep hP hk1
        have hw : r6 = gB (gFt clq gq) := hw
        subst hw
        clear hw
        clear hB hz1 hk1 ht hvm
        clear hPc hKc
        refine lv_iload hx hb dL_law_316 (lv_at hl 4 rfl) ?_
        refine q_ternG (v := (decide (¬ nI al ≤ 0))) (p3 := 321) (tgt := 325) (mg := 326) hx hb (fun kt kf => lv_if_le (tgt := 325) hx hb dL_law_318 (by decide) (fun c => kf (decide_eq_false (fun q => q c))) (fun c => kt (decide_eq_true c))) dL_law_321 dL_law_322 (by decide) dL_law_325 rfl ?_
        refine gc_topi (y := gB (gFt clq gq)) (by rw [fits_eq (by omega) hKg hKr30 hCl, ← all_eq (by omega) hKg hKr30 hLF, hal0]; rfl) ?_
        refine lv_icmp_ne (tgt := 412) hx hb dL_law_326 (by decide) (fun h => absurd rfl h) (fun _ => ?_)
        refine lv_aload_n hx hb dL_law_329 rfl (lv_at hl 10 rfl) ?_
        have hPc : va_P (dC, dI) vwCl (gcW aG kG f1q f2q drq clq trq seq (nI gq) (nI rq) infq (nI ctq)) _ := hP.sub [0, 1, 2, 3, 4, 5, 6] rfl
        have hKc : va_K (dC, dI) vwCl (gcT kG) s := hK.sub [0, 1, 2, 3, 4, 5] rfl
        refine va_calli (va_runV (As := []) (rest := []) ⟨hx, hb, hml, hown, hts⟩ (c_X0_fewest l dC dI aG kG f1q f2q drq clq trq seq gq rq infq ctq (by first | assumption | omega)) (cwV 0 hts gL_law_X0_fewest rfl rfl rfl (by decide +kernel) ⟨Nat.le_of_ble_eq_true rfl, Nat.le_of_ble_eq_true rfl⟩) ⟨gcPR_blind, va_recv hK hP (ci := 0) (q0 := 0) rfl rfl, fun U hU hW => ⟨rfl, by rw [hU]; exact hPc, va_K.moved hW.alike hKc⟩⟩ rfl rfl hl.1 rfl (lv_room (Nat.le_of_ble_eq_true rfl)) dL_law_330 ⟨by show _ ≤ (600172 : Nat); omega, by show _ ≤ (7300668 : Nat); omega⟩) hS (fun q _ h => h.elim) (fun q h => h.elim) (fun r7 u t H locs ht hvm hw hB hz1 hk1 hS => ?_)
        have hP := gc_keep hP hk1
        have hw : r7 = gFe seq ctq := hw
        subst hw
        clear hw
        clear hB hz1 hk1 ht hvm
        clear hPc hKc
        refine lv_iload hx hb dL_law_333 (lv_at hl 2 rfl) ?_
        refine gc_topi (y := gFe seq ctq) (by rw [few_eq (by omega) hKg hKr30 hLF, e_fe, hES9]) ?_
        refine lv_icmp_ne (tgt := 412) hx hb dL_law_335 (by decide) (fun h => absurd rfl h) (fun _ => ?_)
        refine lv_aload_n hx hb dL_law_338 rfl (lv_at hl 10 rfl) ?_
        have hPc : va_P (dC, dI) vwCl (gcW aG kG f1q f2q drq clq trq seq (nI gq) (nI rq) infq (nI ctq)) _ := hP.sub [0, 1, 2, 3, 4, 5, 6] rfl
        have hKc : va_K (dC, dI) vwCl (gcT kG) s := hK.sub [0, 1, 2, 3, 4, 5] rfl
        refine va_calli (va_runV (As := []) (rest := []) ⟨hx, hb, hml, hown, hts⟩ (c_X0_most l dC dI aG kG f1q f2q drq clq trq seq gq rq infq ctq (by first | assumption | omega)) (cwV 0 hts gL_law_X0_most rfl rfl rfl (by decide +kernel) ⟨Nat.le_of_ble_eq_true rfl, Nat.le_of_ble_eq_true rfl⟩) ⟨gcPR_blind, va_recv hK hP (ci := 0) (q0 := 0) rfl rfl, fun U hU hW => ⟨rfl, by rw [hU]; exact hPc, va_K.moved hW.alike hKc⟩⟩ rfl rfl hl.1 rfl (lv_room (Nat.le_of_ble_eq_true rfl)) dL_law_339 ⟨by show _ ≤ (600172 : Nat); omega, by show _ ≤ (7300668 : Nat); omega⟩) hS (fun q _ h => h.elim) (fun q h => h.elim) (fun r8 u t H locs ht hvm hw hB hz1 hk1 hS => ?_)
        have hP := gc_keep hP hk1
        have hw : r8 = gMo seq ctq := hw
        subst hw
        clear hw
        clear hB hz1 hk1 ht hvm
        clear hPc hKc
        refine lv_iload hx hb dL_law_342 (lv_at hl 1 rfl) ?_
        refine gc_topi (y := gMo seq ctq) (by rw [most_eq (by omega) hKg hKr30 hLF, e_mo, hES9]) ?_
        refine lv_icmp_ne (tgt := 412) hx hb dL_law_344 (by decide) (fun h => absurd rfl h) (fun _ => ?_)
        refine q_joinD (d := d) (I := fun H locs ls => (va_P (dC, dI) vwCl ((gcW aG kG f1q f2q drq clq trq seq (nI gq) (nI rq) infq (nI ctq) ++ ([(sa, .inr (1, [.int (nI gq), .ref ruq, .null, .null, .int 0]))] ++ ([(ruq, qa_R kA rq (qa_up rq rrq))]))) ++ (qT rq rrq (qE kI 3 (qF Kq)) ++ [])) H ∧ va_S A s.heap H locs) ∧ lv_has ls 17 [(11, .int (nI S9)), (10, .int mo), (9, .int fe), (8, .int su), (7, .int (nI al)), (6, .int (nI rq)), (5, .int (nI gq)), (4, .int xx), (3, .int (nI tt)), (0, .ref b), (1, .ref (aG 0)), (2, .ref sa)]) (fun ls => F0 m 371 ls []) (37 + 6 * tt) (1635 + 102 * tt) (fun dj347 H locs ls hdj347 hJ => ?_) (fun hJ347 => ?_)
        · skip
          have hts := dr_words hts1 dj347
          have hKd : va_K (dC, dI) vwCl (gcT kG ++ [(kA, .array .int), (kI, .int)]) (s.setDrawn dj347) := hK
          obtain ⟨hJ, hl⟩ := hJ
          obtain ⟨hP, hS⟩ := hJ
          refine lv_iload hx hb dL_law_371 (lv_at hl 4 rfl) ?_
          refine q_ternG (v := (decide (nI al = 0))) (p3 := 376) (tgt := 380) (mg := 381) hx hb (fun kt kf => lv_if_ne (tgt := 380) hx hb dL_law_373 (by decide) (fun c => kf (decide_eq_false c)) (fun c => kt (decide_eq_true c))) dL_law_376 dL_law_377 (by decide) dL_law_380 rfl ?_
          refine lv_aload_n hx hb dL_law_381 rfl (lv_at hl 10 rfl) ?_
          have hPc : va_P (dC, dI) vwCl (gcW aG kG f1q f2q drq clq trq seq (nI gq) (nI rq) infq (nI ctq)) _ := hP.sub [0, 1, 2, 3, 4, 5, 6] rfl
          have hKc : va_K (dC, dI) vwCl (gcT kG) s := hK.sub [0, 1, 2, 3, 4, 5] rfl
          refine va_calli (va_runV (As := []) (rest := [.int (gB (decide (nI al = 0)))]) ⟨hx, hb, hml, hown, hts⟩ (c_X0_seat l dC dI aG kG f1q f2q drq clq trq seq gq rq infq ctq (by first | assumption | omega) (by first | assumption | omega)) (cwV 0 hts gL_law_X0_seat rfl rfl rfl (by decide +kernel) ⟨Nat.le_of_ble_eq_true rfl, Nat.le_of_ble_eq_true rfl⟩) ⟨gcPR_blind, va_recv hK hP (ci := 0) (q0 := 0) rfl rfl, fun U hU hW => ⟨rfl, by rw [hU]; exact hPc, va_K.moved hW.alike hKc⟩⟩ rfl rfl hl.1 rfl (lv_room (Nat.le_of_ble_eq_true rfl)) dL_law_382 ⟨by show _ ≤ (600172 : Nat); omega, by show _ ≤ (7300668 : Nat); omega⟩) hS (fun q _ h => h.elim) (fun q h => h.elim) (fun r9 u t H locs ht hvm hw hB hz1 hk1 hS => ?_)
          have hP := gc_keep hP hk1
          have hw : r9 = (if ctq = 0 then -1 else gGC (gAt 1024 seq 0) gq) := hw
          subst hw
          clear hw
          clear hB hz1 hk1 ht hvm
          clear hPc hKc
          refine gc_topi (y := gSeat seq gq ctq) (rfl) ?_
          refine q_ternG (v := (decide (¬ 0 ≤ gSeat seq gq ctq))) (p3 := 388) (tgt := 392) (mg := 393) hx hb (fun kt kf => lv_if_ge (tgt := 392) hx hb dL_law_385 (by decide) (fun c => kf (decide_eq_false (fun q => q c))) (fun c => kt (decide_eq_true c))) dL_law_388 dL_law_389 (by decide) dL_law_392 rfl ?_
          refine gc_topi (y := gB (decide (nI al = 0))) (by rw [seat_neg (by omega) (by omega), hal0]) ?_
          refine lv_icmp_ne (tgt := 412) hx hb dL_law_393 (by decide) (fun h => absurd rfl h) (fun _ => ?_)
          refine q_joinD (d := dj347) (I := fun H locs ls => (va_P (dC, dI) vwCl ((gcW aG kG f1q f2q drq clq trq seq (nI gq) (nI rq) infq (nI ctq) ++ ([(sa, .inr (1, [.int (nI gq), .ref ruq, .null, .null, .int 0]))] ++ ([(ruq, qa_R kA rq (qa_up rq rrq))]))) ++ (qT rq rrq (qE kI 3 (qF Kq)) ++ [])) H ∧ va_S A s.heap H locs) ∧ lv_has ls 17 [(11, .int (nI S9)), (10, .int mo), (9, .int fe), (8, .int su), (7, .int (nI al)), (6, .int (nI rq)), (5, .int (nI gq)), (4, .int xx), (3, .int (nI tt)), (0, .ref b), (1, .ref (aG 0)), (2, .ref sa)]) (fun ls => F0 m 414 ls []) (37 + 6 * tt) (1635 + 102 * tt) (fun dj396 H locs ls hdj396 hJ => ?_) (fun hJ396 => ?_)
          · skip
            have hts := dr_words hts1 dj396
            have hKd : va_K (dC, dI) vwCl (gcT kG ++ [(kA, .array .int), (kI, .int)]) (s.setDrawn dj396) := hK
            obtain ⟨hJ, hl⟩ := hJ
            obtain ⟨hP, hS⟩ := hJ
            refine lv_iload hx hb dL_law_414 (lv_at hl 7 rfl) ?_
            refine lv_iconst (v := 3) hx hb dL_law_416 (by decide) ?_
            refine lv_ishr hx hb dL_law_417 ?_
            refine lv_iconst (v := 2) hx hb dL_law_418 (by decide) ?_
            refine lv_iload hx hb dL_law_419 (lv_at hl 6 rfl) ?_
            refine lv_imul hx hb dL_law_421 ?_
            refine gc_topi (y := nI (2 * gq)) (pk_mul 2 gq) ?_
            refine va_calli (va_runS (As := [.int (xx >>> ((3 : Int32) &&& 31)), .int (nI (2 * gq))]) (rest := []) ⟨hx, hb, hml, hown, hts⟩ (c_L_below l (xx >>> ((3 : Int32) &&& 31)) (2 * gq) (by first | assumption | omega) (by first | assumption | omega)) (va_cwS 2 hts gL_law_L_below rfl rfl rfl (by decide +kernel) ⟨Nat.le_of_ble_eq_true rfl, Nat.le_of_ble_eq_true rfl⟩) ⟨fun a U g mk q => q, fun U hU hW => ⟨rfl, trivial⟩⟩ rfl rfl hl.1 rfl (lv_room (Nat.le_of_ble_eq_true rfl)) dL_law_422 ⟨by show _ ≤ (600172 : Nat); omega, by show _ ≤ (7300668 : Nat); omega⟩) hS (fun q _ h => h.elim) (fun q h => h.elim) (fun r10 u t H locs ht hvm hw hB hz1 hk1 hS => ?_)
            have hP := gc_keep hP hk1
            have hw : r10 = nI ((xx >>> ((3 : Int32) &&& 31)).toBitVec.toNat % 2 ^ 31 % (2 * gq)) := hw
            subst hw
            clear hw
            clear hB hz1 hk1 ht hvm
            obtain ⟨wa, hwa, ewa⟩ : ∃ k : Nat, k < 2 * gq ∧ (xx >>> ((3 : Int32) &&& 31)).toBitVec.toNat % 2 ^ 31 % (2 * gq) = k := ⟨_, Nat.mod_lt _ (by omega), rfl⟩
            rw [ewa]
            refine lv_istore (lv' := [(11, .int (nI wa)), (10, .int mo), (9, .int fe), (8, .int su), (7, .int (nI al)), (6, .int (nI rq)), (5, .int (nI gq)), (4, .int xx), (3, .int (nI tt)), (0, .ref b), (1, .ref (aG 0)), (2, .ref sa)]) hx hb dL_law_425 hl (by decide) rfl (fun ls hl => ?_)
            refine lv_iload hx hb dL_law_427 (lv_at hl 7 rfl) ?_
            refine lv_iconst (v := 5) hx hb dL_law_429 (by decide) ?_
            refine lv_ishr hx hb dL_law_430 ?_
            refine lv_iconst (v := 2) hx hb dL_law_431 (by decide) ?_
            refine lv_iload hx hb dL_law_432 (lv_at hl 6 rfl) ?_
            refine lv_imul hx hb dL_law_434 ?_
            refine gc_topi (y := nI (2 * gq)) (pk_mul 2 gq) ?_
            refine va_calli (va_runS (As := [.int (xx >>> ((5 : Int32) &&& 31)), .int (nI (2 * gq))]) (rest := []) ⟨hx, hb, hml, hown, hts⟩ (c_L_below l (xx >>> ((5 : Int32) &&& 31)) (2 * gq) (by first | assumption | omega) (by first | assumption | omega)) (va_cwS 2 hts gL_law_L_below rfl rfl rfl (by decide +kernel) ⟨Nat.le_of_ble_eq_true rfl, Nat.le_of_ble_eq_true rfl⟩) ⟨fun a U g mk q => q, fun U hU hW => ⟨rfl, trivial⟩⟩ rfl rfl hl.1 rfl (lv_room (Nat.le_of_ble_eq_true rfl)) dL_law_435 ⟨by show _ ≤ (600172 : Nat); omega, by show _ ≤ (7300668 : Nat); omega⟩) hS (fun q _ h => h.elim) (fun q h => h.elim) (fun r11 u t H locs ht hvm hw hB hz1 hk1 hS => ?_)
            have hP := gc_keep hP hk1
            have hw : r11 = nI ((xx >>> ((5 : Int32) &&& 31)).toBitVec.toNat % 2 ^ 31 % (2 * gq)) := hw
            subst hw
            clear hw
            clear hB hz1 hk1 ht hvm
            obtain ⟨wb, hwb, ewb⟩ : ∃ k : Nat, k < 2 * gq ∧ (xx >>> ((5 : Int32) &&& 31)).toBitVec.toNat % 2 ^ 31 % (2 * gq) = k := ⟨_, Nat.mod_lt _ (by omega), rfl⟩
            rw [ewb]
            refine lv_istore (lv' := [(12, .int (nI wb)), (11, .int (nI wa)), (10, .int mo), (9, .int fe), (8, .int su), (7, .int (nI al)), (6, .int (nI rq)), (5, .int (nI gq)), (4, .int xx), (3, .int (nI tt)), (0, .ref b), (1, .ref (aG 0)), (2, .ref sa)]) hx hb dL_law_438 hl (by decide) rfl (fun ls hl => ?_)
            refine q_joinD (d := dj396) (I := fun H locs ls => (JSt dC dI A s aG kG sa kA kI gq rq al H locs) ∧ lv_has ls 17 [(12, .int (nI wb)), (11, .int (nI wa)), (10, .int mo), (9, .int fe), (8, .int su), (7, .int (nI al)), (6, .int (nI rq)), (5, .int (nI gq)), (4, .int xx), (3, .int (nI tt)), (0, .ref b), (1, .ref (aG 0)), (2, .ref sa)]) (fun ls => F0 m 560 ls []) (39 + 6 * tt) (1669 + 102 * tt) (fun dj440 H locs ls hdj440 hJ => ?_) (fun hJ440 => ?_)
            · skip
              have hts := dr_words hts1 dj440
              have hKd : va_K (dC, dI) vwCl (gcT kG ++ [(kA, .array .int), (kI, .int)]) (s.setDrawn dj440) := hK
              obtain ⟨hJ, hl⟩ := hJ
              obtain ⟨Kc, rc, f1c, f2c, drc, clc, trc, sec, infc, ruc, rrc, hqrc, hIc, hP, hD, hS⟩ := hJ
              obtain ⟨ctc, heqc⟩ : ∃ z, z = al := ⟨_, rfl⟩
              rw [← heqc] at hP hD hIc
              obtain ⟨hg7c, hr30c, hOKc, hzc, hnec, hDrc, hClc, s0c, hsec, hctc⟩ := id hIc
              have hKgc := gOK_Kg hOKc
              have hKrc : (Kc).1 = rc := hOKc.1
              have hLFc : LF (Kc) gq sec ctc := by rw [hsec, hctc]; exact LF_of (by omega) hKgc hClc s0c
              have hc1024c : ctc ≤ 1024 := hLFc.2
              have hKr30c : (Kc).1 ≤ 30 := by omega
              have hftc : gFt clc gq = decide (0 < ctc) := by rw [hctc]; exact ft_pos (by omega) hKgc hClc s0c
              have hcnc : ctc = fb_ct (sb (Kc)) (2 ^ gq) := LF_count hKgc hLFc
              have hP : va_P (dC, dI) vwCl ((gcW aG kG f1c f2c drc clc trc sec (nI gq) (nI rc) infc (nI ctc) ++ ([(sa, .inr (1, [.int (nI gq), .ref ruc, .null, .null, .int 0]))] ++ ([(ruc, qa_R kA rc (qa_up rc rrc))]))) ++ (qT rc rrc (qE kI 3 (qF Kc)) ++ [])) H := hP
              have hD : va_D A ((gcW aG kG f1c f2c drc clc trc sec (nI gq) (nI rc) infc (nI ctc) ++ ([(sa, .inr (1, [.int (nI gq), .ref ruc, .null, .null, .int 0]))] ++ ([(ruc, qa_R kA rc (qa_up rc rrc))]))) ++ (qT rc rrc (qE kI 3 (qF Kc)) ++ [])) := hD
              refine lv_aload_n hx hb dL_law_560 rfl (lv_at hl 11 rfl) ?_
              have hPc : va_P (dC, dI) vwCl (gcW aG kG f1c f2c drc clc trc sec (nI gq) (nI rc) infc (nI ctc)) _ := hP.sub [0, 1, 2, 3, 4, 5, 6] rfl
              have hKc : va_K (dC, dI) vwCl (gcT kG) s := hK.sub [0, 1, 2, 3, 4, 5] rfl
              have hDc : va_D A (gcW aG kG f1c f2c drc clc trc sec (nI gq) (nI rc) infc (nI ctc)) := hD.sub [0, 1, 2, 3, 4, 5, 6] (by decide) rfl
              have hFc := va_free (wc := (gcW aG kG f1c f2c drc clc trc sec (nI gq) (nI rc) infc (nI ctc))) hD hS hA [0, 1, 2, 3, 4, 5, 6] rfl
              refine va_calli (va_runV (As := []) (rest := []) ⟨hx, hb, hml, hown, hts⟩ (c_X0_blame l dC dI aG kG f1c f2c drc clc trc sec gq rc infc ctc Kc H.size (by first | assumption | omega) (by first | assumption | omega) (by first | assumption | omega) (by first | assumption | omega) (by first | assumption | omega)) (cwV 0 hts gL_law_X0_blame rfl rfl rfl (by decide +kernel) ⟨Nat.le_of_ble_eq_true rfl, Nat.le_of_ble_eq_true rfl⟩) ⟨gcPM_blind, va_recv hK hP (ci := 0) (q0 := 0) rfl rfl, fun U hU hW => ⟨rfl, by rw [hU], by rw [hU]; exact hPc, va_K.moved hW.alike hKc, hDc.weaken (fun _ _ _ _ => trivial)⟩⟩ rfl rfl hl.1 rfl (lv_room (Nat.le_of_ble_eq_true rfl)) dL_law_561 ⟨by show _ ≤ (600172 : Nat); omega, by show _ ≤ (7300668 : Nat); omega⟩) hS (fun q _ h => hFc q h) hFc (fun r12 u t H locs ht hvm hw hB hz1 hk1 hS => ?_)
              obtain ⟨tr213, e_tr213⟩ : ∃ z, z = u := ⟨_, rfl⟩
              subst e_tr213
              obtain ⟨hP1, hD1⟩ := hB
              rw [ht] at hP1
              obtain ⟨hP, hD⟩ := va_joinQ (wr := [(sa, .inr (1, [.int (nI gq), .ref ruc, .null, .null, .int 0])), (ruc, qa_R kA rc (qa_up rc rrc))]) (w1 := (gcW aG kG f1c f2c drc clc tr213 sec (nI gq) (nI rc) infc (nI ctc))) hP hD [0, 1, 2, 3, 4, 5, 6] [7, 8] rfl rfl (by decide) (by decide) hk1 hFc hP1 hD1
              have hP : va_P (dC, dI) vwCl ((gcW aG kG f1c f2c drc clc tr213 sec (nI gq) (nI rc) infc (nI ctc) ++ ([(sa, .inr (1, [.int (nI gq), .ref ruc, .null, .null, .int 0]))] ++ ([(ruc, qa_R kA rc (qa_up rc rrc))]))) ++ (qT rc rrc (qE kI 3 (qF Kc)) ++ [])) H := hP.part [2, 3, 4, 5, 6, 7, 8, 0, 1] rfl
              have hD : va_D A ((gcW aG kG f1c f2c drc clc tr213 sec (nI gq) (nI rc) infc (nI ctc) ++ ([(sa, .inr (1, [.int (nI gq), .ref ruc, .null, .null, .int 0]))] ++ ([(ruc, qa_R kA rc (qa_up rc rrc))]))) ++ (qT rc rrc (qE kI 3 (qF Kc)) ++ [])) := hD.part [2, 3, 4, 5, 6, 7, 8, 0, 1] (by decide) rfl
              have hw : r12 = (if gFt clc gq = true then -1 else gFst (gBp Kc gq) rc) := hw
              subst hw
              clear hw
              clear hz1 hk1 ht hvm hP1 hD1 hFc hDc
              clear hPc hKc
              refine q_joinD (d := dj440) (I := fun H locs ls => (∃ ctz : Nat, JSt dC dI A s aG kG sa kA kI gq rq ctz H locs) ∧ lv_has ls 17 [(12, .int (nI wb)), (11, .int (nI wa)), (10, .int mo), (9, .int fe), (8, .int su), (7, .int (nI al)), (6, .int (nI rq)), (5, .int (nI gq)), (4, .int xx), (3, .int (nI tt)), (0, .ref b), (1, .ref (aG 0)), (2, .ref sa)]) (fun ls => F0 m 633 ls []) (39 + 6 * tt) (1669 + 102 * tt) (fun dj564 H locs ls hdj564 hJ => ?_) (fun hJ564 => ?_)
              · skip
                have hts := dr_words hts1 dj564
                have hKd : va_K (dC, dI) vwCl (gcT kG ++ [(kA, .array .int), (kI, .int)]) (s.setDrawn dj564) := hK
                obtain ⟨hJ, hl⟩ := hJ
                obtain ⟨ctd, hJ⟩ := hJ
                obtain ⟨Kd, rd, f1d, f2d, drd, cld, trd, sed, infd, rud, rrd, hqrd, hId, hP, hD, hS⟩ := hJ
                obtain ⟨hg7d, hr30d, hOKd, hzd, hned, hDrd, hCld, s0d, hsed, hctd⟩ := id hId
                have hKgd := gOK_Kg hOKd
                have hKrd : (Kd).1 = rd := hOKd.1
                have hLFd : LF (Kd) gq sed ctd := by rw [hsed, hctd]; exact LF_of (by omega) hKgd hCld s0d
                have hc1024d : ctd ≤ 1024 := hLFd.2
                have hKr30d : (Kd).1 ≤ 30 := by omega
                have hftd : gFt cld gq = decide (0 < ctd) := by rw [hctd]; exact ft_pos (by omega) hKgd hCld s0d
                have hcnd : ctd = fb_ct (sb (Kd)) (2 ^ gq) := LF_count hKgd hLFd
                have hP : va_P (dC, dI) vwCl ((gcW aG kG f1d f2d drd cld trd sed (nI gq) (nI rd) infd (nI ctd) ++ ([(sa, .inr (1, [.int (nI gq), .ref rud, .null, .null, .int 0]))] ++ ([(rud, qa_R kA rd (qa_up rd rrd))]))) ++ (qT rd rrd (qE kI 3 (qF Kd)) ++ [])) H := hP
                have hD : va_D A ((gcW aG kG f1d f2d drd cld trd sed (nI gq) (nI rd) infd (nI ctd) ++ ([(sa, .inr (1, [.int (nI gq), .ref rud, .null, .null, .int 0]))] ++ ([(rud, qa_R kA rd (qa_up rd rrd))]))) ++ (qT rd rrd (qE kI 3 (qF Kd)) ++ [])) := hD
                refine lv_iconst (v := 0) hx hb dL_law_633 (by decide) ?_
                refine lv_istore (lv' := [(14, .int 0), (12, .int (nI wb)), (11, .int (nI wa)), (10, .int mo), (9, .int fe), (8, .int su), (7, .int (nI al)), (6, .int (nI rq)), (5, .int (nI gq)), (4, .int xx), (3, .int (nI tt)), (0, .ref b), (1, .ref (aG 0)), (2, .ref sa)]) hx hb dL_law_634 hl (by decide) rfl (fun ls hl => ?_)
                refine gc_loop (2 * gq) (fun (u9 : Nat) (H : Heap) (locs : List Loc) (ls : Array Slot) => va_P (dC, dI) vwCl ((gcW aG kG f1d f2d drd cld trd sed (nI gq) (nI rd) infd (nI ctd) ++ ([(sa, .inr (1, [.int (nI gq), .ref rud, .null, .null, .int 0]))] ++ ([(rud, qa_R kA rd (qa_up rd rrd))]))) ++ (qT rd rrd (qE kI 3 (qF Kd)) ++ [])) H ∧ va_D A ((gcW aG kG f1d f2d drd cld trd sed (nI gq) (nI rd) infd (nI ctd) ++ ([(sa, .inr (1, [.int (nI gq), .ref rud, .null, .null, .int 0]))] ++ ([(rud, qa_R kA rd (qa_up rd rrd))]))) ++ (qT rd rrd (qE kI 3 (qF Kd)) ++ [])) ∧ va_S A s.heap H locs ∧ lv_has ls 17 [(14, .int (nI u9)), (12, .int (nI wb)), (11, .int (nI wa)), (10, .int mo), (9, .int fe), (8, .int su), (7, .int (nI al)), (6, .int (nI rq)), (5, .int (nI gq)), (4, .int xx), (3, .int (nI tt)), (0, .ref b), (1, .ref (aG 0)), (2, .ref sa)]) 0 (Nat.zero_le _) ⟨hP, hD, hS, lv_sub hl [0, 1, 2, 3, 4, 5, 6, 7, 8, 9, 10, 11, 12, 13] rfl⟩ ?_
                intro u9 H locs ls hu9 hI ihu9
                obtain ⟨hP, hD, hS, hl⟩ := hI
                refine lv_iload hx hb dL_law_636 (lv_at hl 0 rfl) ?_
                refine lv_iconst (v := 2) hx hb dL_law_638 (by decide) ?_
                refine lv_iload hx hb dL_law_639 (lv_at hl 8 rfl) ?_
                refine lv_imul hx hb dL_law_641 ?_
                refine gc_topi (y := nI (2 * gq)) (pk_mul 2 gq) ?_
                refine lv_icmp_ge (tgt := 768) hx hb dL_law_642 (by decide) (fun c_642 => ?_) (fun c_642 => ?_)
                · skip
                  have hEu9 : u9 = 2 * gq := gc_ge c_642 (by omega) (by omega)
                  refine lv_iinc (v := nI (tt + 1)) (lv' := [(3, .int (nI (tt + 1))), (14, .int (nI u9)), (12, .int (nI wb)), (11, .int (nI wa)), (10, .int mo), (9, .int fe), (8, .int su), (7, .int (nI al)), (6, .int (nI rq)), (5, .int (nI gq)), (4, .int xx), (0, .ref b), (1, .ref (aG 0)), (2, .ref sa)]) hx hb dL_law_768 hl (k := 10) rfl (nI_1 tt) (by decide) rfl (fun ls hl => ?_)
                  refine lv_goto (tgt := 22) hx hb dL_law_771 (by decide) ?_
                  refine W.widen (k := 33 + 6 * (tt + 1)) (n := 1567 + 102 * (tt + 1)) (by omega) (by omega) ?_
                  exact ih dj564 H _ ls (by omega) hdj564 ⟨Kd, gq, rd, f1d, f2d, drd, cld, trd, sed, infd, ctd, rud, rrd, hg1q, hId, hP, hD, hS, lv_sub hl [0, 11, 12, 13] rfl⟩
                · skip
                  have hLu9 : u9 < 2 * gq := gc_lt c_642 (by omega) (by omega)
                  refine lv_aload_n hx hb dL_law_645 rfl (lv_at hl 12 rfl) ?_
                  refine lv_iload hx hb dL_law_646 (lv_at hl 0 rfl) ?_
                  have hPc : va_P (dC, dI) vwCl (gcW aG kG f1d f2d drd cld trd sed (nI gq) (nI rd) infd (nI ctd)) _ := hP.sub [0, 1, 2, 3, 4, 5, 6] rfl
                  have hKc : va_K (dC, dI) vwCl (gcT kG) s := hK.sub [0, 1, 2, 3, 4, 5] rfl
                  refine va_calli (va_runV (As := [.int (nI u9)]) (rest := []) ⟨hx, hb, hml, hown, hts⟩ (c_X0_reach l dC dI aG kG f1d f2d drd cld trd sed gq rd infd ctd u9 (by first | assumption | omega) (by first | assumption | omega)) (cwV 1 hts gL_law_X0_reach rfl rfl rfl (by decide +kernel) ⟨Nat.le_of_ble_eq_true rfl, Nat.le_of_ble_eq_true rfl⟩) ⟨gcPR_blind, va_recv hK hP (ci := 0) (q0 := 0) rfl rfl, fun U hU hW => ⟨rfl, by rw [hU]; exact hPc, va_K.moved hW.alike hKc⟩⟩ rfl rfl hl.1 rfl (lv_room (Nat.le_of_ble_eq_true rfl)) dL_law_648 ⟨by show _ ≤ (600172 : Nat); omega, by show _ ≤ (7300668 : Nat); omega⟩) hS (fun q _ h => h.elim) (fun q h => h.elim) (fun r14 u t H locs ht hvm hw hB hz1 hk1 hS => ?_)
                  have hP := gc_keep hP hk1
                  have hw : r14 = gAt 20 cld (nI u9) := hw
                  subst hw
                  clear hw
                  clear hB hz1 hk1 ht hvm
                  clear hPc hKc
                  refine lv_istore (lv' := [(15, .int (gAt 20 cld (nI u9))), (14, .int (nI u9)), (12, .int (nI wb)), (11, .int (nI wa)), (10, .int mo), (9, .int fe), (8, .int su), (7, .int (nI al)), (6, .int (nI rq)), (5, .int (nI gq)), (4, .int xx), (3, .int (nI tt)), (0, .ref b), (1, .ref (aG 0)), (2, .ref sa)]) hx hb dL_law_651 hl (by decide) rfl (fun ls hl => ?_)
                  refine lv_iload hx hb dL_law_653 (lv_at hl 0 rfl) ?_
                  refine lv_iload hx hb dL_law_655 (lv_at hl 1 rfl) ?_
                  refine lv_ishr hx hb dL_law_657 ?_
                  refine lv_iconst (v := 1) hx hb dL_law_658 (by decide) ?_
                  refine lv_iand hx hb dL_law_659 ?_
                  refine gc_topi (y := 1) (by rw [bitv, cl_has hCld (by omega) (by omega), fo_self]; rfl) ?_
                  refine lv_if_ne (tgt := 665) hx hb dL_law_660 (by decide) (fun c_660 => ?_) (fun c_660 => ?_)
                  · skip
                    refine lv_iconst (v := 0) hx hb dL_law_665 (by decide) ?_
                    refine lv_istore (lv' := [(16, .int 0), (15, .int (gAt 20 cld (nI u9))), (14, .int (nI u9)), (12, .int (nI wb)), (11, .int (nI wa)), (10, .int mo), (9, .int fe), (8, .int su), (7, .int (nI al)), (6, .int (nI rq)), (5, .int (nI gq)), (4, .int xx), (3, .int (nI tt)), (0, .ref b), (1, .ref (aG 0)), (2, .ref sa)]) hx hb dL_law_666 hl (by decide) rfl (fun ls hl => ?_)
                    refine gc_loop (rq) (fun (k9 : Nat) (H : Heap) (locs : List Loc) (ls : Array Slot) => va_P (dC, dI) vwCl ((gcW aG kG f1d f2d drd cld trd sed (nI gq) (nI rd) infd (nI ctd) ++ ([(sa, .inr (1, [.int (nI gq), .ref rud, .null, .null, .int 0]))] ++ ([(rud, qa_R kA rd (qa_up rd rrd))]))) ++ (qT rd rrd (qE kI 3 (qF Kd)) ++ [])) H ∧ va_D A ((gcW aG kG f1d f2d drd cld trd sed (nI gq) (nI rd) infd (nI ctd) ++ ([(sa, .inr (1, [.int (nI gq), .ref rud, .null, .null, .int 0]))] ++ ([(rud, qa_R kA rd (qa_up rd rrd))]))) ++ (qT rd rrd (qE kI 3 (qF Kd)) ++ [])) ∧ va_S A s.heap H locs ∧ lv_has ls 17 [(16, .int (nI k9)), (15, .int (gAt 20 cld (nI u9))), (14, .int (nI u9)), (12, .int (nI wb)), (11, .int (nI wa)), (10, .int mo), (9, .int fe), (8, .int su), (7, .int (nI al)), (6, .int (nI rq)), (5, .int (nI gq)), (4, .int xx), (3, .int (nI tt)), (0, .ref b), (1, .ref (aG 0)), (2, .ref sa)]) 0 (Nat.zero_le _) ⟨hP, hD, hS, lv_sub hl [0, 1, 2, 3, 4, 5, 6, 7, 8, 9, 10, 11, 12, 13, 14, 15] rfl⟩ ?_
                    intro k9 H locs ls hk9 hI ihk9
                    obtain ⟨hP, hD, hS, hl⟩ := hI
                    refine lv_iload hx hb dL_law_668 (lv_at hl 0 rfl) ?_
                    refine lv_iload hx hb dL_law_670 (lv_at hl 9 rfl) ?_
                    refine lv_icmp_ge (tgt := 762) hx hb dL_law_672 (by decide) (fun c_672 => ?_) (fun c_672 => ?_)
                    · skip
                      have hEk9 : k9 = rq := gc_ge c_672 (by omega) (by omega)
                      refine lv_iinc (v := nI (u9 + 1)) (lv' := [(14, .int (nI (u9 + 1))), (16, .int (nI k9)), (15, .int (gAt 20 cld (nI u9))), (12, .int (nI wb)), (11, .int (nI wa)), (10, .int mo), (9, .int fe), (8, .int su), (7, .int (nI al)), (6, .int (nI rq)), (5, .int (nI gq)), (4, .int xx), (3, .int (nI tt)), (0, .ref b), (1, .ref (aG 0)), (2, .ref sa)]) hx hb dL_law_762 hl (k := 2) rfl (nI_1 u9) (by decide) rfl (fun ls hl => ?_)
                      refine lv_goto (tgt := 636) hx hb dL_law_765 (by decide) ?_
                      exact ihu9 H _ ls (by omega) ⟨hP, hD, hS, lv_sub hl [0, 3, 4, 5, 6, 7, 8, 9, 10, 11, 12, 13, 14, 15] rfl⟩
                    · skip
                      have hLk9 : k9 < rq := gc_lt c_672 (by omega) (by omega)
                      obtain ⟨hk1, hk2⟩ := hKgd k9 (by omega)
                      refine lv_aload_n hx hb dL_law_675 rfl (lv_at hl 14 rfl) ?_
                      refine lv_iload hx hb dL_law_676 (lv_at hl 0 rfl) ?_
                      refine lv_iconst (v := 2) hx hb dL_law_678 (by decide) ?_
                      have hPc : va_P (dC, dI) vwCl (gcW aG kG f1d f2d drd cld trd sed (nI gq) (nI rd) infd (nI ctd)) _ := hP.sub [0, 1, 2, 3, 4, 5, 6] rfl
                      have hKc : va_K (dC, dI) vwCl (gcT kG) s := hK.sub [0, 1, 2, 3, 4, 5] rfl
                      refine va_calli (va_runV (As := [.int (nI k9), .int 2]) (rest := []) ⟨hx, hb, hml, hown, hts⟩ (c_X0_told l dC dI aG kG f1d f2d drd cld trd sed gq rd infd ctd k9 2 (by first | assumption | omega) (by first | assumption | omega) (by first | assumption | omega)) (cwV 2 hts gL_law_X0_told rfl rfl rfl (by decide +kernel) ⟨Nat.le_of_ble_eq_true rfl, Nat.le_of_ble_eq_true rfl⟩) ⟨gcPR_blind, va_recv hK hP (ci := 0) (q0 := 0) rfl rfl, fun U hU hW => ⟨rfl, by rw [hU]; exact hPc, va_K.moved hW.alike hKc⟩⟩ rfl rfl hl.1 rfl (lv_room (Nat.le_of_ble_eq_true rfl)) dL_law_679 ⟨by show _ ≤ (600172 : Nat); omega, by show _ ≤ (7300668 : Nat); omega⟩) hS (fun q _ h => h.elim) (fun q h => h.elim) (fun r15 u t H locs ht hvm hw hB hz1 hk1 hS => ?_)
                      have hP := gc_keep hP hk1
                      have hw : r15 = gTo f1d f2d infd k9 2 := hw
                      subst hw
                      clear hw
                      clear hB hz1 hk1 ht hvm
                      clear hPc hKc
                      refine gc_topi (y := gB (Kd.2.2.2 k9)) (by rw [told_eq hOKd hr30d (by omega) (by decide)]; rfl) ?_
                      refine lv_if_ne (tgt := 688) hx hb dL_law_682 (by decide) (fun c_682 => ?_) (fun c_682 => ?_)
                      · skip
                        have c_682 := gB_t c_682
                        refine lv_iload hx hb dL_law_688 (lv_at hl 1 rfl) ?_
                        refine lv_aload_n hx hb dL_law_690 rfl (lv_at hl 14 rfl) ?_
                        refine lv_iload hx hb dL_law_691 (lv_at hl 0 rfl) ?_
                        refine lv_iconst (v := 0) hx hb dL_law_693 (by decide) ?_
                        have hPc : va_P (dC, dI) vwCl (gcW aG kG f1d f2d drd cld trd sed (nI gq) (nI rd) infd (nI ctd)) _ := hP.sub [0, 1, 2, 3, 4, 5, 6] rfl
                        have hKc : va_K (dC, dI) vwCl (gcT kG) s := hK.sub [0, 1, 2, 3, 4, 5] rfl
                        refine va_calli (va_runV (As := [.int (nI k9), .int 0]) (rest := [.int (gAt 20 cld (nI u9))]) ⟨hx, hb, hml, hown, hts⟩ (c_X0_told l dC dI aG kG f1d f2d drd cld trd sed gq rd infd ctd k9 0 (by first | assumption | omega) (by first | assumption | omega) (by first | assumption | omega)) (cwV 2 hts gL_law_X0_told rfl rfl rfl (by decide +kernel) ⟨Nat.le_of_ble_eq_true rfl, Nat.le_of_ble_eq_true rfl⟩) ⟨gcPR_blind, va_recv hK hP (ci := 0) (q0 := 0) rfl rfl, fun U hU hW => ⟨rfl, by rw [hU]; exact hPc, va_K.moved hW.alike hKc⟩⟩ rfl rfl hl.1 rfl (lv_room (Nat.le_of_ble_eq_true rfl)) dL_law_694 ⟨by show _ ≤ (600172 : Nat); omega, by show _ ≤ (7300668 : Nat); omega⟩) hS (fun q _ h => h.elim) (fun q h => h.elim) (fun r16 u t H locs ht hvm hw hB hz1 hk1 hS => ?_)
                        have hP := gc_keep hP hk1
                        have hw : r16 = gTo f1d f2d infd k9 0 := hw
                        subst hw
                        clear hw
                        clear hB hz1 hk1 ht hvm
                        clear hPc hKc
                        refine gc_topi (y := nI (Kd.2.1 k9)) (by rw [told_eq hOKd hr30d (by omega) (by decide)]; rfl) ?_
                        refine lv_ishr hx hb dL_law_697 ?_
                        refine lv_iconst (v := 1) hx hb dL_law_698 (by decide) ?_
                        refine lv_iand hx hb dL_law_699 ?_
                        refine gc_topi (y := gB (fo Kd u9 (Kd.2.1 k9))) (by rw [bitv, cl_has hCld (by omega) (by omega)]) ?_
                        refine lv_iconst (v := 1) hx hb dL_law_700 (by decide) ?_
                        refine lv_icmp_ne (tgt := 719) hx hb dL_law_701 (by decide) (fun c_701 => ?_) (fun c_701 => ?_)
                        · skip
                          refine lv_iload hx hb dL_law_719 (lv_at hl 1 rfl) ?_
                          refine lv_aload_n hx hb dL_law_721 rfl (lv_at hl 14 rfl) ?_
                          refine lv_iload hx hb dL_law_722 (lv_at hl 0 rfl) ?_
                          refine lv_iconst (v := 1) hx hb dL_law_724 (by decide) ?_
                          have hPc : va_P (dC, dI) vwCl (gcW aG kG f1d f2d drd cld trd sed (nI gq) (nI rd) infd (nI ctd)) _ := hP.sub [0, 1, 2, 3, 4, 5, 6] rfl
                          have hKc : va_K (dC, dI) vwCl (gcT kG) s := hK.sub [0, 1, 2, 3, 4, 5] rfl
                          refine va_calli (va_runV (As := [.int (nI k9), .int 1]) (rest := [.int (gAt 20 cld (nI u9))]) ⟨hx, hb, hml, hown, hts⟩ (c_X0_told l dC dI aG kG f1d f2d drd cld trd sed gq rd infd ctd k9 1 (by first | assumption | omega) (by first | assumption | omega) (by first | assumption | omega)) (cwV 2 hts gL_law_X0_told rfl rfl rfl (by decide +kernel) ⟨Nat.le_of_ble_eq_true rfl, Nat.le_of_ble_eq_true rfl⟩) ⟨gcPR_blind, va_recv hK hP (ci := 0) (q0 := 0) rfl rfl, fun U hU hW => ⟨rfl, by rw [hU]; exact hPc, va_K.moved hW.alike hKc⟩⟩ rfl rfl hl.1 rfl (lv_room (Nat.le_of_ble_eq_true rfl)) dL_law_725 ⟨by show _ ≤ (600172 : Nat); omega, by show _ ≤ (7300668 : Nat); omega⟩) hS (fun q _ h => h.elim) (fun q h => h.elim) (fun r17 u t H locs ht hvm hw hB hz1 hk1 hS => ?_)
                          have hP := gc_keep hP hk1
                          have hw : r17 = gTo f1d f2d infd k9 1 := hw
                          subst hw
                          clear hw
                          clear hB hz1 hk1 ht hvm
                          clear hPc hKc
                          refine gc_topi (y := nI (Kd.2.2.1 k9)) (by rw [told_eq hOKd hr30d (by omega) (by decide)]; rfl) ?_
                          refine lv_iconst (v := 1) hx hb dL_law_728 (by decide) ?_
                          refine lv_ixor hx hb dL_law_729 ?_
                          refine gc_topi (y := nI (Kd.2.2.1 k9 ^^^ 1)) (nI_xor1 _) ?_
                          refine lv_ishr hx hb dL_law_730 ?_
                          refine lv_iconst (v := 1) hx hb dL_law_731 (by decide) ?_
                          refine lv_iand hx hb dL_law_732 ?_
                          refine gc_topi (y := gB (fo Kd u9 (Kd.2.2.1 k9 ^^^ 1))) (by rw [bitv, cl_has hCld (by omega) (by have := xor1_lt hk2; omega)]) ?_
                          refine lv_iconst (v := 1) hx hb dL_law_733 (by decide) ?_
                          refine lv_icmp_ne (tgt := 756) hx hb dL_law_734 (by decide) (fun c_734 => ?_) (fun c_734 => ?_)
                          · skip
                            refine lv_iinc (v := nI (k9 + 1)) (lv' := [(16, .int (nI (k9 + 1))), (15, .int (gAt 20 cld (nI u9))), (14, .int (nI u9)), (12, .int (nI wb)), (11, .int (nI wa)), (10, .int mo), (9, .int fe), (8, .int su), (7, .int (nI al)), (6, .int (nI rq)), (5, .int (nI gq)), (4, .int xx), (3, .int (nI tt)), (0, .ref b), (1, .ref (aG 0)), (2, .ref sa)]) hx hb dL_law_756 hl (k := 0) rfl (nI_1 k9) (by decide) rfl (fun ls hl => ?_)
                            refine lv_goto (tgt := 668) hx hb dL_law_759 (by decide) ?_
                            exact ihk9 H _ ls (by omega) ⟨hP, hD, hS, lv_sub hl [0, 1, 2, 3, 4, 5, 6, 7, 8, 9, 10, 11, 12, 13, 14, 15] rfl⟩
                          · skip
                            refine lv_iload hx hb dL_law_737 (lv_at hl 1 rfl) ?_
                            refine lv_aload_n hx hb dL_law_739 rfl (lv_at hl 14 rfl) ?_
                            refine lv_iload hx hb dL_law_740 (lv_at hl 0 rfl) ?_
                            refine lv_iconst (v := 0) hx hb dL_law_742 (by decide) ?_
                            have hPc : va_P (dC, dI) vwCl (gcW aG kG f1d f2d drd cld trd sed (nI gq) (nI rd) infd (nI ctd)) _ := hP.sub [0, 1, 2, 3, 4, 5, 6] rfl
                            have hKc : va_K (dC, dI) vwCl (gcT kG) s := hK.sub [0, 1, 2, 3, 4, 5] rfl
                            refine va_calli (va_runV (As := [.int (nI k9), .int 0]) (rest := [.int (gAt 20 cld (nI u9))]) ⟨hx, hb, hml, hown, hts⟩ (c_X0_told l dC dI aG kG f1d f2d drd cld trd sed gq rd infd ctd k9 0 (by first | assumption | omega) (by first | assumption | omega) (by first | assumption | omega)) (cwV 2 hts gL_law_X0_told rfl rfl rfl (by decide +kernel) ⟨Nat.le_of_ble_eq_true rfl, Nat.le_of_ble_eq_true rfl⟩) ⟨gcPR_blind, va_recv hK hP (ci := 0) (q0 := 0) rfl rfl, fun U hU hW => ⟨rfl, by rw [hU]; exact hPc, va_K.moved hW.alike hKc⟩⟩ rfl rfl hl.1 rfl (lv_room (Nat.le_of_ble_eq_true rfl)) dL_law_743 ⟨by show _ ≤ (600172 : Nat); omega, by show _ ≤ (7300668 : Nat); omega⟩) hS (fun q _ h => h.elim) (fun q h => h.elim) (fun r18 u t H locs ht hvm hw hB hz1 hk1 hS => ?_)
                            have hP := gc_keep hP hk1
                            have hw : r18 = gTo f1d f2d infd k9 0 := hw
                            subst hw
                            clear hw
                            clear hB hz1 hk1 ht hvm
                            clear hPc hKc
                            refine gc_topi (y := nI (Kd.2.1 k9)) (by rw [told_eq hOKd hr30d (by omega) (by decide)]; rfl) ?_
                            refine lv_iconst (v := 1) hx hb dL_law_746 (by decide) ?_
                            refine lv_ixor hx hb dL_law_747 ?_
                            refine gc_topi (y := nI (Kd.2.1 k9 ^^^ 1)) (nI_xor1 _) ?_
                            refine lv_ishr hx hb dL_law_748 ?_
                            refine lv_iconst (v := 1) hx hb dL_law_749 (by decide) ?_
                            refine lv_iand hx hb dL_law_750 ?_
                            refine gc_topi (y := gB (fo Kd u9 (Kd.2.1 k9 ^^^ 1))) (by rw [bitv, cl_has hCld (by omega) (by have := xor1_lt hk1; omega)]) ?_
                            refine lv_if_ne (tgt := 756) hx hb dL_law_751 (by decide) (fun c_751 => ?_) (fun c_751 => ?_)
                            · skip
                              have c_751 := gB_t c_751
                              refine lv_iinc (v := nI (k9 + 1)) (lv' := [(16, .int (nI (k9 + 1))), (15, .int (gAt 20 cld (nI u9))), (14, .int (nI u9)), (12, .int (nI wb)), (11, .int (nI wa)), (10, .int mo), (9, .int fe), (8, .int su), (7, .int (nI al)), (6, .int (nI rq)), (5, .int (nI gq)), (4, .int xx), (3, .int (nI tt)), (0, .ref b), (1, .ref (aG 0)), (2, .ref sa)]) hx hb dL_law_756 hl (k := 0) rfl (nI_1 k9) (by decide) rfl (fun ls hl => ?_)
                              refine lv_goto (tgt := 668) hx hb dL_law_759 (by decide) ?_
                              exact ihk9 H _ ls (by omega) ⟨hP, hD, hS, lv_sub hl [0, 1, 2, 3, 4, 5, 6, 7, 8, 9, 10, 11, 12, 13, 14, 15] rfl⟩
                            · skip
                              have c_751 := gB_f c_751
                              exact absurd (fo_back (by omega) c_682 (gB_eq1 c_734)) (by rw [c_751]; decide)
                        · skip
                          refine lv_iload hx hb dL_law_704 (lv_at hl 1 rfl) ?_
                          refine lv_aload_n hx hb dL_law_706 rfl (lv_at hl 14 rfl) ?_
                          refine lv_iload hx hb dL_law_707 (lv_at hl 0 rfl) ?_
                          refine lv_iconst (v := 1) hx hb dL_law_709 (by decide) ?_
                          have hPc : va_P (dC, dI) vwCl (gcW aG kG f1d f2d drd cld trd sed (nI gq) (nI rd) infd (nI ctd)) _ := hP.sub [0, 1, 2, 3, 4, 5, 6] rfl
                          have hKc : va_K (dC, dI) vwCl (gcT kG) s := hK.sub [0, 1, 2, 3, 4, 5] rfl
                          refine va_calli (va_runV (As := [.int (nI k9), .int 1]) (rest := [.int (gAt 20 cld (nI u9))]) ⟨hx, hb, hml, hown, hts⟩ (c_X0_told l dC dI aG kG f1d f2d drd cld trd sed gq rd infd ctd k9 1 (by first | assumption | omega) (by first | assumption | omega) (by first | assumption | omega)) (cwV 2 hts gL_law_X0_told rfl rfl rfl (by decide +kernel) ⟨Nat.le_of_ble_eq_true rfl, Nat.le_of_ble_eq_true rfl⟩) ⟨gcPR_blind, va_recv hK hP (ci := 0) (q0 := 0) rfl rfl, fun U hU hW => ⟨rfl, by rw [hU]; exact hPc, va_K.moved hW.alike hKc⟩⟩ rfl rfl hl.1 rfl (lv_room (Nat.le_of_ble_eq_true rfl)) dL_law_710 ⟨by show _ ≤ (600172 : Nat); omega, by show _ ≤ (7300668 : Nat); omega⟩) hS (fun q _ h => h.elim) (fun q h => h.elim) (fun r19 u t H locs ht hvm hw hB hz1 hk1 hS => ?_)
                          have hP := gc_keep hP hk1
                          have hw : r19 = gTo f1d f2d infd k9 1 := hw
                          subst hw
                          clear hw
                          clear hB hz1 hk1 ht hvm
                          clear hPc hKc
                          refine gc_topi (y := nI (Kd.2.2.1 k9)) (by rw [told_eq hOKd hr30d (by omega) (by decide)]; rfl) ?_
                          refine lv_ishr hx hb dL_law_713 ?_
                          refine lv_iconst (v := 1) hx hb dL_law_714 (by decide) ?_
                          refine lv_iand hx hb dL_law_715 ?_
                          refine gc_topi (y := gB (fo Kd u9 (Kd.2.2.1 k9))) (by rw [bitv, cl_has hCld (by omega) (by omega)]) ?_
                          refine lv_if_eq (tgt := 754) hx hb dL_law_716 (by decide) (fun c_716 => ?_) (fun c_716 => ?_)
                          · skip
                            have c_716 := gB_f c_716
                            exact absurd (fo_step (by omega) c_682 (gB_eq1 c_701)) (by rw [c_716]; decide)
                          · skip
                            have c_716 := gB_t c_716
                            refine lv_iload hx hb dL_law_719 (lv_at hl 1 rfl) ?_
                            refine lv_aload_n hx hb dL_law_721 rfl (lv_at hl 14 rfl) ?_
                            refine lv_iload hx hb dL_law_722 (lv_at hl 0 rfl) ?_
                            refine lv_iconst (v := 1) hx hb dL_law_724 (by decide) ?_
                            have hPc : va_P (dC, dI) vwCl (gcW aG kG f1d f2d drd cld trd sed (nI gq) (nI rd) infd (nI ctd)) _ := hP.sub [0, 1, 2, 3, 4, 5, 6] rfl
                            have hKc : va_K (dC, dI) vwCl (gcT kG) s := hK.sub [0, 1, 2, 3, 4, 5] rfl
                            refine va_calli (va_runV (As := [.int (nI k9), .int 1]) (rest := [.int (gAt 20 cld (nI u9))]) ⟨hx, hb, hml, hown, hts⟩ (c_X0_told l dC dI aG kG f1d f2d drd cld trd sed gq rd infd ctd k9 1 (by first | assumption | omega) (by first | assumption | omega) (by first | assumption | omega)) (cwV 2 hts gL_law_X0_told rfl rfl rfl (by decide +kernel) ⟨Nat.le_of_ble_eq_true rfl, Nat.le_of_ble_eq_true rfl⟩) ⟨gcPR_blind, va_recv hK hP (ci := 0) (q0 := 0) rfl rfl, fun U hU hW => ⟨rfl, by rw [hU]; exact hPc, va_K.moved hW.alike hKc⟩⟩ rfl rfl hl.1 rfl (lv_room (Nat.le_of_ble_eq_true rfl)) dL_law_725 ⟨by show _ ≤ (600172 : Nat); omega, by show _ ≤ (7300668 : Nat); omega⟩) hS (fun q _ h => h.elim) (fun q h => h.elim) (fun r20 u t H locs ht hvm hw hB hz1 hk1 hS => ?_)
                            have hP := gc_keep hP hk1
                            have hw : r20 = gTo f1d f2d infd k9 1 := hw
                            subst hw
                            clear hw
                            clear hB hz1 hk1 ht hvm
                            clear hPc hKc
                            refine gc_topi (y := nI (Kd.2.2.1 k9)) (by rw [told_eq hOKd hr30d (by omega) (by decide)]; rfl) ?_
                            refine lv_iconst (v := 1) hx hb dL_law_728 (by decide) ?_
                            refine lv_ixor hx hb dL_law_729 ?_
                            refine gc_topi (y := nI (Kd.2.2.1 k9 ^^^ 1)) (nI_xor1 _) ?_
                            refine lv_ishr hx hb dL_law_730 ?_
                            refine lv_iconst (v := 1) hx hb dL_law_731 (by decide) ?_
                            refine lv_iand hx hb dL_law_732 ?_
                            refine gc_topi (y := gB (fo Kd u9 (Kd.2.2.1 k9 ^^^ 1))) (by rw [bitv, cl_has hCld (by omega) (by have := xor1_lt hk2; omega)]) ?_
                            refine lv_iconst (v := 1) hx hb dL_law_733 (by decide) ?_
                            refine lv_icmp_ne (tgt := 756) hx hb dL_law_734 (by decide) (fun c_734 => ?_) (fun c_734 => ?_)
                            · skip
                              refine lv_iinc (v := nI (k9 + 1)) (lv' := [(16, .int (nI (k9 + 1))), (15, .int (gAt 20 cld (nI u9))), (14, .int (nI u9)), (12, .int (nI wb)), (11, .int (nI wa)), (10, .int mo), (9, .int fe), (8, .int su), (7, .int (nI al)), (6, .int (nI rq)), (5, .int (nI gq)), (4, .int xx), (3, .int (nI tt)), (0, .ref b), (1, .ref (aG 0)), (2, .ref sa)]) hx hb dL_law_756 hl (k := 0) rfl (nI_1 k9) (by decide) rfl (fun ls hl => ?_)
                              refine lv_goto (tgt := 668) hx hb dL_law_759 (by decide) ?_
                              exact ihk9 H _ ls (by omega) ⟨hP, hD, hS, lv_sub hl [0, 1, 2, 3, 4, 5, 6, 7, 8, 9, 10, 11, 12, 13, 14, 15] rfl⟩
                            · skip
                              refine lv_iload hx hb dL_law_737 (lv_at hl 1 rfl) ?_
                              refine lv_aload_n hx hb dL_law_739 rfl (lv_at hl 14 rfl) ?_
                              refine lv_iload hx hb dL_law_740 (lv_at hl 0 rfl) ?_
                              refine lv_iconst (v := 0) hx hb dL_law_742 (by decide) ?_
                              have hPc : va_P (dC, dI) vwCl (gcW aG kG f1d f2d drd cld trd sed (nI gq) (nI rd) infd (nI ctd)) _ := hP.sub [0, 1, 2, 3, 4, 5, 6] rfl
                              have hKc : va_K (dC, dI) vwCl (gcT kG) s := hK.sub [0, 1, 2, 3, 4, 5] rfl
                              refine va_calli (va_runV (As := [.int (nI k9), .int 0]) (rest := [.int (gAt 20 cld (nI u9))]) ⟨hx, hb, hml, hown, hts⟩ (c_X0_told l dC dI aG kG f1d f2d drd cld trd sed gq rd infd ctd k9 0 (by first | assumption | omega) (by first | assumption | omega) (by first | assumption | omega)) (cwV 2 hts gL_law_X0_told rfl rfl rfl (by decide +kernel) ⟨Nat.le_of_ble_eq_true rfl, Nat.le_of_ble_eq_true rfl⟩) ⟨gcPR_blind, va_recv hK hP (ci := 0) (q0 := 0) rfl rfl, fun U hU hW => ⟨rfl, by rw [hU]; exact hPc, va_K.moved hW.alike hKc⟩⟩ rfl rfl hl.1 rfl (lv_room (Nat.le_of_ble_eq_true rfl)) dL_law_743 ⟨by show _ ≤ (600172 : Nat); omega, by show _ ≤ (7300668 : Nat); omega⟩) hS (fun q _ h => h.elim) (fun q h => h.elim) (fun r21 u t H locs ht hvm hw hB hz1 hk1 hS => ?_)
                              have hP := gc_keep hP hk1
                              have hw : r21 = gTo f1d f2d infd k9 0 := hw
                              subst hw
                              clear hw
                              clear hB hz1 hk1 ht hvm
                              clear hPc hKc
                              refine gc_topi (y := nI (Kd.2.1 k9)) (by rw [told_eq hOKd hr30d (by omega) (by decide)]; rfl) ?_
                              refine lv_iconst (v := 1) hx hb dL_law_746 (by decide) ?_
                              refine lv_ixor hx hb dL_law_747 ?_
                              refine gc_topi (y := nI (Kd.2.1 k9 ^^^ 1)) (nI_xor1 _) ?_
                              refine lv_ishr hx hb dL_law_748 ?_
                              refine lv_iconst (v := 1) hx hb dL_law_749 (by decide) ?_
                              refine lv_iand hx hb dL_law_750 ?_
                              refine gc_topi (y := gB (fo Kd u9 (Kd.2.1 k9 ^^^ 1))) (by rw [bitv, cl_has hCld (by omega) (by have := xor1_lt hk1; omega)]) ?_
                              refine lv_if_ne (tgt := 756) hx hb dL_law_751 (by decide) (fun c_751 => ?_) (fun c_751 => ?_)
                              · skip
                                have c_751 := gB_t c_751
                                refine lv_iinc (v := nI (k9 + 1)) (lv' := [(16, .int (nI (k9 + 1))), (15, .int (gAt 20 cld (nI u9))), (14, .int (nI u9)), (12, .int (nI wb)), (11, .int (nI wa)), (10, .int mo), (9, .int fe), (8, .int su), (7, .int (nI al)), (6, .int (nI rq)), (5, .int (nI gq)), (4, .int xx), (3, .int (nI tt)), (0, .ref b), (1, .ref (aG 0)), (2, .ref sa)]) hx hb dL_law_756 hl (k := 0) rfl (nI_1 k9) (by decide) rfl (fun ls hl => ?_)
                                refine lv_goto (tgt := 668) hx hb dL_law_759 (by decide) ?_
                                exact ihk9 H _ ls (by omega) ⟨hP, hD, hS, lv_sub hl [0, 1, 2, 3, 4, 5, 6, 7, 8, 9, 10, 11, 12, 13, 14, 15] rfl⟩
                              · skip
                                have c_751 := gB_f c_751
                                exact absurd (fo_back (by omega) c_682 (gB_eq1 c_734)) (by rw [c_751]; decide)
                      · skip
                        have c_682 := gB_f c_682
                        refine lv_goto (tgt := 756) hx hb dL_law_685 (by decide) ?_
                        refine lv_iinc (v := nI (k9 + 1)) (lv' := [(16, .int (nI (k9 + 1))), (15, .int (gAt 20 cld (nI u9))), (14, .int (nI u9)), (12, .int (nI wb)), (11, .int (nI wa)), (10, .int mo), (9, .int fe), (8, .int su), (7, .int (nI al)), (6, .int (nI rq)), (5, .int (nI gq)), (4, .int xx), (3, .int (nI tt)), (0, .ref b), (1, .ref (aG 0)), (2, .ref sa)]) hx hb dL_law_756 hl (k := 0) rfl (nI_1 k9) (by decide) rfl (fun ls hl => ?_)
                        refine lv_goto (tgt := 668) hx hb dL_law_759 (by decide) ?_
                        exact ihk9 H _ ls (by omega) ⟨hP, hD, hS, lv_sub hl [0, 1, 2, 3, 4, 5, 6, 7, 8, 9, 10, 11, 12, 13, 14, 15] rfl⟩
                  · skip
                    exact absurd c_660 (by decide)
              · skip
                by_cases hfc : gFt clc gq = true
                · skip
                  refine gc_topi (y := (-1)) (by rw [if_pos hfc]) ?_
                  refine lv_istore (lv' := [(13, .int (-1)), (12, .int (nI wb)), (11, .int (nI wa)), (10, .int mo), (9, .int fe), (8, .int su), (7, .int (nI al)), (6, .int (nI rq)), (5, .int (nI gq)), (4, .int xx), (3, .int (nI tt)), (0, .ref b), (1, .ref (aG 0)), (2, .ref sa)]) hx hb dL_law_564 hl (by decide) rfl (fun ls hl => ?_)
                  refine lv_iload hx hb dL_law_566 (lv_at hl 6 rfl) ?_
                  refine lv_if_le (tgt := 577) hx hb dL_law_568 (by decide) (fun c_568 => ?_) (fun c_568 => ?_)
                  · skip
                    refine lv_iload hx hb dL_law_577 (lv_at hl 0 rfl) ?_
                    refine lv_if_lt (tgt := 594) hx hb dL_law_579 (by decide) (fun _ => ?_) (fun h => absurd (by decide) h)
                    refine lv_iload hx hb dL_law_594 (lv_at hl 0 rfl) ?_
                    refine lv_if_lt (tgt := 633) hx hb dL_law_596 (by decide) (fun _ => ?_) (fun h => absurd (by decide) h)
                    refine W.widen (k := 39 + 6 * tt) (n := 1669 + 102 * tt) (by omega) (by omega) ?_
                    exact hJ564 dj440 H _ _ hdj440 ⟨⟨ctc, Kc, rc, f1c, f2c, drc, clc, tr213, sec, infc, ruc, rrc, by omega, hIc, hP, hD, hS⟩, lv_sub hl [1, 2, 3, 4, 5, 6, 7, 8, 9, 10, 11, 12, 13] rfl⟩
                  · skip
                    refine lv_iload hx hb dL_law_571 (lv_at hl 0 rfl) ?_
                    refine lv_iconst (v := -1) hx hb dL_law_573 (by decide) ?_
                    refine lv_icmp_ne (tgt := 592) hx hb dL_law_574 (by decide) (fun h => absurd rfl h) (fun _ => ?_)
                    refine lv_iload hx hb dL_law_577 (lv_at hl 0 rfl) ?_
                    refine lv_if_lt (tgt := 594) hx hb dL_law_579 (by decide) (fun _ => ?_) (fun h => absurd (by decide) h)
                    refine lv_iload hx hb dL_law_594 (lv_at hl 0 rfl) ?_
                    refine lv_if_lt (tgt := 633) hx hb dL_law_596 (by decide) (fun _ => ?_) (fun h => absurd (by decide) h)
                    refine W.widen (k := 39 + 6 * tt) (n := 1669 + 102 * tt) (by omega) (by omega) ?_
                    exact hJ564 dj440 H _ _ hdj440 ⟨⟨ctc, Kc, rc, f1c, f2c, drc, clc, tr213, sec, infc, ruc, rrc, by omega, hIc, hP, hD, hS⟩, lv_sub hl [1, 2, 3, 4, 5, 6, 7, 8, 9, 10, 11, 12, 13] rfl⟩
                rcases gFst_cases (gBp Kc gq) (n := rc) (by omega) with hbk | ⟨jb, hjb1, hbk, hjb2, hjb3⟩
                · skip
                  refine gc_topi (y := (-1)) (by rw [if_neg hfc]; exact hbk) ?_
                  refine lv_istore (lv' := [(13, .int (-1)), (12, .int (nI wb)), (11, .int (nI wa)), (10, .int mo), (9, .int fe), (8, .int su), (7, .int (nI al)), (6, .int (nI rq)), (5, .int (nI gq)), (4, .int xx), (3, .int (nI tt)), (0, .ref b), (1, .ref (aG 0)), (2, .ref sa)]) hx hb dL_law_564 hl (by decide) rfl (fun ls hl => ?_)
                  refine lv_iload hx hb dL_law_566 (lv_at hl 6 rfl) ?_
                  refine lv_if_le (tgt := 577) hx hb dL_law_568 (by decide) (fun c_568 => ?_) (fun c_568 => ?_)
                  · skip
                    refine lv_iload hx hb dL_law_577 (lv_at hl 0 rfl) ?_
                    refine lv_if_lt (tgt := 594) hx hb dL_law_579 (by decide) (fun _ => ?_) (fun h => absurd (by decide) h)
                    refine lv_iload hx hb dL_law_594 (lv_at hl 0 rfl) ?_
                    refine lv_if_lt (tgt := 633) hx hb dL_law_596 (by decide) (fun _ => ?_) (fun h => absurd (by decide) h)
                    refine W.widen (k := 39 + 6 * tt) (n := 1669 + 102 * tt) (by omega) (by omega) ?_
                    exact hJ564 dj440 H _ _ hdj440 ⟨⟨ctc, Kc, rc, f1c, f2c, drc, clc, tr213, sec, infc, ruc, rrc, by omega, hIc, hP, hD, hS⟩, lv_sub hl [1, 2, 3, 4, 5, 6, 7, 8, 9, 10, 11, 12, 13] rfl⟩
                  · skip
                    refine lv_iload hx hb dL_law_571 (lv_at hl 0 rfl) ?_
                    refine lv_iconst (v := -1) hx hb dL_law_573 (by decide) ?_
                    refine lv_icmp_ne (tgt := 592) hx hb dL_law_574 (by decide) (fun h => absurd rfl h) (fun _ => ?_)
                    refine lv_iload hx hb dL_law_577 (lv_at hl 0 rfl) ?_
                    refine lv_if_lt (tgt := 594) hx hb dL_law_579 (by decide) (fun _ => ?_) (fun h => absurd (by decide) h)
                    refine lv_iload hx hb dL_law_594 (lv_at hl 0 rfl) ?_
                    refine lv_if_lt (tgt := 633) hx hb dL_law_596 (by decide) (fun _ => ?_) (fun h => absurd (by decide) h)
                    refine W.widen (k := 39 + 6 * tt) (n := 1669 + 102 * tt) (by omega) (by omega) ?_
                    exact hJ564 dj440 H _ _ hdj440 ⟨⟨ctc, Kc, rc, f1c, f2c, drc, clc, tr213, sec, infc, ruc, rrc, by omega, hIc, hP, hD, hS⟩, lv_sub hl [1, 2, 3, 4, 5, 6, 7, 8, 9, 10, 11, 12, 13] rfl⟩
                · skip
                  have hal0c : ctc = 0 := by (rcases Nat.eq_zero_or_pos ctc with q | q; exact q; exact absurd (by rw [hftc]; exact decide_eq_true q) hfc)
                  have hjo : Kc.2.2.2 jb = true := by (have q := hjb2; unfold gBp at q; cases h : Kc.2.2.2 jb; (rw [h] at q; exact absurd q (by simp)); rfl)
                  have hjf : ft (kL Kc (nI jb)) gq = true := by (have q := hjb2; unfold gBp at q; rw [hjo] at q; exact q)
                  refine gc_topi (y := nI jb) (by rw [if_neg hfc]; exact hbk) ?_
                  refine lv_istore (lv' := [(13, .int (nI jb)), (12, .int (nI wb)), (11, .int (nI wa)), (10, .int mo), (9, .int fe), (8, .int su), (7, .int (nI al)), (6, .int (nI rq)), (5, .int (nI gq)), (4, .int xx), (3, .int (nI tt)), (0, .ref b), (1, .ref (aG 0)), (2, .ref sa)]) hx hb dL_law_564 hl (by decide) rfl (fun ls hl => ?_)
                  refine lv_iload hx hb dL_law_566 (lv_at hl 6 rfl) ?_
                  refine lv_if_le (tgt := 577) hx hb dL_law_568 (by decide) (fun c_568 => ?_) (fun c_568 => ?_)
                  · skip
                    refine lv_iload hx hb dL_law_577 (lv_at hl 0 rfl) ?_
                    refine lv_if_lt (tgt := 594) hx hb dL_law_579 (by decide) (fun c_579 => ?_) (fun c_579 => ?_)
                    · skip
                      exact absurd ((nI_ltI (a := jb) (b := 0) (by omega) (by decide)).mp c_579) (by omega)
                    · skip
                      refine lv_aload_n hx hb dL_law_582 rfl (lv_at hl 12 rfl) ?_
                      refine lv_iload hx hb dL_law_583 (lv_at hl 0 rfl) ?_
                      refine lv_iconst (v := 2) hx hb dL_law_585 (by decide) ?_
                      have hPc : va_P (dC, dI) vwCl (gcW aG kG f1c f2c drc clc tr213 sec (nI gq) (nI rc) infc (nI ctc)) _ := hP.sub [0, 1, 2, 3, 4, 5, 6] rfl
                      have hKc : va_K (dC, dI) vwCl (gcT kG) s := hK.sub [0, 1, 2, 3, 4, 5] rfl
                      refine va_calli (va_runV (As := [.int (nI jb), .int 2]) (rest := []) ⟨hx, hb, hml, hown, hts⟩ (c_X0_told l dC dI aG kG f1c f2c drc clc tr213 sec gq rc infc ctc jb 2 (by first | assumption | omega) (by first | assumption | omega) (by first | assumption | omega)) (cwV 2 hts gL_law_X0_told rfl rfl rfl (by decide +kernel) ⟨Nat.le_of_ble_eq_true rfl, Nat.le_of_ble_eq_true rfl⟩) ⟨gcPR_blind, va_recv hK hP (ci := 0) (q0 := 0) rfl rfl, fun U hU hW => ⟨rfl, by rw [hU]; exact hPc, va_K.moved hW.alike hKc⟩⟩ rfl rfl hl.1 rfl (lv_room (Nat.le_of_ble_eq_true rfl)) dL_law_586 ⟨by show _ ≤ (600172 : Nat); omega, by show _ ≤ (7300668 : Nat); omega⟩) hS (fun q _ h => h.elim) (fun q h => h.elim) (fun r22 u t H locs ht hvm hw hB hz1 hk1 hS => ?_)
                      have hP := gc_keep hP hk1
                      have hw : r22 = gTo f1c f2c infc jb 2 := hw
                      subst hw
                      clear hw
                      clear hB hz1 hk1 ht hvm
                      clear hPc hKc
                      refine gc_topi (y := 1) (by rw [told_eq hOKc hr30c hjb1 (by decide)]; show gB (Kc.2.2.2 jb) = 1; rw [hjo]; rfl) ?_
                      refine lv_if_ne (tgt := 594) hx hb dL_law_589 (by decide) (fun c_589 => ?_) (fun c_589 => ?_)
                      · skip
                        refine lv_iload hx hb dL_law_594 (lv_at hl 0 rfl) ?_
                        refine lv_if_lt (tgt := 633) hx hb dL_law_596 (by decide) (fun c_596 => ?_) (fun c_596 => ?_)
                        · skip
                          exact absurd ((nI_ltI (a := jb) (b := 0) (by omega) (by decide)).mp c_596) (by omega)
                        · skip
                          refine lv_aload_n hx hb dL_law_599 rfl (lv_at hl 12 rfl) ?_
                          refine lv_iload hx hb dL_law_600 (lv_at hl 0 rfl) ?_
                          have hPc : va_P (dC, dI) vwCl (gcW aG kG f1c f2c drc clc tr213 sec (nI gq) (nI rc) infc (nI ctc)) _ := hP.sub [0, 1, 2, 3, 4, 5, 6] rfl
                          have hKc : va_K (dC, dI) vwCl (gcT kG) s := hK.sub [0, 1, 2, 3, 4, 5] rfl
                          have hDc : va_D A (gcW aG kG f1c f2c drc clc tr213 sec (nI gq) (nI rc) infc (nI ctc)) := hD.sub [0, 1, 2, 3, 4, 5, 6] (by decide) rfl
                          have hFc := va_free (wc := (gcW aG kG f1c f2c drc clc tr213 sec (nI gq) (nI rc) infc (nI ctc))) hD hS hA [0, 1, 2, 3, 4, 5, 6] rfl
                          refine va_calli (va_runV (As := [.int (nI jb)]) (rest := []) ⟨hx, hb, hml, hown, hts⟩ (c_X0_turn l dC dI aG kG f1c f2c drc clc tr213 sec gq rc infc ctc jb H.size (by first | assumption | omega) (by first | assumption | omega) (by first | assumption | omega)) (cwV 1 hts gL_law_X0_turn rfl rfl rfl (by decide +kernel) ⟨Nat.le_of_ble_eq_true rfl, Nat.le_of_ble_eq_true rfl⟩) ⟨gcPM_blind, va_recv hK hP (ci := 0) (q0 := 0) rfl rfl, fun U hU hW => ⟨rfl, by rw [hU], by rw [hU]; exact hPc, va_K.moved hW.alike hKc, hDc.weaken (fun _ _ _ _ => trivial)⟩⟩ rfl rfl hl.1 rfl (lv_room (Nat.le_of_ble_eq_true rfl)) dL_law_602 ⟨by show _ ≤ (600172 : Nat); omega, by show _ ≤ (7300668 : Nat); omega⟩) hS (fun q _ h => hFc q h) hFc (fun r23 u t H locs ht hvm hw hB hz1 hk1 hS => ?_)
                          obtain ⟨hP1, hD1⟩ := hB
                          rw [ht] at hP1
                          obtain ⟨hP, hD⟩ := va_joinQ (wr := [(sa, .inr (1, [.int (nI gq), .ref ruc, .null, .null, .int 0])), (ruc, qa_R kA rc (qa_up rc rrc))]) (w1 := (gcW aG kG f1c f2c (gLA f1c f2c (infc ^^^ ((1 : Int32) <<< (nI jb &&& 31))) (-1) rc drc) (gCl (gLA f1c f2c (infc ^^^ ((1 : Int32) <<< (nI jb &&& 31))) (-1) rc clc) 20) tr213 ((gLs (gCl (gLA f1c f2c (infc ^^^ ((1 : Int32) <<< (nI jb &&& 31))) (-1) rc clc) 20) sec gq gq).1) (nI gq) (nI rc) (infc ^^^ ((1 : Int32) <<< (nI jb &&& 31))) (nI (gLs (gCl (gLA f1c f2c (infc ^^^ ((1 : Int32) <<< (nI jb &&& 31))) (-1) rc clc) 20) sec gq gq).2))) hP hD [0, 1, 2, 3, 4, 5, 6] [7, 8] rfl rfl (by decide) (by decide) hk1 hFc hP1 hD1
                          have hP : va_P (dC, dI) vwCl ((gcW aG kG f1c f2c (gLA f1c f2c (infc ^^^ ((1 : Int32) <<< (nI jb &&& 31))) (-1) rc drc) (gCl (gLA f1c f2c (infc ^^^ ((1 : Int32) <<< (nI jb &&& 31))) (-1) rc clc) 20) tr213 ((gLs (gCl (gLA f1c f2c (infc ^^^ ((1 : Int32) <<< (nI jb &&& 31))) (-1) rc clc) 20) sec gq gq).1) (nI gq) (nI rc) (infc ^^^ ((1 : Int32) <<< (nI jb &&& 31))) (nI (gLs (gCl (gLA f1c f2c (infc ^^^ ((1 : Int32) <<< (nI jb &&& 31))) (-1) rc clc) 20) sec gq gq).2) ++ ([(sa, .inr (1, [.int (nI gq), .ref ruc, .null, .null, .int 0]))] ++ ([(ruc, qa_R kA rc (qa_up rc rrc))]))) ++ (qT rc rrc (qE kI 3 (qF Kc)) ++ [])) H := hP.part [2, 3, 4, 5, 6, 7, 8, 0, 1] rfl
                          have hD : va_D A ((gcW aG kG f1c f2c (gLA f1c f2c (infc ^^^ ((1 : Int32) <<< (nI jb &&& 31))) (-1) rc drc) (gCl (gLA f1c f2c (infc ^^^ ((1 : Int32) <<< (nI jb &&& 31))) (-1) rc clc) 20) tr213 ((gLs (gCl (gLA f1c f2c (infc ^^^ ((1 : Int32) <<< (nI jb &&& 31))) (-1) rc clc) 20) sec gq gq).1) (nI gq) (nI rc) (infc ^^^ ((1 : Int32) <<< (nI jb &&& 31))) (nI (gLs (gCl (gLA f1c f2c (infc ^^^ ((1 : Int32) <<< (nI jb &&& 31))) (-1) rc clc) 20) sec gq gq).2) ++ ([(sa, .inr (1, [.int (nI gq), .ref ruc, .null, .null, .int 0]))] ++ ([(ruc, qa_R kA rc (qa_up rc rrc))]))) ++ (qT rc rrc (qE kI 3 (qF Kc)) ++ [])) := hD.part [2, 3, 4, 5, 6, 7, 8, 0, 1] (by decide) rfl
                          have hw : r23 = gB (gHas (infc ^^^ ((1 : Int32) <<< (nI jb &&& 31))) (nI jb)) := hw
                          subst hw
                          clear hw
                          clear hz1 hk1 ht hvm hP1 hD1 hFc hDc
                          clear hPc hKc
                          refine gc_topi (y := 0) (by rw [turn_eq hOKc hr30c hjb1, hjo]; rfl) ?_
                          have hIe : Inv (kTurn Kc jb) gq rc f1c f2c (infc ^^^ ((1 : Int32) <<< (nI jb &&& 31))) (gLA f1c f2c (infc ^^^ ((1 : Int32) <<< (nI jb &&& 31))) (-1) rc drc) (gCl (gLA f1c f2c (infc ^^^ ((1 : Int32) <<< (nI jb &&& 31))) (-1) rc clc) 20) ((gLs (gCl (gLA f1c f2c (infc ^^^ ((1 : Int32) <<< (nI jb &&& 31))) (-1) rc clc) 20) sec gq gq).1) ((gLs (gCl (gLA f1c f2c (infc ^^^ ((1 : Int32) <<< (nI jb &&& 31))) (-1) rc clc) 20) sec gq gq).2) := Inv_turn hIc hjb1
                          generalize ((gLs (gCl (gLA f1c f2c (infc ^^^ ((1 : Int32) <<< (nI jb &&& 31))) (-1) rc clc) 20) sec gq gq).2) = cte at hP hD hIe
                          generalize (gLs (gCl (gLA f1c f2c (infc ^^^ ((1 : Int32) <<< (nI jb &&& 31))) (-1) rc clc) 20) sec gq gq).1 = see at hP hD hIe
                          generalize gCl (gLA f1c f2c (infc ^^^ ((1 : Int32) <<< (nI jb &&& 31))) (-1) rc clc) 20 = cle at hP hD hIe
                          generalize gLA f1c f2c (infc ^^^ ((1 : Int32) <<< (nI jb &&& 31))) (-1) rc drc = dre at hP hD hIe
                          generalize (infc ^^^ ((1 : Int32) <<< (nI jb &&& 31))) = infe at hP hD hIe
                          obtain ⟨f1e, e9f1e⟩ : ∃ z, z = f1c := ⟨_, rfl⟩
                          clear e9f1e
                          obtain ⟨f2e, e9f2e⟩ : ∃ z, z = f2c := ⟨_, rfl⟩
                          clear e9f2e
                          have hP : va_P (dC, dI) vwCl ((gcW aG kG f1c f2c dre cle tr213 see (nI gq) (nI rc) infe (nI cte) ++ ([(sa, .inr (1, [.int (nI gq), .ref ruc, .null, .null, .int 0]))] ++ ([(ruc, qa_R kA rc (qa_up rc rrc))]))) ++ (qT rc rrc (qE kI 3 (qF Kc)) ++ [])) H := hP
                          have hD : va_D A ((gcW aG kG f1c f2c dre cle tr213 see (nI gq) (nI rc) infe (nI cte) ++ ([(sa, .inr (1, [.int (nI gq), .ref ruc, .null, .null, .int 0]))] ++ ([(ruc, qa_R kA rc (qa_up rc rrc))]))) ++ (qT rc rrc (qE kI 3 (qF Kc)) ++ [])) := hD
                          obtain ⟨hg7e, hr30e, hOKe, hze, hnee, hDre, hCle, s0e, hsee, hcte⟩ := id hIe
                          have hKge := gOK_Kg hOKe
                          have hKre : (kTurn Kc jb).1 = rc := hOKe.1
                          have hLFe : LF (kTurn Kc jb) gq see cte := by rw [hsee, hcte]; exact LF_of (by omega) hKge hCle s0e
                          have hc1024e : cte ≤ 1024 := hLFe.2
                          have hKr30e : (kTurn Kc jb).1 ≤ 30 := by omega
                          have hfte : gFt cle gq = decide (0 < cte) := by rw [hcte]; exact ft_pos (by omega) hKge hCle s0e
                          have hcne : cte = fb_ct (sb (kTurn Kc jb)) (2 ^ gq) := LF_count hKge hLFe
                          refine lv_if_ne (tgt := 631) hx hb dL_law_605 (by decide) (fun c_605 => ?_) (fun c_605 => ?_)
                          · skip
                            exact absurd (by decide) c_605
                          · skip
                            refine lv_aload_n hx hb dL_law_608 rfl (lv_at hl 12 rfl) ?_
                            have hPc : va_P (dC, dI) vwCl (gcW aG kG f1c f2c dre cle tr213 see (nI gq) (nI rc) infe (nI cte)) _ := hP.sub [0, 1, 2, 3, 4, 5, 6] rfl
                            have hKc : va_K (dC, dI) vwCl (gcT kG) s := hK.sub [0, 1, 2, 3, 4, 5] rfl
                            refine va_calli (va_runV (As := []) (rest := []) ⟨hx, hb, hml, hown, hts⟩ (c_X0_fits l dC dI aG kG f1c f2c dre cle tr213 see gq rc infe cte (by first | assumption | omega) (by first | assumption | omega)) (cwV 0 hts gL_law_X0_fits rfl rfl rfl (by decide +kernel) ⟨Nat.le_of_ble_eq_true rfl, Nat.le_of_ble_eq_true rfl⟩) ⟨gcPR_blind, va_recv hK hP (ci := 0) (q0 := 0) rfl rfl, fun U hU hW => ⟨rfl, by rw [hU]; exact hPc, va_K.moved hW.alike hKc⟩⟩ rfl rfl hl.1 rfl (lv_room (Nat.le_of_ble_eq_true rfl)) dL_law_609 ⟨by show _ ≤ (600172 : Nat); omega, by show _ ≤ (7300668 : Nat); omega⟩) hS (fun q _ h => h.elim) (fun q h => h.elim) (fun r24 u t H locs ht hvm hw hB hz1 hk1 hS => ?_)
                            have hP := gc_keep hP hk1
                            have hw : r24 = gB (gFt cle gq) := hw
                            subst hw
                            clear hw
                            clear hB hz1 hk1 ht hvm
                            clear hPc hKc
                            refine gc_topi (y := 1) (by rw [gFt_ft hCle (by omega), off_ft (by omega) hKr30c (by omega) hjo, hjf]; rfl) ?_
                            refine lv_if_eq (tgt := 631) hx hb dL_law_612 (by decide) (fun c_612 => ?_) (fun c_612 => ?_)
                            · skip
                              exact absurd c_612 (by decide)
                            · skip
                              refine lv_aload_n hx hb dL_law_615 rfl (lv_at hl 12 rfl) ?_
                              refine lv_iload hx hb dL_law_616 (lv_at hl 0 rfl) ?_
                              have hPc : va_P (dC, dI) vwCl (gcW aG kG f1c f2c dre cle tr213 see (nI gq) (nI rc) infe (nI cte)) _ := hP.sub [0, 1, 2, 3, 4, 5, 6] rfl
                              have hKc : va_K (dC, dI) vwCl (gcT kG) s := hK.sub [0, 1, 2, 3, 4, 5] rfl
                              have hDc : va_D A (gcW aG kG f1c f2c dre cle tr213 see (nI gq) (nI rc) infe (nI cte)) := hD.sub [0, 1, 2, 3, 4, 5, 6] (by decide) rfl
                              have hFc := va_free (wc := (gcW aG kG f1c f2c dre cle tr213 see (nI gq) (nI rc) infe (nI cte))) hD hS hA [0, 1, 2, 3, 4, 5, 6] rfl
                              refine va_calli (va_runV (As := [.int (nI jb)]) (rest := []) ⟨hx, hb, hml, hown, hts⟩ (c_X0_turn l dC dI aG kG f1c f2c dre cle tr213 see gq rc infe cte jb H.size (by first | assumption | omega) (by first | assumption | omega) (by first | assumption | omega)) (cwV 1 hts gL_law_X0_turn rfl rfl rfl (by decide +kernel) ⟨Nat.le_of_ble_eq_true rfl, Nat.le_of_ble_eq_true rfl⟩) ⟨gcPM_blind, va_recv hK hP (ci := 0) (q0 := 0) rfl rfl, fun U hU hW => ⟨rfl, by rw [hU], by rw [hU]; exact hPc, va_K.moved hW.alike hKc, hDc.weaken (fun _ _ _ _ => trivial)⟩⟩ rfl rfl hl.1 rfl (lv_room (Nat.le_of_ble_eq_true rfl)) dL_law_618 ⟨by show _ ≤ (600172 : Nat); omega, by show _ ≤ (7300668 : Nat); omega⟩) hS (fun q _ h => hFc q h) hFc (fun r25 u t H locs ht hvm hw hB hz1 hk1 hS => ?_)
                              obtain ⟨hP1, hD1⟩ := hB
                              rw [ht] at hP1
                              obtain ⟨hP, hD⟩ := va_joinQ (wr := [(sa, .inr (1, [.int (nI gq), .ref ruc, .null, .null, .int 0])), (ruc, qa_R kA rc (qa_up rc rrc))]) (w1 := (gcW aG kG f1c f2c (gLA f1c f2c (infe ^^^ ((1 : Int32) <<< (nI jb &&& 31))) (-1) rc dre) (gCl (gLA f1c f2c (infe ^^^ ((1 : Int32) <<< (nI jb &&& 31))) (-1) rc cle) 20) tr213 ((gLs (gCl (gLA f1c f2c (infe ^^^ ((1 : Int32) <<< (nI jb &&& 31))) (-1) rc cle) 20) see gq gq).1) (nI gq) (nI rc) (infe ^^^ ((1 : Int32) <<< (nI jb &&& 31))) (nI (gLs (gCl (gLA f1c f2c (infe ^^^ ((1 : Int32) <<< (nI jb &&& 31))) (-1) rc cle) 20) see gq gq).2))) hP hD [0, 1, 2, 3, 4, 5, 6] [7, 8] rfl rfl (by decide) (by decide) hk1 hFc hP1 hD1
                              have hP : va_P (dC, dI) vwCl ((gcW aG kG f1c f2c (gLA f1c f2c (infe ^^^ ((1 : Int32) <<< (nI jb &&& 31))) (-1) rc dre) (gCl (gLA f1c f2c (infe ^^^ ((1 : Int32) <<< (nI jb &&& 31))) (-1) rc cle) 20) tr213 ((gLs (gCl (gLA f1c f2c (infe ^^^ ((1 : Int32) <<< (nI jb &&& 31))) (-1) rc cle) 20) see gq gq).1) (nI gq) (nI rc) (infe ^^^ ((1 : Int32) <<< (nI jb &&& 31))) (nI (gLs (gCl (gLA f1c f2c (infe ^^^ ((1 : Int32) <<< (nI jb &&& 31))) (-1) rc cle) 20) see gq gq).2) ++ ([(sa, .inr (1, [.int (nI gq), .ref ruc, .null, .null, .int 0]))] ++ ([(ruc, qa_R kA rc (qa_up rc rrc))]))) ++ (qT rc rrc (qE kI 3 (qF Kc)) ++ [])) H := hP.part [2, 3, 4, 5, 6, 7, 8, 0, 1] rfl
                              have hD : va_D A ((gcW aG kG f1c f2c (gLA f1c f2c (infe ^^^ ((1 : Int32) <<< (nI jb &&& 31))) (-1) rc dre) (gCl (gLA f1c f2c (infe ^^^ ((1 : Int32) <<< (nI jb &&& 31))) (-1) rc cle) 20) tr213 ((gLs (gCl (gLA f1c f2c (infe ^^^ ((1 : Int32) <<< (nI jb &&& 31))) (-1) rc cle) 20) see gq gq).1) (nI gq) (nI rc) (infe ^^^ ((1 : Int32) <<< (nI jb &&& 31))) (nI (gLs (gCl (gLA f1c f2c (infe ^^^ ((1 : Int32) <<< (nI jb &&& 31))) (-1) rc cle) 20) see gq gq).2) ++ ([(sa, .inr (1, [.int (nI gq), .ref ruc, .null, .null, .int 0]))] ++ ([(ruc, qa_R kA rc (qa_up rc rrc))]))) ++ (qT rc rrc (qE kI 3 (qF Kc)) ++ [])) := hD.part [2, 3, 4, 5, 6, 7, 8, 0, 1] (by decide) rfl
                              have hw : r25 = gB (gHas (infe ^^^ ((1 : Int32) <<< (nI jb &&& 31))) (nI jb)) := hw
                              subst hw
                              clear hw
                              clear hz1 hk1 ht hvm hP1 hD1 hFc hDc
                              clear hPc hKc
                              refine gc_topi (y := 1) (by rw [turn_eq hOKe hr30e hjb1]; simp [kTurn, hjo, gB]) ?_
                              have hIf : Inv (kTurn (kTurn Kc jb) jb) gq rc f1c f2c (infe ^^^ ((1 : Int32) <<< (nI jb &&& 31))) (gLA f1c f2c (infe ^^^ ((1 : Int32) <<< (nI jb &&& 31))) (-1) rc dre) (gCl (gLA f1c f2c (infe ^^^ ((1 : Int32) <<< (nI jb &&& 31))) (-1) rc cle) 20) ((gLs (gCl (gLA f1c f2c (infe ^^^ ((1 : Int32) <<< (nI jb &&& 31))) (-1) rc cle) 20) see gq gq).1) ((gLs (gCl (gLA f1c f2c (infe ^^^ ((1 : Int32) <<< (nI jb &&& 31))) (-1) rc cle) 20) see gq gq).2) := Inv_turn hIe hjb1
                              generalize ((gLs (gCl (gLA f1c f2c (infe ^^^ ((1 : Int32) <<< (nI jb &&& 31))) (-1) rc cle) 20) see gq gq).2) = ctf at hP hD hIf
                              generalize (gLs (gCl (gLA f1c f2c (infe ^^^ ((1 : Int32) <<< (nI jb &&& 31))) (-1) rc cle) 20) see gq gq).1 = sef at hP hD hIf
                              generalize gCl (gLA f1c f2c (infe ^^^ ((1 : Int32) <<< (nI jb &&& 31))) (-1) rc cle) 20 = clf at hP hD hIf
                              generalize gLA f1c f2c (infe ^^^ ((1 : Int32) <<< (nI jb &&& 31))) (-1) rc dre = drf at hP hD hIf
                              generalize (infe ^^^ ((1 : Int32) <<< (nI jb &&& 31))) = inff at hP hD hIf
                              obtain ⟨f1f, e9f1f⟩ : ∃ z, z = f1c := ⟨_, rfl⟩
                              clear e9f1f
                              obtain ⟨f2f, e9f2f⟩ : ∃ z, z = f2c := ⟨_, rfl⟩
                              clear e9f2f
                              have hP : va_P (dC, dI) vwCl ((gcW aG kG f1c f2c drf clf tr213 sef (nI gq) (nI rc) inff (nI ctf) ++ ([(sa, .inr (1, [.int (nI gq), .ref ruc, .null, .null, .int 0]))] ++ ([(ruc, qa_R kA rc (qa_up rc rrc))]))) ++ (qT rc rrc (qE kI 3 (qF Kc)) ++ [])) H := hP
                              have hD : va_D A ((gcW aG kG f1c f2c drf clf tr213 sef (nI gq) (nI rc) inff (nI ctf) ++ ([(sa, .inr (1, [.int (nI gq), .ref ruc, .null, .null, .int 0]))] ++ ([(ruc, qa_R kA rc (qa_up rc rrc))]))) ++ (qT rc rrc (qE kI 3 (qF Kc)) ++ [])) := hD
                              rw [kTurn_2] at hIf
                              obtain ⟨hg7f, hr30f, hOKf, hzf, hnef, hDrf, hClf, s0f, hsef, hctf⟩ := id hIf
                              have hKgf := gOK_Kg hOKf
                              have hKrf : (Kc).1 = rc := hOKf.1
                              have hLFf : LF (Kc) gq sef ctf := by rw [hsef, hctf]; exact LF_of (by omega) hKgf hClf s0f
                              have hc1024f : ctf ≤ 1024 := hLFf.2
                              have hKr30f : (Kc).1 ≤ 30 := by omega
                              have hftf : gFt clf gq = decide (0 < ctf) := by rw [hctf]; exact ft_pos (by omega) hKgf hClf s0f
                              have hcnf : ctf = fb_ct (sb (Kc)) (2 ^ gq) := LF_count hKgf hLFf
                              refine lv_if_eq (tgt := 631) hx hb dL_law_621 (by decide) (fun c_621 => ?_) (fun c_621 => ?_)
                              · skip
                                exact absurd c_621 (by decide)
                              · skip
                                refine lv_aload_n hx hb dL_law_624 rfl (lv_at hl 12 rfl) ?_
                                have hPc : va_P (dC, dI) vwCl (gcW aG kG f1c f2c drf clf tr213 sef (nI gq) (nI rc) inff (nI ctf)) _ := hP.sub [0, 1, 2, 3, 4, 5, 6] rfl
                                have hKc : va_K (dC, dI) vwCl (gcT kG) s := hK.sub [0, 1, 2, 3, 4, 5] rfl
                                refine va_calli (va_runV (As := []) (rest := []) ⟨hx, hb, hml, hown, hts⟩ (c_X0_fits l dC dI aG kG f1c f2c drf clf tr213 sef gq rc inff ctf (by first | assumption | omega) (by first | assumption | omega)) (cwV 0 hts gL_law_X0_fits rfl rfl rfl (by decide +kernel) ⟨Nat.le_of_ble_eq_true rfl, Nat.le_of_ble_eq_true rfl⟩) ⟨gcPR_blind, va_recv hK hP (ci := 0) (q0 := 0) rfl rfl, fun U hU hW => ⟨rfl, by rw [hU]; exact hPc, va_K.moved hW.alike hKc⟩⟩ rfl rfl hl.1 rfl (lv_room (Nat.le_of_ble_eq_true rfl)) dL_law_625 ⟨by show _ ≤ (600172 : Nat); omega, by show _ ≤ (7300668 : Nat); omega⟩) hS (fun q _ h => h.elim) (fun q h => h.elim) (fun r26 u t H locs ht hvm hw hB hz1 hk1 hS => ?_)
                                have hP := gc_keep hP hk1
                                have hw : r26 = gB (gFt clf gq) := hw
                                subst hw
                                clear hw
                                clear hB hz1 hk1 ht hvm
                                clear hPc hKc
                                refine gc_topi (y := 0) (by rw [gFt_ft hClf (by omega), ← gFt_ft hClc (by omega)]; cases h : gFt clc gq; rfl; exact absurd h hfc) ?_
                                refine lv_if_eq (tgt := 633) hx hb dL_law_628 (by decide) (fun c_628 => ?_) (fun c_628 => ?_)
                                · skip
                                  refine W.widen (k := 39 + 6 * tt) (n := 1669 + 102 * tt) (by omega) (by omega) ?_
                                  exact hJ564 dj440 H _ _ hdj440 ⟨⟨ctf, Kc, rc, f1c, f2c, drf, clf, tr213, sef, inff, ruc, rrc, by omega, hIf, hP, hD, hS⟩, lv_sub hl [1, 2, 3, 4, 5, 6, 7, 8, 9, 10, 11, 12, 13] rfl⟩
                                · skip
                                  exact absurd (by decide) c_628
                      · skip
                        exact absurd c_589 (by decide)
                  · skip
                    exact absurd (by rw [← heqc, hal0c]; decide) c_568
            · skip
              refine lv_iload hx hb dL_law_440 (lv_at hl 1 rfl) ?_
              refine lv_iload hx hb dL_law_442 (lv_at hl 0 rfl) ?_
              refine lv_icmp_eq (tgt := 560) hx hb dL_law_444 (by decide) (fun c_444 => ?_) (fun c_444 => ?_)
              · skip
                refine W.widen (k := 39 + 6 * tt) (n := 1669 + 102 * tt) (by omega) (by omega) ?_
                rw [← hal0] at hP hD
                exact hJ440 dj396 H _ _ hdj396 ⟨⟨Kq, rq, f1q, f2q, drq, clq, trq, seq, infq, ruq, rrq, by omega, by rw [hal0]; exact hIq, hP, hD, hS⟩, lv_sub hl [0, 1, 2, 3, 4, 5, 6, 7, 8, 9, 10, 11, 12] rfl⟩
              · skip
                have hne9 : ¬ wa = wb := fun q => c_444 (by rw [q])
                refine lv_iload hx hb dL_law_447 (lv_at hl 6 rfl) ?_
                refine lv_bipush (v := 30) hx hb dL_law_449 (by decide) ?_
                refine lv_icmp_ge (tgt := 560) hx hb dL_law_451 (by decide) (fun c_451 => ?_) (fun c_451 => ?_)
                · skip
                  refine W.widen (k := 39 + 6 * tt) (n := 1669 + 102 * tt) (by omega) (by omega) ?_
                  rw [← hal0] at hP hD
                  exact hJ440 dj396 H _ _ hdj396 ⟨⟨Kq, rq, f1q, f2q, drq, clq, trq, seq, infq, ruq, rrq, by omega, by rw [hal0]; exact hIq, hP, hD, hS⟩, lv_sub hl [0, 1, 2, 3, 4, 5, 6, 7, 8, 9, 10, 11, 12] rfl⟩
                · skip
                  have hr9 : rq < 30 := Nat.not_le.mp (fun q => c_451 (nI_le (a := 30) q (by omega)))
                  refine lv_aload_n hx hb dL_law_454 rfl (lv_at hl 11 rfl) ?_
                  refine lv_iload hx hb dL_law_455 (lv_at hl 1 rfl) ?_
                  refine lv_iload hx hb dL_law_457 (lv_at hl 0 rfl) ?_
                  have hPc : va_P (dC, dI) vwCl (gcW aG kG f1q f2q drq clq trq seq (nI gq) (nI rq) infq (nI ctq)) _ := hP.sub [0, 1, 2, 3, 4, 5, 6] rfl
                  have hKc : va_K (dC, dI) vwCl (gcT kG) s := hK.sub [0, 1, 2, 3, 4, 5] rfl
                  refine va_calli (va_runV (As := [.int (nI wa), .int (nI wb)]) (rest := []) ⟨hx, hb, hml, hown, hts⟩ (c_X0_tightens l dC dI aG kG f1q f2q drq clq trq seq gq rq infq ctq wa wb (by first | assumption | omega) (by first | assumption | omega) (by first | assumption | omega) (by first | assumption | omega)) (cwV 2 hts gL_law_X0_tightens rfl rfl rfl (by decide +kernel) ⟨Nat.le_of_ble_eq_true rfl, Nat.le_of_ble_eq_true rfl⟩) ⟨gcPR_blind, va_recv hK hP (ci := 0) (q0 := 0) rfl rfl, fun U hU hW => ⟨rfl, by rw [hU]; exact hPc, va_K.moved hW.alike hKc⟩⟩ rfl rfl hl.1 rfl (lv_room (Nat.le_of_ble_eq_true rfl)) dL_law_459 ⟨by show _ ≤ (600172 : Nat); omega, by show _ ≤ (7300668 : Nat); omega⟩) hS (fun q _ h => h.elim) (fun q h => h.elim) (fun r27 u t H locs ht hvm hw hB hz1 hk1 hS => ?_)
                  have hP := gc_keep hP hk1
                  have hw : r27 = nI (gTi seq (nI wa) (nI wb) ctq) := hw
                  subst hw
                  clear hw
                  clear hB hz1 hk1 ht hvm
                  clear hPc hKc
                  obtain ⟨le9, hle9⟩ : ∃ z, z = gTi seq (nI wa) (nI wb) ctq := ⟨_, rfl⟩
                  rw [← hle9]
                  have htn := tight_nat (by omega) hKg hKr hLF hwa hwb
                  rw [← hle9] at htn
                  refine lv_istore (lv' := [(13, .int (nI le9)), (12, .int (nI wb)), (11, .int (nI wa)), (10, .int mo), (9, .int fe), (8, .int su), (7, .int (nI al)), (6, .int (nI rq)), (5, .int (nI gq)), (4, .int xx), (3, .int (nI tt)), (0, .ref b), (1, .ref (aG 0)), (2, .ref sa)]) hx hb dL_law_462 hl (by decide) rfl (fun ls hl => ?_)
                  refine lv_iload hx hb dL_law_464 (lv_at hl 0 rfl) ?_
                  refine lv_if_lt (tgt := 530) hx hb dL_law_466 (by decide) (fun c_466 => ?_) (fun c_466 => ?_)
                  · skip
                    exact absurd ((nI_ltI (a := le9) (b := 0) (by omega) (by decide)).mp c_466) (by omega)
                  · skip
                    refine lv_iload hx hb dL_law_469 (lv_at hl 0 rfl) ?_
                    refine lv_iload hx hb dL_law_471 (lv_at hl 6 rfl) ?_
                    refine lv_icmp_gt (tgt := 530) hx hb dL_law_473 (by decide) (fun c_473 => ?_) (fun c_473 => ?_)
                    · skip
                      exact absurd ((nI_ltI (by omega) (by omega)).mp c_473) (by omega)
                    · skip
                      refine lv_aload_n hx hb dL_law_476 rfl (lv_at hl 12 rfl) ?_
                      refine lv_iload hx hb dL_law_477 (lv_at hl 2 rfl) ?_
                      refine lv_iload hx hb dL_law_479 (lv_at hl 1 rfl) ?_
                      have hPc : va_P (dC, dI) vwCl (gcW aG kG f1q f2q drq clq trq seq (nI gq) (nI rq) infq (nI ctq)) _ := hP.sub [0, 1, 2, 3, 4, 5, 6] rfl
                      have hKc : va_K (dC, dI) vwCl (gcT kG) s := hK.sub [0, 1, 2, 3, 4, 5] rfl
                      have hDc : va_D A (gcW aG kG f1q f2q drq clq trq seq (nI gq) (nI rq) infq (nI ctq)) := hD.sub [0, 1, 2, 3, 4, 5, 6] (by decide) rfl
                      have hFc := va_free (wc := (gcW aG kG f1q f2q drq clq trq seq (nI gq) (nI rq) infq (nI ctq))) hD hS hA [0, 1, 2, 3, 4, 5, 6] rfl
                      refine va_calli (va_runV (As := [.int (nI wa), .int (nI wb)]) (rest := []) ⟨hx, hb, hml, hown, hts⟩ (c_X0_rule l dC dI aG kG f1q f2q drq clq trq seq gq rq infq ctq wa wb H.size (by first | assumption | omega) (by first | assumption | omega) (by first | assumption | omega) (by first | assumption | omega) (by first | assumption | omega)) (cwV 2 hts gL_law_X0_rule rfl rfl rfl (by decide +kernel) ⟨Nat.le_of_ble_eq_true rfl, Nat.le_of_ble_eq_true rfl⟩) ⟨gcPM_blind, va_recv hK hP (ci := 0) (q0 := 0) rfl rfl, fun U hU hW => ⟨rfl, by rw [hU], by rw [hU]; exact hPc, va_K.moved hW.alike hKc, hDc.weaken (fun _ _ _ _ => trivial)⟩⟩ rfl rfl hl.1 rfl (lv_room (Nat.le_of_ble_eq_true rfl)) dL_law_481 ⟨by show _ ≤ (600172 : Nat); omega, by show _ ≤ (7300668 : Nat); omega⟩) hS (fun q _ h => hFc q h) hFc (fun r28 u t H locs ht hvm hw hB hz1 hk1 hS => ?_)
                      obtain ⟨hP1, hD1⟩ := hB
                      rw [ht] at hP1
                      obtain ⟨hP, hD⟩ := va_joinQ (wr := [(sa, .inr (1, [.int (nI gq), .ref ruq, .null, .null, .int 0])), (ruq, qa_R kA rq (qa_up rq rrq))]) (w1 := (gcW aG kG (gPut 30 f1q (nI rq) (nI wa)) (gPut 30 f2q (nI rq) (nI wb)) (gLA (gPut 30 f1q (nI rq) (nI wa)) (gPut 30 f2q (nI rq) (nI wb)) (infq ||| ((1 : Int32) <<< (nI rq &&& 31))) (-1) (rq + 1) drq) (gCl (gLA (gPut 30 f1q (nI rq) (nI wa)) (gPut 30 f2q (nI rq) (nI wb)) (infq ||| ((1 : Int32) <<< (nI rq &&& 31))) (-1) (rq + 1) clq) 20) trq ((gLs (gCl (gLA (gPut 30 f1q (nI rq) (nI wa)) (gPut 30 f2q (nI rq) (nI wb)) (infq ||| ((1 : Int32) <<< (nI rq &&& 31))) (-1) (rq + 1) clq) 20) seq gq gq).1) (nI gq) (nI (rq + 1)) (infq ||| ((1 : Int32) <<< (nI rq &&& 31))) (nI (gLs (gCl (gLA (gPut 30 f1q (nI rq) (nI wa)) (gPut 30 f2q (nI rq) (nI wb)) (infq ||| ((1 : Int32) <<< (nI rq &&& 31))) (-1) (rq + 1) clq) 20) seq gq gq).2))) hP hD [0, 1, 2, 3, 4, 5, 6] [7, 8] rfl rfl (by decide) (by decide) hk1 hFc hP1 hD1
                      have hP : va_P (dC, dI) vwCl ((gcW aG kG (gPut 30 f1q (nI rq) (nI wa)) (gPut 30 f2q (nI rq) (nI wb)) (gLA (gPut 30 f1q (nI rq) (nI wa)) (gPut 30 f2q (nI rq) (nI wb)) (infq ||| ((1 : Int32) <<< (nI rq &&& 31))) (-1) (rq + 1) drq) (gCl (gLA (gPut 30 f1q (nI rq) (nI wa)) (gPut 30 f2q (nI rq) (nI wb)) (infq ||| ((1 : Int32) <<< (nI rq &&& 31))) (-1) (rq + 1) clq) 20) trq ((gLs (gCl (gLA (gPut 30 f1q (nI rq) (nI wa)) (gPut 30 f2q (nI rq) (nI wb)) (infq ||| ((1 : Int32) <<< (nI rq &&& 31))) (-1) (rq + 1) clq) 20) seq gq gq).1) (nI gq) (nI (rq + 1)) (infq ||| ((1 : Int32) <<< (nI rq &&& 31))) (nI (gLs (gCl (gLA (gPut 30 f1q (nI rq) (nI wa)) (gPut 30 f2q (nI rq) (nI wb)) (infq ||| ((1 : Int32) <<< (nI rq &&& 31))) (-1) (rq + 1) clq) 20) seq gq gq).2) ++ ([(sa, .inr (1, [.int (nI gq), .ref ruq, .null, .null, .int 0]))] ++ ([(ruq, qa_R kA rq (qa_up rq rrq))]))) ++ (qT rq rrq (qE kI 3 (qF Kq)) ++ [])) H := hP.part [2, 3, 4, 5, 6, 7, 8, 0, 1] rfl
                      have hD : va_D A ((gcW aG kG (gPut 30 f1q (nI rq) (nI wa)) (gPut 30 f2q (nI rq) (nI wb)) (gLA (gPut 30 f1q (nI rq) (nI wa)) (gPut 30 f2q (nI rq) (nI wb)) (infq ||| ((1 : Int32) <<< (nI rq &&& 31))) (-1) (rq + 1) drq) (gCl (gLA (gPut 30 f1q (nI rq) (nI wa)) (gPut 30 f2q (nI rq) (nI wb)) (infq ||| ((1 : Int32) <<< (nI rq &&& 31))) (-1) (rq + 1) clq) 20) trq ((gLs (gCl (gLA (gPut 30 f1q (nI rq) (nI wa)) (gPut 30 f2q (nI rq) (nI wb)) (infq ||| ((1 : Int32) <<< (nI rq &&& 31))) (-1) (rq + 1) clq) 20) seq gq gq).1) (nI gq) (nI (rq + 1)) (infq ||| ((1 : Int32) <<< (nI rq &&& 31))) (nI (gLs (gCl (gLA (gPut 30 f1q (nI rq) (nI wa)) (gPut 30 f2q (nI rq) (nI wb)) (infq ||| ((1 : Int32) <<< (nI rq &&& 31))) (-1) (rq + 1) clq) 20) seq gq gq).2) ++ ([(sa, .inr (1, [.int (nI gq), .ref ruq, .null, .null, .int 0]))] ++ ([(ruq, qa_R kA rq (qa_up rq rrq))]))) ++ (qT rq rrq (qE kI 3 (qF Kq)) ++ [])) := hD.part [2, 3, 4, 5, 6, 7, 8, 0, 1] (by decide) rfl
                      have hw : r28 = nI rq := hw
                      subst hw
                      clear hw
                      clear hz1 hk1 ht hvm hP1 hD1 hFc hDc
                      clear hPc hKc
                      have hI2 : Inv (kAdd Kq rq wa wb) gq (rq + 1) (gPut 30 f1q (nI rq) (nI wa)) (gPut 30 f2q (nI rq) (nI wb)) (infq ||| ((1 : Int32) <<< (nI rq &&& 31))) (gLA (gPut 30 f1q (nI rq) (nI wa)) (gPut 30 f2q (nI rq) (nI wb)) (infq ||| ((1 : Int32) <<< (nI rq &&& 31))) (-1) (rq + 1) drq) (gCl (gLA (gPut 30 f1q (nI rq) (nI wa)) (gPut 30 f2q (nI rq) (nI wb)) (infq ||| ((1 : Int32) <<< (nI rq &&& 31))) (-1) (rq + 1) clq) 20) ((gLs (gCl (gLA (gPut 30 f1q (nI rq) (nI wa)) (gPut 30 f2q (nI rq) (nI wb)) (infq ||| ((1 : Int32) <<< (nI rq &&& 31))) (-1) (rq + 1) clq) 20) seq gq gq).1) ((gLs (gCl (gLA (gPut 30 f1q (nI rq) (nI wa)) (gPut 30 f2q (nI rq) (nI wb)) (infq ||| ((1 : Int32) <<< (nI rq &&& 31))) (-1) (rq + 1) clq) 20) seq gq gq).2) := Inv_rule hIq hr9 hwa hwb hne9
                      generalize ((gLs (gCl (gLA (gPut 30 f1q (nI rq) (nI wa)) (gPut 30 f2q (nI rq) (nI wb)) (infq ||| ((1 : Int32) <<< (nI rq &&& 31))) (-1) (rq + 1) clq) 20) seq gq gq).2) = ctb at hP hD hI2
                      generalize (gLs (gCl (gLA (gPut 30 f1q (nI rq) (nI wa)) (gPut 30 f2q (nI rq) (nI wb)) (infq ||| ((1 : Int32) <<< (nI rq &&& 31))) (-1) (rq + 1) clq) 20) seq gq gq).1 = seb at hP hD hI2
                      generalize gCl (gLA (gPut 30 f1q (nI rq) (nI wa)) (gPut 30 f2q (nI rq) (nI wb)) (infq ||| ((1 : Int32) <<< (nI rq &&& 31))) (-1) (rq + 1) clq) 20 = clb at hP hD hI2
                      generalize gLA (gPut 30 f1q (nI rq) (nI wa)) (gPut 30 f2q (nI rq) (nI wb)) (infq ||| ((1 : Int32) <<< (nI rq &&& 31))) (-1) (rq + 1) drq = drb at hP hD hI2
                      generalize (infq ||| ((1 : Int32) <<< (nI rq &&& 31))) = infb at hP hD hI2
                      generalize (gPut 30 f1q (nI rq) (nI wa)) = f1b at hP hD hI2
                      generalize (gPut 30 f2q (nI rq) (nI wb)) = f2b at hP hD hI2
                      have hP : va_P (dC, dI) vwCl ((gcW aG kG f1b f2b drb clb trq seb (nI gq) (nI (rq + 1)) infb (nI ctb) ++ ([(sa, .inr (1, [.int (nI gq), .ref ruq, .null, .null, .int 0]))] ++ ([(ruq, qa_R kA rq (qa_up rq rrq))]))) ++ (qT rq rrq (qE kI 3 (qF Kq)) ++ [])) H := hP
                      have hD : va_D A ((gcW aG kG f1b f2b drb clb trq seb (nI gq) (nI (rq + 1)) infb (nI ctb) ++ ([(sa, .inr (1, [.int (nI gq), .ref ruq, .null, .null, .int 0]))] ++ ([(ruq, qa_R kA rq (qa_up rq rrq))]))) ++ (qT rq rrq (qE kI 3 (qF Kq)) ++ [])) := hD
                      refine lv_iload hx hb dL_law_484 (lv_at hl 7 rfl) ?_
                      refine lv_icmp_ne (tgt := 530) hx hb dL_law_486 (by decide) (fun h => absurd rfl h) (fun _ => ?_)
                      obtain ⟨hg72, hr302, hOK2, hz2, hne2, hDr2, hCl2, s02, hse2, hct2⟩ := id hI2
                      have hKg2 := gOK_Kg hOK2
                      have hKr2 : (kAdd Kq rq wa wb).1 = rq + 1 := hOK2.1
                      have hLF2 : LF (kAdd Kq rq wa wb) gq seb ctb := by rw [hse2, hct2]; exact LF_of (by omega) hKg2 hCl2 s02
                      have hc10242 : ctb ≤ 1024 := hLF2.2
                      have hKr302 : (kAdd Kq rq wa wb).1 ≤ 30 := by omega
                      have hft2 : gFt clb gq = decide (0 < ctb) := by rw [hct2]; exact ft_pos (by omega) hKg2 hCl2 s02
                      have hcn2 : ctb = fb_ct (sb (kAdd Kq rq wa wb)) (2 ^ gq) := LF_count hKg2 hLF2
                      refine lv_aload_n hx hb dL_law_489 rfl (lv_at hl 12 rfl) ?_
                      have hPc : va_P (dC, dI) vwCl (gcW aG kG f1b f2b drb clb trq seb (nI gq) (nI (rq + 1)) infb (nI ctb)) _ := hP.sub [0, 1, 2, 3, 4, 5, 6] rfl
                      have hKc : va_K (dC, dI) vwCl (gcT kG) s := hK.sub [0, 1, 2, 3, 4, 5] rfl
                      refine va_calli (va_runV (As := []) (rest := []) ⟨hx, hb, hml, hown, hts⟩ (c_X0_seatings l dC dI aG kG f1b f2b drb clb trq seb gq (rq + 1) infb ctb) (cwV 0 hts gL_law_X0_seatings rfl rfl rfl (by decide +kernel) ⟨Nat.le_of_ble_eq_true rfl, Nat.le_of_ble_eq_true rfl⟩) ⟨gcPR_blind, va_recv hK hP (ci := 0) (q0 := 0) rfl rfl, fun U hU hW => ⟨rfl, by rw [hU]; exact hPc, va_K.moved hW.alike hKc⟩⟩ rfl rfl hl.1 rfl (lv_room (Nat.le_of_ble_eq_true rfl)) dL_law_490 ⟨by show _ ≤ (600172 : Nat); omega, by show _ ≤ (7300668 : Nat); omega⟩) hS (fun q _ h => h.elim) (fun q h => h.elim) (fun r29 u t H locs ht hvm hw hB hz1 hk1 hS => ?_)
                      have hP := gc_keep hP hk1
                      have hw : r29 = nI ctb := hw
                      subst hw
                      clear hw
                      clear hB hz1 hk1 ht hvm
                      clear hPc hKc
                      refine lv_iload hx hb dL_law_493 (lv_at hl 6 rfl) ?_
                      refine lv_iload hx hb dL_law_495 (lv_at hl 0 rfl) ?_
                      refine lv_isub hx hb dL_law_497 ?_
                      refine gc_topi (y := nI ctb) (by rw [pk_sub (by omega)]; congr 1; omega) ?_
                      refine lv_icmp_ne (tgt := 530) hx hb dL_law_498 (by decide) (fun h => absurd rfl h) (fun _ => ?_)
                      refine lv_aload_n hx hb dL_law_501 rfl (lv_at hl 12 rfl) ?_
                      refine lv_iload hx hb dL_law_502 (lv_at hl 2 rfl) ?_
                      refine lv_iload hx hb dL_law_504 (lv_at hl 1 rfl) ?_
                      have hPc : va_P (dC, dI) vwCl (gcW aG kG f1b f2b drb clb trq seb (nI gq) (nI (rq + 1)) infb (nI ctb)) _ := hP.sub [0, 1, 2, 3, 4, 5, 6] rfl
                      have hKc : va_K (dC, dI) vwCl (gcT kG) s := hK.sub [0, 1, 2, 3, 4, 5] rfl
                      refine va_calli (va_runV (As := [.int (nI wa), .int (nI wb)]) (rest := []) ⟨hx, hb, hml, hown, hts⟩ (c_X0_follows l dC dI aG kG f1b f2b drb clb trq seb gq (rq + 1) infb ctb wa wb (by first | assumption | omega) (by first | assumption | omega) (by first | assumption | omega)) (cwV 2 hts gL_law_X0_follows rfl rfl rfl (by decide +kernel) ⟨Nat.le_of_ble_eq_true rfl, Nat.le_of_ble_eq_true rfl⟩) ⟨gcPR_blind, va_recv hK hP (ci := 0) (q0 := 0) rfl rfl, fun U hU hW => ⟨rfl, by rw [hU]; exact hPc, va_K.moved hW.alike hKc⟩⟩ rfl rfl hl.1 rfl (lv_room (Nat.le_of_ble_eq_true rfl)) dL_law_506 ⟨by show _ ≤ (600172 : Nat); omega, by show _ ≤ (7300668 : Nat); omega⟩) hS (fun q _ h => h.elim) (fun q h => h.elim) (fun r30 u t H locs ht hvm hw hB hz1 hk1 hS => ?_)
                      have hP := gc_keep hP hk1
                      have hw : r30 = gB (gHas (gAt 20 clb (nI wa)) (nI wb)) := hw
                      subst hw
                      clear hw
                      clear hB hz1 hk1 ht hvm
                      clear hPc hKc
                      refine gc_topi (y := 1) (by rw [cl_has hCl2 (by omega) (by omega), add_fo]; rfl) ?_
                      refine lv_if_eq (tgt := 530) hx hb dL_law_509 (by decide) (fun c_509 => ?_) (fun c_509 => ?_)
                      · skip
                        exact absurd c_509 (by decide)
                      · skip
                        refine lv_aload_n hx hb dL_law_512 rfl (lv_at hl 12 rfl) ?_
                        refine lv_iload hx hb dL_law_513 (lv_at hl 7 rfl) ?_
                        have hPc : va_P (dC, dI) vwCl (gcW aG kG f1b f2b drb clb trq seb (nI gq) (nI (rq + 1)) infb (nI ctb)) _ := hP.sub [0, 1, 2, 3, 4, 5, 6] rfl
                        have hKc : va_K (dC, dI) vwCl (gcT kG) s := hK.sub [0, 1, 2, 3, 4, 5] rfl
                        have hDc : va_D A (gcW aG kG f1b f2b drb clb trq seb (nI gq) (nI (rq + 1)) infb (nI ctb)) := hD.sub [0, 1, 2, 3, 4, 5, 6] (by decide) rfl
                        have hFc := va_free (wc := (gcW aG kG f1b f2b drb clb trq seb (nI gq) (nI (rq + 1)) infb (nI ctb))) hD hS hA [0, 1, 2, 3, 4, 5, 6] rfl
                        refine va_calli (va_runV (As := [.int (nI rq)]) (rest := []) ⟨hx, hb, hml, hown, hts⟩ (c_X0_turn l dC dI aG kG f1b f2b drb clb trq seb gq (rq + 1) infb ctb rq H.size (by first | assumption | omega) (by first | assumption | omega) (by first | assumption | omega)) (cwV 1 hts gL_law_X0_turn rfl rfl rfl (by decide +kernel) ⟨Nat.le_of_ble_eq_true rfl, Nat.le_of_ble_eq_true rfl⟩) ⟨gcPM_blind, va_recv hK hP (ci := 0) (q0 := 0) rfl rfl, fun U hU hW => ⟨rfl, by rw [hU], by rw [hU]; exact hPc, va_K.moved hW.alike hKc, hDc.weaken (fun _ _ _ _ => trivial)⟩⟩ rfl rfl hl.1 rfl (lv_room (Nat.le_of_ble_eq_true rfl)) dL_law_515 ⟨by show _ ≤ (600172 : Nat); omega, by show _ ≤ (7300668 : Nat); omega⟩) hS (fun q _ h => hFc q h) hFc (fun r31 u t H locs ht hvm hw hB hz1 hk1 hS => ?_)
                        obtain ⟨hP1, hD1⟩ := hB
                        rw [ht] at hP1
                        obtain ⟨hP, hD⟩ := va_joinQ (wr := [(sa, .inr (1, [.int (nI gq), .ref ruq, .null, .null, .int 0])), (ruq, qa_R kA rq (qa_up rq rrq))]) (w1 := (gcW aG kG f1b f2b (gLA f1b f2b (infb ^^^ ((1 : Int32) <<< (nI rq &&& 31))) (-1) (rq + 1) drb) (gCl (gLA f1b f2b (infb ^^^ ((1 : Int32) <<< (nI rq &&& 31))) (-1) (rq + 1) clb) 20) trq ((gLs (gCl (gLA f1b f2b (infb ^^^ ((1 : Int32) <<< (nI rq &&& 31))) (-1) (rq + 1) clb) 20) seb gq gq).1) (nI gq) (nI (rq + 1)) (infb ^^^ ((1 : Int32) <<< (nI rq &&& 31))) (nI (gLs (gCl (gLA f1b f2b (infb ^^^ ((1 : Int32) <<< (nI rq &&& 31))) (-1) (rq + 1) clb) 20) seb gq gq).2))) hP hD [0, 1, 2, 3, 4, 5, 6] [7, 8] rfl rfl (by decide) (by decide) hk1 hFc hP1 hD1
                        have hP : va_P (dC, dI) vwCl ((gcW aG kG f1b f2b (gLA f1b f2b (infb ^^^ ((1 : Int32) <<< (nI rq &&& 31))) (-1) (rq + 1) drb) (gCl (gLA f1b f2b (infb ^^^ ((1 : Int32) <<< (nI rq &&& 31))) (-1) (rq + 1) clb) 20) trq ((gLs (gCl (gLA f1b f2b (infb ^^^ ((1 : Int32) <<< (nI rq &&& 31))) (-1) (rq + 1) clb) 20) seb gq gq).1) (nI gq) (nI (rq + 1)) (infb ^^^ ((1 : Int32) <<< (nI rq &&& 31))) (nI (gLs (gCl (gLA f1b f2b (infb ^^^ ((1 : Int32) <<< (nI rq &&& 31))) (-1) (rq + 1) clb) 20) seb gq gq).2) ++ ([(sa, .inr (1, [.int (nI gq), .ref ruq, .null, .null, .int 0]))] ++ ([(ruq, qa_R kA rq (qa_up rq rrq))]))) ++ (qT rq rrq (qE kI 3 (qF Kq)) ++ [])) H := hP.part [2, 3, 4, 5, 6, 7, 8, 0, 1] rfl
                        have hD : va_D A ((gcW aG kG f1b f2b (gLA f1b f2b (infb ^^^ ((1 : Int32) <<< (nI rq &&& 31))) (-1) (rq + 1) drb) (gCl (gLA f1b f2b (infb ^^^ ((1 : Int32) <<< (nI rq &&& 31))) (-1) (rq + 1) clb) 20) trq ((gLs (gCl (gLA f1b f2b (infb ^^^ ((1 : Int32) <<< (nI rq &&& 31))) (-1) (rq + 1) clb) 20) seb gq gq).1) (nI gq) (nI (rq + 1)) (infb ^^^ ((1 : Int32) <<< (nI rq &&& 31))) (nI (gLs (gCl (gLA f1b f2b (infb ^^^ ((1 : Int32) <<< (nI rq &&& 31))) (-1) (rq + 1) clb) 20) seb gq gq).2) ++ ([(sa, .inr (1, [.int (nI gq), .ref ruq, .null, .null, .int 0]))] ++ ([(ruq, qa_R kA rq (qa_up rq rrq))]))) ++ (qT rq rrq (qE kI 3 (qF Kq)) ++ [])) := hD.part [2, 3, 4, 5, 6, 7, 8, 0, 1] (by decide) rfl
                        have hw : r31 = gB (gHas (infb ^^^ ((1 : Int32) <<< (nI rq &&& 31))) (nI rq)) := hw
                        subst hw
                        clear hw
                        clear hz1 hk1 ht hvm hP1 hD1 hFc hDc
                        clear hPc hKc
                        refine gc_topi (y := 0) (by rw [turn_eq hOK2 hr302 (by omega)]; simp [kAdd, gB]) ?_
                        have hI3 : Inv (kTurn (kAdd Kq rq wa wb) rq) gq (rq + 1) f1b f2b (infb ^^^ ((1 : Int32) <<< (nI rq &&& 31))) (gLA f1b f2b (infb ^^^ ((1 : Int32) <<< (nI rq &&& 31))) (-1) (rq + 1) drb) (gCl (gLA f1b f2b (infb ^^^ ((1 : Int32) <<< (nI rq &&& 31))) (-1) (rq + 1) clb) 20) ((gLs (gCl (gLA f1b f2b (infb ^^^ ((1 : Int32) <<< (nI rq &&& 31))) (-1) (rq + 1) clb) 20) seb gq gq).1) ((gLs (gCl (gLA f1b f2b (infb ^^^ ((1 : Int32) <<< (nI rq &&& 31))) (-1) (rq + 1) clb) 20) seb gq gq).2) := Inv_turn hI2 (by omega)
                        generalize ((gLs (gCl (gLA f1b f2b (infb ^^^ ((1 : Int32) <<< (nI rq &&& 31))) (-1) (rq + 1) clb) 20) seb gq gq).2) = ctc at hP hD hI3
                        generalize (gLs (gCl (gLA f1b f2b (infb ^^^ ((1 : Int32) <<< (nI rq &&& 31))) (-1) (rq + 1) clb) 20) seb gq gq).1 = sec at hP hD hI3
                        generalize gCl (gLA f1b f2b (infb ^^^ ((1 : Int32) <<< (nI rq &&& 31))) (-1) (rq + 1) clb) 20 = clc at hP hD hI3
                        generalize gLA f1b f2b (infb ^^^ ((1 : Int32) <<< (nI rq &&& 31))) (-1) (rq + 1) drb = drc at hP hD hI3
                        generalize (infb ^^^ ((1 : Int32) <<< (nI rq &&& 31))) = infc at hP hD hI3
                        obtain ⟨f1c, e9f1c⟩ : ∃ z, z = f1b := ⟨_, rfl⟩
                        clear e9f1c
                        obtain ⟨f2c, e9f2c⟩ : ∃ z, z = f2b := ⟨_, rfl⟩
                        clear e9f2c
                        have hP : va_P (dC, dI) vwCl ((gcW aG kG f1b f2b drc clc trq sec (nI gq) (nI (rq + 1)) infc (nI ctc) ++ ([(sa, .inr (1, [.int (nI gq), .ref ruq, .null, .null, .int 0]))] ++ ([(ruq, qa_R kA rq (qa_up rq rrq))]))) ++ (qT rq rrq (qE kI 3 (qF Kq)) ++ [])) H := hP
                        have hD : va_D A ((gcW aG kG f1b f2b drc clc trq sec (nI gq) (nI (rq + 1)) infc (nI ctc) ++ ([(sa, .inr (1, [.int (nI gq), .ref ruq, .null, .null, .int 0]))] ++ ([(ruq, qa_R kA rq (qa_up rq rrq))]))) ++ (qT rq rrq (qE kI 3 (qF Kq)) ++ [])) := hD
                        refine lv_if_ne (tgt := 530) hx hb dL_law_518 (by decide) (fun c_518 => ?_) (fun c_518 => ?_)
                        · skip
                          exact absurd (by decide) c_518
                        · skip
                          obtain ⟨hg73, hr303, hOK3, hz3, hne3, hDr3, hCl3, s03, hse3, hct3⟩ := id hI3
                          have hKg3 := gOK_Kg hOK3
                          have hKr3 : (kTurn (kAdd Kq rq wa wb) rq).1 = rq + 1 := hOK3.1
                          have hLF3 : LF (kTurn (kAdd Kq rq wa wb) rq) gq sec ctc := by rw [hse3, hct3]; exact LF_of (by omega) hKg3 hCl3 s03
                          have hc10243 : ctc ≤ 1024 := hLF3.2
                          have hKr303 : (kTurn (kAdd Kq rq wa wb) rq).1 ≤ 30 := by omega
                          have hft3 : gFt clc gq = decide (0 < ctc) := by rw [hct3]; exact ft_pos (by omega) hKg3 hCl3 s03
                          have hcn3 : ctc = fb_ct (sb (kTurn (kAdd Kq rq wa wb) rq)) (2 ^ gq) := LF_count hKg3 hLF3
                          have hct3 : ctc = al := by rw [hcn3, hal0, hcn]; exact fb_ct_cong (fun S _ => sb_off hKr)
                          refine lv_aload_n hx hb dL_law_521 rfl (lv_at hl 12 rfl) ?_
                          have hPc : va_P (dC, dI) vwCl (gcW aG kG f1b f2b drc clc trq sec (nI gq) (nI (rq + 1)) infc (nI ctc)) _ := hP.sub [0, 1, 2, 3, 4, 5, 6] rfl
                          have hKc : va_K (dC, dI) vwCl (gcT kG) s := hK.sub [0, 1, 2, 3, 4, 5] rfl
                          refine va_calli (va_runV (As := []) (rest := []) ⟨hx, hb, hml, hown, hts⟩ (c_X0_seatings l dC dI aG kG f1b f2b drc clc trq sec gq (rq + 1) infc ctc) (cwV 0 hts gL_law_X0_seatings rfl rfl rfl (by decide +kernel) ⟨Nat.le_of_ble_eq_true rfl, Nat.le_of_ble_eq_true rfl⟩) ⟨gcPR_blind, va_recv hK hP (ci := 0) (q0 := 0) rfl rfl, fun U hU hW => ⟨rfl, by rw [hU]; exact hPc, va_K.moved hW.alike hKc⟩⟩ rfl rfl hl.1 rfl (lv_room (Nat.le_of_ble_eq_true rfl)) dL_law_522 ⟨by show _ ≤ (600172 : Nat); omega, by show _ ≤ (7300668 : Nat); omega⟩) hS (fun q _ h => h.elim) (fun q h => h.elim) (fun r32 u t H locs ht hvm hw hB hz1 hk1 hS => ?_)
                          have hP := gc_keep hP hk1
                          have hw : r32 = nI ctc := hw
                          subst hw
                          clear hw
                          clear hB hz1 hk1 ht hvm
                          clear hPc hKc
                          refine lv_iload hx hb dL_law_525 (lv_at hl 6 rfl) ?_
                          refine gc_topi (y := nI ctc) (by rw [hct3]) ?_
                          refine lv_icmp_eq (tgt := 532) hx hb dL_law_527 (by decide) (fun _ => ?_) (fun h => absurd rfl h)
                          refine lv_aload_n hx hb dL_law_532 rfl (lv_at hl 13 rfl) ?_
                          refine lv_aload_n hx hb dL_law_533 rfl (lv_at hl 13 rfl) ?_
                          refine va_get (D := (dC, dI)) (ci := 1) (v := .ref ruq) (C := RX1) (T := TX1) (N := 5) hx hb hts hin1 hown hKd hP 7 rfl rfl 1 (by decide) (hts (.fieldLink RL 15 "GuestChairsLaw$Sim" "rules" "[[I") (by decide +kernel)) (fun _ h9 => h9) rfl dL_law_534 ?_
                          refine lv_iconst (v := 3) hx hb dL_law_537 (by decide) ?_
                          refine qa_newI hx hb (hts (.arrayClass .int) (by decide +kernel)) hKd hP hD hS hA 7 rfl (n := 3) (N' := 3) (by decide) (rfl) (by omega) (by show _ ≤ (600172 : Nat); omega) (by show _ ≤ (7300668 : Nat); omega) dL_law_538 (fun q1 H hP hD hS => ?_)
                          have hP := hP.perm qa_side
                          have hD := hD.perm qa_side
                          have hP : va_P (dC, dI) vwCl ((gcW aG kG f1b f2b drc clc trq sec (nI gq) (nI (rq + 1)) infc (nI ctc) ++ ([(sa, .inr (1, [.int (nI gq), .ref ruq, .null, .null, .int 0]))] ++ ([(ruq, qa_R kA rq (qa_up rq rrq))] ++ ([(q1, .inl (kI, 3, .inl (fun _ => 0)))])))) ++ (qT rq rrq (qE kI 3 (qF Kq)) ++ [])) H := hP
                          have hD : va_D A ((gcW aG kG f1b f2b drc clc trq sec (nI gq) (nI (rq + 1)) infc (nI ctc) ++ ([(sa, .inr (1, [.int (nI gq), .ref ruq, .null, .null, .int 0]))] ++ ([(ruq, qa_R kA rq (qa_up rq rrq))] ++ ([(q1, .inl (kI, 3, .inl (fun _ => 0)))])))) ++ (qT rq rrq (qE kI 3 (qF Kq)) ++ [])) := hD
                          refine lv_dup hx hb dL_law_540 rfl ?_
                          refine lv_iconst (v := 0) hx hb dL_law_541 (by decide) ?_
                          refine lv_iload hx hb dL_law_542 (lv_at hl 2 rfl) ?_
                          refine va_iast hx hb hKd hP hD hS 9 7 rfl rfl (vp_in_nI (n := 0) (N := 3) (by omega) (by omega)) dL_law_544 (fun H locs hP hD hS => ?_)
                          rw [show (0 : Int32).toNatClampNeg = 0 from rfl] at hP hD
                          have hP : va_P (dC, dI) vwCl ((gcW aG kG f1b f2b drc clc trq sec (nI gq) (nI (rq + 1)) infc (nI ctc) ++ ([(sa, .inr (1, [.int (nI gq), .ref ruq, .null, .null, .int 0]))] ++ ([(ruq, qa_R kA rq (qa_up rq rrq))] ++ ([(q1, .inl (kI, 3, .inl (upd (fun _ => 0) 0 (nI wa))))])))) ++ (qT rq rrq (qE kI 3 (qF Kq)) ++ [])) H := hP
                          have hD : va_D A ((gcW aG kG f1b f2b drc clc trq sec (nI gq) (nI (rq + 1)) infc (nI ctc) ++ ([(sa, .inr (1, [.int (nI gq), .ref ruq, .null, .null, .int 0]))] ++ ([(ruq, qa_R kA rq (qa_up rq rrq))] ++ ([(q1, .inl (kI, 3, .inl (upd (fun _ => 0) 0 (nI wa))))])))) ++ (qT rq rrq (qE kI 3 (qF Kq)) ++ [])) := hD
                          refine lv_dup hx hb dL_law_545 rfl ?_
                          refine lv_iconst (v := 1) hx hb dL_law_546 (by decide) ?_
                          refine lv_iload hx hb dL_law_547 (lv_at hl 1 rfl) ?_
                          refine va_iast hx hb hKd hP hD hS 9 7 rfl rfl (vp_in_nI (n := 1) (N := 3) (by omega) (by omega)) dL_law_549 (fun H locs hP hD hS => ?_)
                          rw [show (1 : Int32).toNatClampNeg = 1 from rfl] at hP hD
                          have hP : va_P (dC, dI) vwCl ((gcW aG kG f1b f2b drc clc trq sec (nI gq) (nI (rq + 1)) infc (nI ctc) ++ ([(sa, .inr (1, [.int (nI gq), .ref ruq, .null, .null, .int 0]))] ++ ([(ruq, qa_R kA rq (qa_up rq rrq))] ++ ([(q1, .inl (kI, 3, .inl (upd (upd (fun _ => 0) 0 (nI wa)) 1 (nI wb))))])))) ++ (qT rq rrq (qE kI 3 (qF Kq)) ++ [])) H := hP
                          have hD : va_D A ((gcW aG kG f1b f2b drc clc trq sec (nI gq) (nI (rq + 1)) infc (nI ctc) ++ ([(sa, .inr (1, [.int (nI gq), .ref ruq, .null, .null, .int 0]))] ++ ([(ruq, qa_R kA rq (qa_up rq rrq))] ++ ([(q1, .inl (kI, 3, .inl (upd (upd (fun _ => 0) 0 (nI wa)) 1 (nI wb))))])))) ++ (qT rq rrq (qE kI 3 (qF Kq)) ++ [])) := hD
                          refine lv_dup hx hb dL_law_550 rfl ?_
                          refine lv_iconst (v := 2) hx hb dL_law_551 (by decide) ?_
                          refine lv_iconst (v := 0) hx hb dL_law_552 (by decide) ?_
                          refine va_iast hx hb hKd hP hD hS 9 7 rfl rfl (vp_in_nI (n := 2) (N := 3) (by omega) (by omega)) dL_law_553 (fun H locs hP hD hS => ?_)
                          rw [show (2 : Int32).toNatClampNeg = 2 from rfl] at hP hD
                          have hP : va_P (dC, dI) vwCl ((gcW aG kG f1b f2b drc clc trq sec (nI gq) (nI (rq + 1)) infc (nI ctc) ++ ([(sa, .inr (1, [.int (nI gq), .ref ruq, .null, .null, .int 0]))] ++ ([(ruq, qa_R kA rq (qa_up rq rrq))] ++ ([(q1, .inl (kI, 3, .inl (upd (upd (upd (fun _ => 0) 0 (nI wa)) 1 (nI wb)) 2 0)))])))) ++ (qT rq rrq (qE kI 3 (qF Kq)) ++ [])) H := hP
                          have hD : va_D A ((gcW aG kG f1b f2b drc clc trq sec (nI gq) (nI (rq + 1)) infc (nI ctc) ++ ([(sa, .inr (1, [.int (nI gq), .ref ruq, .null, .null, .int 0]))] ++ ([(ruq, qa_R kA rq (qa_up rq rrq))] ++ ([(q1, .inl (kI, 3, .inl (upd (upd (upd (fun _ => 0) 0 (nI wa)) 1 (nI wb)) 2 0)))])))) ++ (qT rq rrq (qE kI 3 (qF Kq)) ++ [])) := hD
                          have hPc : va_P (dC, dI) vwCl (([(ruq, qa_R kA rq (qa_up rq rrq))] ++ ([(q1, .inl (kI, 3, .inl (upd (upd (upd (fun _ => 0) 0 (nI wa)) 1 (nI wb)) 2 0)))])) ++ (qT rq rrq (qE kI 3 (qF Kq)) ++ [])) _ := hP.part [8, 9] rfl
                          have hKc : va_K (dC, dI) vwCl ([(kA, .array .int), (kI, .int)]) s := hK.sub [6, 7] rfl
                          have hDc : va_D A (([(ruq, qa_R kA rq (qa_up rq rrq))] ++ ([(q1, .inl (kI, 3, .inl (upd (upd (upd (fun _ => 0) 0 (nI wa)) 1 (nI wb)) 2 0)))])) ++ (qT rq rrq (qE kI 3 (qF Kq)) ++ [])) := hD.part [8, 9] (by decide) rfl
                          have hFc := va_freeP (cx := ([(ruq, qa_R kA rq (qa_up rq rrq))] ++ ([(q1, .inl (kI, 3, .inl (upd (upd (upd (fun _ => 0) 0 (nI wa)) 1 (nI wb)) 2 0)))]))) hD hS hA [8, 9] rfl
                          refine va_callr (va_runS (As := [.ref ruq, .ref q1]) (rest := [.ref sa]) ⟨hx, hb, hml, hown, hts⟩ (c_X1_more l dC dI ruq q1 kA kI (upd (upd (upd (fun _ => 0) 0 (nI wa)) 1 (nI wb)) 2 0) rq rrq Kq H.size (by first | assumption | omega)) (va_cwS 2 hts gL_law_X1_more rfl rfl rfl (by decide +kernel) ⟨Nat.le_of_ble_eq_true rfl, Nat.le_of_ble_eq_true rfl⟩) ⟨qaPM_blind, fun U hU hW => ⟨rfl, by rw [hU], by rw [hU]; exact hPc, va_K.moved hW.alike hKc, hDc.weaken (fun _ _ _ _ => trivial), va_AOA.moved hW.alike hO⟩⟩ rfl rfl hl.1 rfl (lv_room (Nat.le_of_ble_eq_true rfl)) dL_law_554 ⟨by show _ ≤ (600172 : Nat); omega, by show _ ≤ (7300668 : Nat); omega⟩) hS (fun q _ h => hFc q h) hFc (fun u ra t H locs ht hvm hw hB hz1 hk1 hS => ?_)
                          obtain ⟨q9, e_ra⟩ : ∃ z, z = ra := ⟨_, rfl⟩
                          subst e_ra
                          obtain ⟨hP1, hD1⟩ := hB
                          rw [ht] at hP1
                          obtain ⟨hP, hD⟩ := va_joinP (wr := [(aG 0, .inr (0, [.ref (aG 1), .ref (aG 2), .ref (aG 3), .ref (aG 4), .ref (aG 5), .ref (aG 6), .int (nI gq), .int (nI (rq + 1)), .int infc, .int (nI ctc)])), (aG 1, .inl (kG 1, 30, .inl f1b)), (aG 2, .inl (kG 2, 30, .inl f2b)), (aG 3, .inl (kG 3, 20, .inl drc)), (aG 4, .inl (kG 4, 20, .inl clc)), (aG 5, .inl (kG 5, 20, .inl trq)), (aG 6, .inl (kG 6, 1024, .inl sec)), (sa, .inr (1, [.int (nI gq), .ref ruq, .null, .null, .int 0]))]) (rx := ([(ruq, qa_R kA rq (qa_up rq rrq))] ++ ([(q1, .inl (kI, 3, .inl (upd (upd (upd (fun _ => 0) 0 (nI wa)) 1 (nI wb)) 2 0)))] ++ ([(q9, qa_R kA (rq + 1) (qa_up (rq + 1) (qA rq rrq q1)))])))) (pl1 := (qT rq rrq (qE kI 3 (qF Kq)) ++ [])) hP hD [8, 9] [0, 1, 2, 3, 4, 5, 6, 7] rfl rfl (by decide) (by decide) hk1 hFc hP1 hD1
                          have hP : va_P (dC, dI) vwCl ((gcW aG kG f1b f2b drc clc trq sec (nI gq) (nI (rq + 1)) infc (nI ctc) ++ ([(sa, .inr (1, [.int (nI gq), .ref ruq, .null, .null, .int 0]))] ++ ([(ruq, qa_R kA rq (qa_up rq rrq))] ++ ([(q1, .inl (kI, 3, .inl (upd (upd (upd (fun _ => 0) 0 (nI wa)) 1 (nI wb)) 2 0)))] ++ ([(q9, qa_R kA (rq + 1) (qa_up (rq + 1) (qA rq rrq q1)))]))))) ++ (qT rq rrq (qE kI 3 (qF Kq)) ++ [])) H := hP.part [0, 1, 2, 3, 4, 5, 6, 7, 8, 9, 10] rfl
                          have hD : va_D A ((gcW aG kG f1b f2b drc clc trq sec (nI gq) (nI (rq + 1)) infc (nI ctc) ++ ([(sa, .inr (1, [.int (nI gq), .ref ruq, .null, .null, .int 0]))] ++ ([(ruq, qa_R kA rq (qa_up rq rrq))] ++ ([(q1, .inl (kI, 3, .inl (upd (upd (upd (fun _ => 0) 0 (nI wa)) 1 (nI wb)) 2 0)))] ++ ([(q9, qa_R kA (rq + 1) (qa_up (rq + 1) (qA rq rrq q1)))]))))) ++ (qT rq rrq (qE kI 3 (qF Kq)) ++ [])) := hD.part [0, 1, 2, 3, 4, 5, 6, 7, 8, 9, 10] (by decide) rfl
                          have hw_554 : True := hw
                          clear hz1 hk1 ht hvm hP1 hD1 hFc hDc
                          clear hPc hKc
                          refine va_put (D := (dC, dI)) (ci := 1) (v := .ref q9) (ty := (.array (.array .int))) (C := RX1) (T := TX1) (N := 5) hx hb hts hin1 tyX1 tyX1_ok nmX1 hown hKd hP hD hS 7 rfl rfl 1 (by decide) (hts (.fieldLink RL 15 "GuestChairsLaw$Sim" "rules" "[[I") (by decide +kernel)) (fun _ h9 => h9) rfl (by decide +kernel) rfl rfl (Nat.le_of_ble_eq_true rfl) dL_law_557 (fun H locs hP hD hS => ?_)
                          have hP : va_P (dC, dI) vwCl ((gcW aG kG f1b f2b drc clc trq sec (nI gq) (nI (rq + 1)) infc (nI ctc) ++ ([(sa, .inr (1, [.int (nI gq), .ref q9, .null, .null, .int 0]))] ++ ([(ruq, qa_R kA rq (qa_up rq rrq))] ++ ([(q1, .inl (kI, 3, .inl (upd (upd (upd (fun _ => 0) 0 (nI wa)) 1 (nI wb)) 2 0)))] ++ ([(q9, qa_R kA (rq + 1) (qa_up (rq + 1) (qA rq rrq q1)))]))))) ++ (qT rq rrq (qE kI 3 (qF Kq)) ++ [])) H := hP
                          have hD : va_D A ((gcW aG kG f1b f2b drc clc trq sec (nI gq) (nI (rq + 1)) infc (nI ctc) ++ ([(sa, .inr (1, [.int (nI gq), .ref q9, .null, .null, .int 0]))] ++ ([(ruq, qa_R kA rq (qa_up rq rrq))] ++ ([(q1, .inl (kI, 3, .inl (upd (upd (upd (fun _ => 0) 0 (nI wa)) 1 (nI wb)) 2 0)))] ++ ([(q9, qa_R kA (rq + 1) (qa_up (rq + 1) (qA rq rrq q1)))]))))) ++ (qT rq rrq (qE kI 3 (qF Kq)) ++ [])) := hD
                          refine W.widen (k := 39 + 6 * tt) (n := 1669 + 102 * tt) (by omega) (by omega) ?_
                          have hP : va_P (dC, dI) vwCl (((gcW aG kG f1b f2b drc clc trq sec (nI gq) (nI (rq + 1)) infc (nI ctc) ++ ([(sa, .inr (1, [.int (nI gq), .ref q9, .null, .null, .int 0]))] ++ ([(q9, qa_R kA (rq + 1) (qa_up (rq + 1) (qA rq rrq q1)))]))) ++ [(q1, .inl (kI, 3, .inl (upd (upd (upd (fun _ => 0) 0 (nI wa)) 1 (nI wb)) 2 0)))]) ++ (qT rq rrq (qE kI 3 (qF Kq)) ++ [])) H := hP.part [0, 1, 2, 3, 4, 5, 6, 7, 10, 9] rfl
                          have hD : va_D A (((gcW aG kG f1b f2b drc clc trq sec (nI gq) (nI (rq + 1)) infc (nI ctc) ++ ([(sa, .inr (1, [.int (nI gq), .ref q9, .null, .null, .int 0]))] ++ ([(q9, qa_R kA (rq + 1) (qa_up (rq + 1) (qA rq rrq q1)))]))) ++ [(q1, .inl (kI, 3, .inl (upd (upd (upd (fun _ => 0) 0 (nI wa)) 1 (nI wb)) 2 0)))]) ++ (qT rq rrq (qE kI 3 (qF Kq)) ++ [])) := hD.part [0, 1, 2, 3, 4, 5, 6, 7, 10, 9] (by decide) rfl
                          have hp9 : List.Perm (α := Nat × va_E) (((gcW aG kG f1b f2b drc clc trq sec (nI gq) (nI (rq + 1)) infc (nI ctc) ++ ([(sa, .inr (1, [.int (nI gq), .ref q9, .null, .null, .int 0]))] ++ ([(q9, qa_R kA (rq + 1) (qa_up (rq + 1) (qA rq rrq q1)))]))) ++ [(q1, .inl (kI, 3, .inl (upd (upd (upd (fun _ => 0) 0 (nI wa)) 1 (nI wb)) 2 0)))]) ++ (qT rq rrq (qE kI 3 (qF Kq)) ++ [])) ((gcW aG kG f1b f2b drc clc trq sec (nI gq) (nI (rq + 1)) infc (nI ctc) ++ ([(sa, .inr (1, [.int (nI gq), .ref q9, .null, .null, .int 0]))] ++ ([(q9, qa_R kA (rq + 1) (qa_up (rq + 1) (qA rq rrq q1)))]))) ++ (qT (rq + 1) (qA rq rrq q1) (qE kI 3 (qF (kTurn (kAdd Kq rq wa wb) rq))) ++ [])) := qT_perm (fun i hi => (qA_ne hi rrq q1).symm) (fun i hi => by show (Sum.inl (kI, 3, Sum.inl (qF Kq i)) : va_E) = .inl (kI, 3, .inl (qF (kTurn (kAdd Kq rq wa wb) rq) i)); rw [qF_off hi]) (qA_at rq rrq q1) (by show (Sum.inl (kI, 3, Sum.inl (qF (kTurn (kAdd Kq rq wa wb) rq) rq)) : va_E) = _; rw [qF_newoff])
                          have hP := hP.perm hp9
                          have hD := hD.perm hp9
                          clear hp9
                          have hP : va_P (dC, dI) vwCl ((gcW aG kG f1b f2b drc clc trq sec (nI gq) (nI (rq + 1)) infc (nI ctc) ++ ([(sa, .inr (1, [.int (nI gq), .ref q9, .null, .null, .int 0]))] ++ ([(q9, qa_R kA (rq + 1) (qa_up (rq + 1) (qA rq rrq q1)))]))) ++ (qT (rq + 1) (qA rq rrq q1) (qE kI 3 (qF (kTurn (kAdd Kq rq wa wb) rq))) ++ [])) H := hP
                          have hD : va_D A ((gcW aG kG f1b f2b drc clc trq sec (nI gq) (nI (rq + 1)) infc (nI ctc) ++ ([(sa, .inr (1, [.int (nI gq), .ref q9, .null, .null, .int 0]))] ++ ([(q9, qa_R kA (rq + 1) (qa_up (rq + 1) (qA rq rrq q1)))]))) ++ (qT (rq + 1) (qA rq rrq q1) (qE kI 3 (qF (kTurn (kAdd Kq rq wa wb) rq))) ++ [])) := hD
                          rw [hct3] at hP hD hI3
                          exact hJ440 dj396 H _ _ hdj396 ⟨⟨(kTurn (kAdd Kq rq wa wb) rq), (rq + 1), f1b, f2b, drc, clc, trq, sec, infc, q9, (qA rq rrq q1), by omega, hI3, hP, hD, hS⟩, lv_sub hl [1, 2, 3, 4, 5, 6, 7, 8, 9, 10, 11, 12, 13] rfl⟩
          · skip
            refine lv_iload hx hb dL_law_396 (lv_at hl 4 rfl) ?_
            refine lv_if_le (tgt := 414) hx hb dL_law_398 (by decide) (fun c_398 => ?_) (fun c_398 => ?_)
            · skip
              refine W.widen (k := 37 + 6 * tt) (n := 1635 + 102 * tt) (by omega) (by omega) ?_
              exact hJ396 dj347 H _ _ hdj347 ⟨⟨hP, hS⟩, lv_sub hl [0, 1, 2, 3, 4, 5, 6, 7, 8, 9, 10, 11] rfl⟩
            · skip
              have hpos : 0 < ctq := by (rcases Nat.eq_zero_or_pos ctq with q | q; exact absurd (by rw [hal0, q]; decide) c_398; exact q)
              refine lv_aload_n hx hb dL_law_401 rfl (lv_at hl 10 rfl) ?_
              refine lv_aload_n hx hb dL_law_402 rfl (lv_at hl 10 rfl) ?_
              have hPc : va_P (dC, dI) vwCl (gcW aG kG f1q f2q drq clq trq seq (nI gq) (nI rq) infq (nI ctq)) _ := hP.sub [0, 1, 2, 3, 4, 5, 6] rfl
              have hKc : va_K (dC, dI) vwCl (gcT kG) s := hK.sub [0, 1, 2, 3, 4, 5] rfl
              refine va_calli (va_runV (As := []) (rest := [.ref (aG 0)]) ⟨hx, hb, hml, hown, hts⟩ (c_X0_seat l dC dI aG kG f1q f2q drq clq trq seq gq rq infq ctq (by first | assumption | omega) (by first | assumption | omega)) (cwV 0 hts gL_law_X0_seat rfl rfl rfl (by decide +kernel) ⟨Nat.le_of_ble_eq_true rfl, Nat.le_of_ble_eq_true rfl⟩) ⟨gcPR_blind, va_recv hK hP (ci := 0) (q0 := 0) rfl rfl, fun U hU hW => ⟨rfl, by rw [hU]; exact hPc, va_K.moved hW.alike hKc⟩⟩ rfl rfl hl.1 rfl (lv_room (Nat.le_of_ble_eq_true rfl)) dL_law_403 ⟨by show _ ≤ (600172 : Nat); omega, by show _ ≤ (7300668 : Nat); omega⟩) hS (fun q _ h => h.elim) (fun q h => h.elim) (fun r34 u t H locs ht hvm hw hB hz1 hk1 hS => ?_)
              have hP := gc_keep hP hk1
              have hw : r34 = (if ctq = 0 then -1 else gGC (gAt 1024 seq 0) gq) := hw
              subst hw
              clear hw
              clear hB hz1 hk1 ht hvm
              clear hPc hKc
              refine gc_topi (y := nI (sg gq seq 0)) (seat_is (by omega) hpos) ?_
              have hPc : va_P (dC, dI) vwCl (gcW aG kG f1q f2q drq clq trq seq (nI gq) (nI rq) infq (nI ctq)) _ := hP.sub [0, 1, 2, 3, 4, 5, 6] rfl
              have hKc : va_K (dC, dI) vwCl (gcT kG) s := hK.sub [0, 1, 2, 3, 4, 5] rfl
              refine va_calli (va_runV (As := [.int (nI (sg gq seq 0))]) (rest := []) ⟨hx, hb, hml, hown, hts⟩ (c_X0_broken l dC dI aG kG f1q f2q drq clq trq seq gq rq infq ctq (sg gq seq 0) (by first | assumption | omega) (by first | assumption | omega) (sg_lt gq seq 0)) (cwV 1 hts gL_law_X0_broken rfl rfl rfl (by decide +kernel) ⟨Nat.le_of_ble_eq_true rfl, Nat.le_of_ble_eq_true rfl⟩) ⟨gcPR_blind, va_recv hK hP (ci := 0) (q0 := 0) rfl rfl, fun U hU hW => ⟨rfl, by rw [hU]; exact hPc, va_K.moved hW.alike hKc⟩⟩ rfl rfl hl.1 rfl (lv_room (Nat.le_of_ble_eq_true rfl)) dL_law_406 ⟨by show _ ≤ (600172 : Nat); omega, by show _ ≤ (7300668 : Nat); omega⟩) hS (fun q _ h => h.elim) (fun q h => h.elim) (fun r35 u t H locs ht hvm hw hB hz1 hk1 hS => ?_)
              have hP := gc_keep hP hk1
              have hw : r35 = gFst (gBr f1q f2q infq (nI (sg gq seq 0))) rq := hw
              subst hw
              clear hw
              clear hB hz1 hk1 ht hvm
              clear hPc hKc
              refine gc_topi (y := (-1)) (by rw [brk_eq hOK (by omega) hr30 (by have := sg_lt gq seq 0; omega)]; have q := (qP_sat hKr30).mpr (LF_sat hKg hLF hpos).1; rw [hKr] at q; exact q) ?_
              refine lv_if_lt (tgt := 414) hx hb dL_law_409 (by decide) (fun _ => ?_) (fun h => absurd (by decide) h)
              refine W.widen (k := 37 + 6 * tt) (n := 1635 + 102 * tt) (by omega) (by omega) ?_
              exact hJ396 dj347 H _ _ hdj347 ⟨⟨hP, hS⟩, lv_sub hl [0, 1, 2, 3, 4, 5, 6, 7, 8, 9, 10, 11] rfl⟩
        · skip
          refine lv_aload_n hx hb dL_law_347 rfl (lv_at hl 10 rfl) ?_
          have hPc : va_P (dC, dI) vwCl (gcW aG kG f1q f2q drq clq trq seq (nI gq) (nI rq) infq (nI ctq)) _ := hP.sub [0, 1, 2, 3, 4, 5, 6] rfl
          have hKc : va_K (dC, dI) vwCl (gcT kG) s := hK.sub [0, 1, 2, 3, 4, 5] rfl
          refine va_calldD hd (va_runV_D (As := []) (rest := []) ⟨hx, hb, hml, hown, hts⟩ (c_X0_mean l dC dI aG kG f1q f2q drq clq trq seq gq rq infq ctq (by first | assumption | omega)) (cwV 0 hts gL_law_X0_mean rfl rfl rfl (by decide +kernel) ⟨Nat.le_of_ble_eq_true rfl, Nat.le_of_ble_eq_true rfl⟩) ⟨gcPR_blind, va_recv hK hP (ci := 0) (q0 := 0) rfl rfl, fun U hU hW => ⟨rfl, by rw [hU]; exact hPc, va_K.moved hW.alike hKc⟩⟩ rfl rfl hl.1 rfl (lv_room (Nat.le_of_ble_eq_true rfl)) dL_law_348 ⟨by show _ ≤ (600172 : Nat); omega, by show _ ≤ (7300668 : Nat); omega⟩) hS (fun q _ h => h.elim) (fun q h => h.elim) (fun r36 u t H locs ht hvm hw hB hz1 hk1 hS d348 hd348 => ?_)
          have hts := dr_words hts1 d348
          have hKd : va_K (dC, dI) vwCl (gcT kG ++ [(kA, .array .int), (kI, .int)]) (s.setDrawn d348) := hK
          have hP := gc_keep hP hk1
          have hw_348 : alike64 r36 (gMv (gSu seq ctq) (nI ctq)) = true := hw
          clear hB hz1 hk1 ht hvm
          clear hPc hKc
          refine lv_iload hx hb dL_law_351 (lv_at hl 4 rfl) ?_
          refine lv_if_ne (tgt := 360) hx hb dL_law_353 (by decide) (fun c_353 => ?_) (fun c_353 => ?_)
          · skip
            have hw9 : alike64 r36 (FP.ddiv (FP.i2d su) (FP.i2d (nI al))) = true := by have q := hw_348; rw [gMv, if_neg (by rw [← hal9]; exact c_353), mean_eq (by omega) hKg hKr30 hLF, ← hES9, ← e_su, ← hal9] at q; exact q
            refine lv_iload hx hb dL_law_360 (lv_at hl 3 rfl) ?_
            refine lv_i2d hx hb dL_law_362 ?_
            refine lv_iload hx hb dL_law_363 (lv_at hl 4 rfl) ?_
            refine lv_i2d hx hb dL_law_365 ?_
            refine lv_ddiv_any hd348 lw_bits hx hb dL_law_366 (fun rq d1 hal hd1 => ?_)
            have hts := dr_words hts1 d1
            have hKd : va_K (dC, dI) vwCl (gcT kG ++ [(kA, .array .int), (kI, .int)]) (s.setDrawn d1) := hK
            refine lv_dcmp hx hb dL_law_367 ?_
            refine gc_topi (y := 0) (mean_same (mean_num c_353) hw9 hal) ?_
            refine lv_if_ne (tgt := 412) hx hb dL_law_368 (by decide) (fun c_368 => ?_) (fun c_368 => ?_)
            · skip
              exact absurd (by decide) c_368
            · skip
              refine W.widen (k := 37 + 6 * tt) (n := 1635 + 102 * tt) (by omega) (by omega) ?_
              exact hJ347 d1 H _ _ hd1 ⟨⟨hP, hS⟩, lv_sub hl [0, 1, 2, 3, 4, 5, 6, 7, 8, 9, 10, 11] rfl⟩
          · skip
            have hw9 : alike64 r36 FP.dconst0 = true := by have q := hw_348; rw [gMv, if_pos (by rw [← hal9]; exact c_353)] at q; exact q
            refine lv_dconst0 hx hb dL_law_356 ?_
            refine lv_goto (tgt := 367) hx hb dL_law_357 (by decide) ?_
            refine lv_dcmp hx hb dL_law_367 ?_
            refine gc_topi (y := 0) (mean_same mean_zero hw9 (alike_self _)) ?_
            refine lv_if_ne (tgt := 412) hx hb dL_law_368 (by decide) (fun c_368 => ?_) (fun c_368 => ?_)
            · skip
              exact absurd (by decide) c_368
            · skip
              refine W.widen (k := 37 + 6 * tt) (n := 1635 + 102 * tt) (by omega) (by omega) ?_
              exact hJ347 d348 H _ _ hd348 ⟨⟨hP, hS⟩, lv_sub hl [0, 1, 2, 3, 4, 5, 6, 7, 8, 9, 10, 11] rfl⟩
      · skip
        have hLS9 : S9 < 2 ^ gq := gc_lt c_115 (by omega) (by omega)
        refine lv_aload_n hx hb dL_law_118 rfl (lv_at hl 10 rfl) ?_
        refine lv_iload hx hb dL_law_119 (lv_at hl 0 rfl) ?_
        have hPc : va_P (dC, dI) vwCl (gcW aG kG f1q f2q drq clq trq seq (nI gq) (nI rq) infq (nI ctq)) _ := hP.sub [0, 1, 2, 3, 4, 5, 6] rfl
        have hKc : va_K (dC, dI) vwCl (gcT kG) s := hK.sub [0, 1, 2, 3, 4, 5] rfl
        refine va_calli (va_runV (As := [.int (nI S9)]) (rest := []) ⟨hx, hb, hml, hown, hts⟩ (c_X0_broken l dC dI aG kG f1q f2q drq clq trq seq gq rq infq ctq S9 (by first | assumption | omega) (by first | assumption | omega) (by first | assumption | omega)) (cwV 1 hts gL_law_X0_broken rfl rfl rfl (by decide +kernel) ⟨Nat.le_of_ble_eq_true rfl, Nat.le_of_ble_eq_true rfl⟩) ⟨gcPR_blind, va_recv hK hP (ci := 0) (q0 := 0) rfl rfl, fun U hU hW => ⟨rfl, by rw [hU]; exact hPc, va_K.moved hW.alike hKc⟩⟩ rfl rfl hl.1 rfl (lv_room (Nat.le_of_ble_eq_true rfl)) dL_law_121 ⟨by show _ ≤ (600172 : Nat); omega, by show _ ≤ (7300668 : Nat); omega⟩) hS (fun q _ h => h.elim) (fun q h => h.elim) (fun r37 u t H locs ht hvm hw hB hz1 hk1 hS => ?_)
        have hP := gc_keep hP hk1
        have hw : r37 = gFst (gBr f1q f2q infq (nI S9)) rq := hw
        subst hw
        clear hw
        clear hB hz1 hk1 ht hvm
        clear hPc hKc
        rcases gFst_cases (qP Kq S9) (n := rq) (by omega) with hbk | ⟨jb, hjb1, hbk, hjb2, hjb3⟩
        · skip
          refine gc_topi (y := (-1)) (by rw [brk_eq hOK (by omega) hr30 (by omega)]; exact hbk) ?_
          have hs9 : satp Kq S9 := (qP_sat hKr30).mp (by rw [hKr]; exact hbk)
          have hb9 : mBB Kq (-1) (-1) (nI S9) = -1 := (mBB_sat (by omega) hKg hKr30 (by omega)).mpr hs9
          refine lv_istore (lv' := [(12, .int (-1)), (11, .int (nI S9)), (10, .int mo), (9, .int fe), (8, .int su), (7, .int (nI al)), (6, .int (nI rq)), (5, .int (nI gq)), (4, .int xx), (3, .int (nI tt)), (0, .ref b), (1, .ref (aG 0)), (2, .ref sa)]) hx hb dL_law_124 hl (by decide) rfl (fun ls hl => ?_)
          refine lv_iconst (v := 0) hx hb dL_law_126 (by decide) ?_
          refine lv_istore (lv' := [(13, .int 0), (12, .int (-1)), (11, .int (nI S9)), (10, .int mo), (9, .int fe), (8, .int su), (7, .int (nI al)), (6, .int (nI rq)), (5, .int (nI gq)), (4, .int xx), (3, .int (nI tt)), (0, .ref b), (1, .ref (aG 0)), (2, .ref sa)]) hx hb dL_law_127 hl (by decide) rfl (fun ls hl => ?_)
          refine lv_iconst (v := 0) hx hb dL_law_129 (by decide) ?_
          refine lv_istore (lv' := [(14, .int 0), (13, .int 0), (12, .int (-1)), (11, .int (nI S9)), (10, .int mo), (9, .int fe), (8, .int su), (7, .int (nI al)), (6, .int (nI rq)), (5, .int (nI gq)), (4, .int xx), (3, .int (nI tt)), (0, .ref b), (1, .ref (aG 0)), (2, .ref sa)]) hx hb dL_law_130 hl (by decide) rfl (fun ls hl => ?_)
          refine gc_loop (gq) (fun (y9 : Nat) (H : Heap) (locs : List Loc) (ls : Array Slot) => ∃ (z : Nat), z = fb_ct (fun x => S9.testBit x) y9 ∧ va_P (dC, dI) vwCl ((gcW aG kG f1q f2q drq clq trq seq (nI gq) (nI rq) infq (nI ctq) ++ ([(sa, .inr (1, [.int (nI gq), .ref ruq, .null, .null, .int 0]))] ++ ([(ruq, qa_R kA rq (qa_up rq rrq))]))) ++ (qT rq rrq (qE kI 3 (qF Kq)) ++ [])) H ∧ va_D A ((gcW aG kG f1q f2q drq clq trq seq (nI gq) (nI rq) infq (nI ctq) ++ ([(sa, .inr (1, [.int (nI gq), .ref ruq, .null, .null, .int 0]))] ++ ([(ruq, qa_R kA rq (qa_up rq rrq))]))) ++ (qT rq rrq (qE kI 3 (qF Kq)) ++ [])) ∧ va_S A s.heap H locs ∧ lv_has ls 17 [(14, .int (nI y9)), (13, .int (nI z)), (12, .int (-1)), (11, .int (nI S9)), (10, .int mo), (9, .int fe), (8, .int su), (7, .int (nI al)), (6, .int (nI rq)), (5, .int (nI gq)), (4, .int xx), (3, .int (nI tt)), (0, .ref b), (1, .ref (aG 0)), (2, .ref sa)]) 0 (Nat.zero_le _) ⟨0, (by first | rfl | assumption | omega), hP, hD, hS, lv_sub hl [0, 1, 2, 3, 4, 5, 6, 7, 8, 9, 10, 11, 12, 13, 14] rfl⟩ ?_
          intro y9 H locs ls hy9 hI ihy9
          obtain ⟨z, e_z, hP, hD, hS, hl⟩ := hI
          refine lv_iload hx hb dL_law_132 (lv_at hl 0 rfl) ?_
          refine lv_iload hx hb dL_law_134 (lv_at hl 9 rfl) ?_
          refine lv_icmp_ge (tgt := 157) hx hb dL_law_136 (by decide) (fun c_136 => ?_) (fun c_136 => ?_)
          · skip
            have hEy9 : y9 = gq := gc_ge c_136 (by omega) (by omega)
            have hz9 : nI z = mSz (nI S9) 10 := by rw [mSz_pc (by omega), e_z, hEy9, pc_g (by omega) hLS9]
            refine lv_iconst (v := 0) hx hb dL_law_157 (by decide) ?_
            refine lv_istore (lv' := [(14, .int 0), (13, .int (nI z)), (12, .int (-1)), (11, .int (nI S9)), (10, .int mo), (9, .int fe), (8, .int su), (7, .int (nI al)), (6, .int (nI rq)), (5, .int (nI gq)), (4, .int xx), (3, .int (nI tt)), (0, .ref b), (1, .ref (aG 0)), (2, .ref sa)]) hx hb dL_law_158 hl (by decide) rfl (fun ls hl => ?_)
            refine gc_loop (rq) (fun (k9 : Nat) (H : Heap) (locs : List Loc) (ls : Array Slot) => va_P (dC, dI) vwCl ((gcW aG kG f1q f2q drq clq trq seq (nI gq) (nI rq) infq (nI ctq) ++ ([(sa, .inr (1, [.int (nI gq), .ref ruq, .null, .null, .int 0]))] ++ ([(ruq, qa_R kA rq (qa_up rq rrq))]))) ++ (qT rq rrq (qE kI 3 (qF Kq)) ++ [])) H ∧ va_D A ((gcW aG kG f1q f2q drq clq trq seq (nI gq) (nI rq) infq (nI ctq) ++ ([(sa, .inr (1, [.int (nI gq), .ref ruq, .null, .null, .int 0]))] ++ ([(ruq, qa_R kA rq (qa_up rq rrq))]))) ++ (qT rq rrq (qE kI 3 (qF Kq)) ++ [])) ∧ va_S A s.heap H locs ∧ lv_has ls 17 [(14, .int (nI k9)), (13, .int (nI z)), (12, .int (-1)), (11, .int (nI S9)), (10, .int mo), (9, .int fe), (8, .int su), (7, .int (nI al)), (6, .int (nI rq)), (5, .int (nI gq)), (4, .int xx), (3, .int (nI tt)), (0, .ref b), (1, .ref (aG 0)), (2, .ref sa)]) 0 (Nat.zero_le _) ⟨hP, hD, hS, lv_sub hl [0, 1, 2, 3, 4, 5, 6, 7, 8, 9, 10, 11, 12, 13, 14] rfl⟩ ?_
            intro k9 H locs ls hk9 hI ihk9
            obtain ⟨hP, hD, hS, hl⟩ := hI
            refine lv_iload hx hb dL_law_160 (lv_at hl 0 rfl) ?_
            refine lv_iload hx hb dL_law_162 (lv_at hl 8 rfl) ?_
            refine lv_icmp_ge (tgt := 251) hx hb dL_law_164 (by decide) (fun c_164 => ?_) (fun c_164 => ?_)
            · skip
              have hEk9 : k9 = rq := gc_ge c_164 (by omega) (by omega)
              refine lv_iload hx hb dL_law_251 (lv_at hl 2 rfl) ?_
              refine lv_if_lt (tgt := 259) hx hb dL_law_253 (by decide) (fun _ => ?_) (fun h => absurd (by decide) h)
              refine lv_iinc (v := nI (al + 1)) (lv' := [(7, .int (nI (al + 1))), (14, .int (nI k9)), (13, .int (nI z)), (12, .int (-1)), (11, .int (nI S9)), (10, .int mo), (9, .int fe), (8, .int su), (6, .int (nI rq)), (5, .int (nI gq)), (4, .int xx), (3, .int (nI tt)), (0, .ref b), (1, .ref (aG 0)), (2, .ref sa)]) hx hb dL_law_259 hl (k := 7) rfl (nI_1 al) (by decide) rfl (fun ls hl => ?_)
              refine lv_iload hx hb dL_law_262 (lv_at hl 7 rfl) ?_
              refine lv_iload hx hb dL_law_264 (lv_at hl 2 rfl) ?_
              refine lv_iadd hx hb dL_law_266 ?_
              refine lv_istore (lv' := [(8, .int (su + nI z)), (7, .int (nI (al + 1))), (14, .int (nI k9)), (13, .int (nI z)), (12, .int (-1)), (11, .int (nI S9)), (10, .int mo), (9, .int fe), (6, .int (nI rq)), (5, .int (nI gq)), (4, .int xx), (3, .int (nI tt)), (0, .ref b), (1, .ref (aG 0)), (2, .ref sa)]) hx hb dL_law_267 hl (by decide) rfl (fun ls hl => ?_)
              refine lv_iload hx hb dL_law_269 (lv_at hl 7 rfl) ?_
              refine lv_if_ge (tgt := 279) hx hb dL_law_271 (by decide) (fun c_271 => ?_) (fun c_271 => ?_)
              · skip
                refine lv_iload hx hb dL_law_279 (lv_at hl 7 rfl) ?_
                refine lv_iload hx hb dL_law_281 (lv_at hl 3 rfl) ?_
                refine va_mmin (s := s.setDrawn d) hx hb (hml.trans hl.1.symm) hown (hts (.methodLink RL 70 Lib.Math.min.name) (by decide +kernel)) (hts (.static Lib.Math.min.name) (by decide +kernel)) (hts (.initialized "java/lang/Math") (by decide +kernel)) (hts (.code Lib.Math.min.name Lib.Math.min.code 2 (some .int)) (by decide +kernel)) (Nat.le_of_ble_eq_true rfl) (Nat.le_of_ble_eq_true rfl) (by show _ ≤ (600172 : Nat); omega) (by show _ ≤ (7300668 : Nat); omega) dL_law_283 ?_
                refine lv_istore (lv' := [(9, .int (if nI z < fe then nI z else fe)), (8, .int (su + nI z)), (7, .int (nI (al + 1))), (14, .int (nI k9)), (13, .int (nI z)), (12, .int (-1)), (11, .int (nI S9)), (10, .int mo), (6, .int (nI rq)), (5, .int (nI gq)), (4, .int xx), (3, .int (nI tt)), (0, .ref b), (1, .ref (aG 0)), (2, .ref sa)]) hx hb dL_law_286 hl (by decide) rfl (fun ls hl => ?_)
                refine lv_iload hx hb dL_law_288 (lv_at hl 7 rfl) ?_
                refine lv_iload hx hb dL_law_290 (lv_at hl 4 rfl) ?_
                refine va_mmax (s := s.setDrawn d) hx hb (hml.trans hl.1.symm) hown (hts (.methodLink RL 75 Lib.Math.max.name) (by decide +kernel)) (hts (.static Lib.Math.max.name) (by decide +kernel)) (hts (.initialized "java/lang/Math") (by decide +kernel)) (hts (.code Lib.Math.max.name Lib.Math.max.code 2 (some .int)) (by decide +kernel)) (Nat.le_of_ble_eq_true rfl) (Nat.le_of_ble_eq_true rfl) (by show _ ≤ (600172 : Nat); omega) (by show _ ≤ (7300668 : Nat); omega) dL_law_292 ?_
                refine lv_istore (lv' := [(10, .int (if mo < nI z then nI z else mo)), (9, .int (if nI z < fe then nI z else fe)), (8, .int (su + nI z)), (7, .int (nI (al + 1))), (14, .int (nI k9)), (13, .int (nI z)), (12, .int (-1)), (11, .int (nI S9)), (6, .int (nI rq)), (5, .int (nI gq)), (4, .int xx), (3, .int (nI tt)), (0, .ref b), (1, .ref (aG 0)), (2, .ref sa)]) hx hb dL_law_295 hl (by decide) rfl (fun ls hl => ?_)
                refine lv_iinc (v := nI (S9 + 1)) (lv' := [(11, .int (nI (S9 + 1))), (10, .int (if mo < nI z then nI z else mo)), (9, .int (if nI z < fe then nI z else fe)), (8, .int (su + nI z)), (7, .int (nI (al + 1))), (14, .int (nI k9)), (13, .int (nI z)), (12, .int (-1)), (6, .int (nI rq)), (5, .int (nI gq)), (4, .int xx), (3, .int (nI tt)), (0, .ref b), (1, .ref (aG 0)), (2, .ref sa)]) hx hb dL_law_297 hl (k := 7) rfl (nI_1 S9) (by decide) rfl (fun ls hl => ?_)
                refine lv_goto (tgt := 109) hx hb dL_law_300 (by decide) ?_
                exact ihS9 H _ ls (by omega) ⟨(al + 1), (su + nI z), (if nI z < fe then nI z else fe), (if mo < nI z then nI z else mo), (by rw [ct_y (q := sb Kq) (u := S9) (sb_t hs9), ← e_al]), (by rw [mSu, if_pos hb9, ← e_su, ← hz9]), (by (have q0 : ¬ fe = -1 := fun q => by (rw [q] at c_271; exact absurd c_271 (by decide))); rw [mFe, ← e_fe, ← hz9]; by_cases q1 : nI z < fe; rw [if_pos q1, if_pos ⟨hb9, Or.inr q1⟩]; rw [if_neg q1, if_neg (fun q => q.2.elim q0 q1)]), (by rw [mMo, if_pos hb9, ← e_mo, ← hz9]), hP, hD, hS, lv_sub hl [0, 1, 2, 3, 4, 8, 9, 10, 11, 12, 13, 14] rfl⟩
              · skip
                refine lv_iload hx hb dL_law_274 (lv_at hl 3 rfl) ?_
                refine lv_goto (tgt := 286) hx hb dL_law_276 (by decide) ?_
                refine lv_istore (lv' := [(9, .int (nI z)), (8, .int (su + nI z)), (7, .int (nI (al + 1))), (14, .int (nI k9)), (13, .int (nI z)), (12, .int (-1)), (11, .int (nI S9)), (10, .int mo), (6, .int (nI rq)), (5, .int (nI gq)), (4, .int xx), (3, .int (nI tt)), (0, .ref b), (1, .ref (aG 0)), (2, .ref sa)]) hx hb dL_law_286 hl (by decide) rfl (fun ls hl => ?_)
                refine lv_iload hx hb dL_law_288 (lv_at hl 7 rfl) ?_
                refine lv_iload hx hb dL_law_290 (lv_at hl 4 rfl) ?_
                refine va_mmax (s := s.setDrawn d) hx hb (hml.trans hl.1.symm) hown (hts (.methodLink RL 75 Lib.Math.max.name) (by decide +kernel)) (hts (.static Lib.Math.max.name) (by decide +kernel)) (hts (.initialized "java/lang/Math") (by decide +kernel)) (hts (.code Lib.Math.max.name Lib.Math.max.code 2 (some .int)) (by decide +kernel)) (Nat.le_of_ble_eq_true rfl) (Nat.le_of_ble_eq_true rfl) (by show _ ≤ (600172 : Nat); omega) (by show _ ≤ (7300668 : Nat); omega) dL_law_292 ?_
                refine lv_istore (lv' := [(10, .int (if mo < nI z then nI z else mo)), (9, .int (nI z)), (8, .int (su + nI z)), (7, .int (nI (al + 1))), (14, .int (nI k9)), (13, .int (nI z)), (12, .int (-1)), (11, .int (nI S9)), (6, .int (nI rq)), (5, .int (nI gq)), (4, .int xx), (3, .int (nI tt)), (0, .ref b), (1, .ref (aG 0)), (2, .ref sa)]) hx hb dL_law_295 hl (by decide) rfl (fun ls hl => ?_)
                refine lv_iinc (v := nI (S9 + 1)) (lv' := [(11, .int (nI (S9 + 1))), (10, .int (if mo < nI z then nI z else mo)), (9, .int (nI z)), (8, .int (su + nI z)), (7, .int (nI (al + 1))), (14, .int (nI k9)), (13, .int (nI z)), (12, .int (-1)), (6, .int (nI rq)), (5, .int (nI gq)), (4, .int xx), (3, .int (nI tt)), (0, .ref b), (1, .ref (aG 0)), (2, .ref sa)]) hx hb dL_law_297 hl (k := 7) rfl (nI_1 S9) (by decide) rfl (fun ls hl => ?_)
                refine lv_goto (tgt := 109) hx hb dL_law_300 (by decide) ?_
                exact ihS9 H _ ls (by omega) ⟨(al + 1), (su + nI z), (nI z), (if mo < nI z then nI z else mo), (by rw [ct_y (q := sb Kq) (u := S9) (sb_t hs9), ← e_al]), (by rw [mSu, if_pos hb9, ← e_su, ← hz9]), (by (have q0 : fe = -1 := by rw [e_fe]; exact (mFe_ge (by omega) hKg hKr30 (by omega)).mp (by rw [← e_fe]; exact i32_lt c_271)); rw [mFe, ← e_fe, ← hz9, if_pos ⟨hb9, Or.inl q0⟩]), (by rw [mMo, if_pos hb9, ← e_mo, ← hz9]), hP, hD, hS, lv_sub hl [0, 1, 2, 3, 4, 8, 9, 10, 11, 12, 13, 14] rfl⟩
            · skip
              have hLk9 : k9 < rq := gc_lt c_164 (by omega) (by omega)
              obtain ⟨hk1, hk2⟩ := hKg k9 (by omega)
              refine lv_iload hx hb dL_law_167 (lv_at hl 2 rfl) ?_
              refine lv_if_lt (tgt := 179) hx hb dL_law_169 (by decide) (fun _ => ?_) (fun h => absurd (by decide) h)
              refine lv_aload_n hx hb dL_law_179 rfl (lv_at hl 13 rfl) ?_
              refine lv_iload hx hb dL_law_180 (lv_at hl 0 rfl) ?_
              refine lv_iconst (v := 2) hx hb dL_law_182 (by decide) ?_
              have hPc : va_P (dC, dI) vwCl (gcW aG kG f1q f2q drq clq trq seq (nI gq) (nI rq) infq (nI ctq)) _ := hP.sub [0, 1, 2, 3, 4, 5, 6] rfl
              have hKc : va_K (dC, dI) vwCl (gcT kG) s := hK.sub [0, 1, 2, 3, 4, 5] rfl
              refine va_calli (va_runV (As := [.int (nI k9), .int 2]) (rest := []) ⟨hx, hb, hml, hown, hts⟩ (c_X0_told l dC dI aG kG f1q f2q drq clq trq seq gq rq infq ctq k9 2 (by first | assumption | omega) (by first | assumption | omega) (by first | assumption | omega)) (cwV 2 hts gL_law_X0_told rfl rfl rfl (by decide +kernel) ⟨Nat.le_of_ble_eq_true rfl, Nat.le_of_ble_eq_true rfl⟩) ⟨gcPR_blind, va_recv hK hP (ci := 0) (q0 := 0) rfl rfl, fun U hU hW => ⟨rfl, by rw [hU]; exact hPc, va_K.moved hW.alike hKc⟩⟩ rfl rfl hl.1 rfl (lv_room (Nat.le_of_ble_eq_true rfl)) dL_law_183 ⟨by show _ ≤ (600172 : Nat); omega, by show _ ≤ (7300668 : Nat); omega⟩) hS (fun q _ h => h.elim) (fun q h => h.elim) (fun r38 u t H locs ht hvm hw hB hz1 hk1 hS => ?_)
              have hP := gc_keep hP hk1
              have hw : r38 = gTo f1q f2q infq k9 2 := hw
              subst hw
              clear hw
              clear hB hz1 hk1 ht hvm
              clear hPc hKc
              refine gc_topi (y := gB (Kq.2.2.2 k9)) (by rw [told_eq hOK hr30 hLk9 (by decide)]; rfl) ?_
              refine lv_if_eq (tgt := 219) hx hb dL_law_186 (by decide) (fun c_186 => ?_) (fun c_186 => ?_)
              · skip
                have c_186 := gB_f c_186
                refine lv_iconst (v := 1) hx hb dL_law_219 (by decide) ?_
                refine lv_goto (tgt := 224) hx hb dL_law_220 (by decide) ?_
                refine lv_istore (lv' := [(15, .int 1), (14, .int (nI k9)), (13, .int (nI z)), (12, .int (-1)), (11, .int (nI S9)), (10, .int mo), (9, .int fe), (8, .int su), (7, .int (nI al)), (6, .int (nI rq)), (5, .int (nI gq)), (4, .int xx), (3, .int (nI tt)), (0, .ref b), (1, .ref (aG 0)), (2, .ref sa)]) hx hb dL_law_224 hl (by decide) rfl (fun ls hl => ?_)
                refine lv_iload hx hb dL_law_226 (lv_at hl 0 rfl) ?_
                refine lv_iload hx hb dL_law_228 (lv_at hl 1 rfl) ?_
                refine lv_iload hx hb dL_law_230 (lv_at hl 3 rfl) ?_
                refine lv_icmp_ne (tgt := 239) hx hb dL_law_232 (by decide) (fun c_232 => ?_) (fun c_232 => ?_)
                · skip
                  have hq9 : qP Kq S9 k9 = false := by unfold qP; rw [c_186]; rfl
                  refine lv_iconst (v := 0) hx hb dL_law_239 (by decide) ?_
                  refine lv_icmp_ne (tgt := 245) hx hb dL_law_240 (by decide) (fun _ => ?_) (fun h => absurd h (by decide))
                  refine lv_iinc (v := nI (k9 + 1)) (lv' := [(14, .int (nI (k9 + 1))), (15, .int 1), (13, .int (nI z)), (12, .int (-1)), (11, .int (nI S9)), (10, .int mo), (9, .int fe), (8, .int su), (7, .int (nI al)), (6, .int (nI rq)), (5, .int (nI gq)), (4, .int xx), (3, .int (nI tt)), (0, .ref b), (1, .ref (aG 0)), (2, .ref sa)]) hx hb dL_law_245 hl (k := 1) rfl (nI_1 k9) (by decide) rfl (fun ls hl => ?_)
                  refine lv_goto (tgt := 160) hx hb dL_law_248 (by decide) ?_
                  exact ihk9 H _ ls (by omega) ⟨hP, hD, hS, lv_sub hl [0, 2, 3, 4, 5, 6, 7, 8, 9, 10, 11, 12, 13, 14, 15] rfl⟩
                · skip
                  have hq9 : qP Kq S9 k9 = false := by unfold qP; rw [c_186]; rfl
                  exact absurd c_232 (nI_nm1 (by omega))
              · skip
                have c_186 := gB_t c_186
                refine lv_iload hx hb dL_law_189 (lv_at hl 3 rfl) ?_
                refine lv_aload_n hx hb dL_law_191 rfl (lv_at hl 13 rfl) ?_
                refine lv_iload hx hb dL_law_192 (lv_at hl 0 rfl) ?_
                refine lv_iconst (v := 0) hx hb dL_law_194 (by decide) ?_
                have hPc : va_P (dC, dI) vwCl (gcW aG kG f1q f2q drq clq trq seq (nI gq) (nI rq) infq (nI ctq)) _ := hP.sub [0, 1, 2, 3, 4, 5, 6] rfl
                have hKc : va_K (dC, dI) vwCl (gcT kG) s := hK.sub [0, 1, 2, 3, 4, 5] rfl
                refine va_calli (va_runV (As := [.int (nI k9), .int 0]) (rest := [.int (nI S9)]) ⟨hx, hb, hml, hown, hts⟩ (c_X0_told l dC dI aG kG f1q f2q drq clq trq seq gq rq infq ctq k9 0 (by first | assumption | omega) (by first | assumption | omega) (by first | assumption | omega)) (cwV 2 hts gL_law_X0_told rfl rfl rfl (by decide +kernel) ⟨Nat.le_of_ble_eq_true rfl, Nat.le_of_ble_eq_true rfl⟩) ⟨gcPR_blind, va_recv hK hP (ci := 0) (q0 := 0) rfl rfl, fun U hU hW => ⟨rfl, by rw [hU]; exact hPc, va_K.moved hW.alike hKc⟩⟩ rfl rfl hl.1 rfl (lv_room (Nat.le_of_ble_eq_true rfl)) dL_law_195 ⟨by show _ ≤ (600172 : Nat); omega, by show _ ≤ (7300668 : Nat); omega⟩) hS (fun q _ h => h.elim) (fun q h => h.elim) (fun r39 u t H locs ht hvm hw hB hz1 hk1 hS => ?_)
                have hP := gc_keep hP hk1
                have hw : r39 = gTo f1q f2q infq k9 0 := hw
                subst hw
                clear hw
                clear hB hz1 hk1 ht hvm
                clear hPc hKc
                refine gc_topi (y := nI (Kq.2.1 k9)) (by rw [told_eq hOK hr30 hLk9 (by decide)]; rfl) ?_
                refine va_calli (va_runS (As := [.int (nI S9), .int (nI (Kq.2.1 k9))]) (rest := []) ⟨hx, hb, hml, hown, hts⟩ (c_X1_holds l S9 (Kq.2.1 k9) (by first | assumption | omega) (by first | assumption | omega)) (va_cwS 2 hts gL_law_X1_holds rfl rfl rfl (by decide +kernel) ⟨Nat.le_of_ble_eq_true rfl, Nat.le_of_ble_eq_true rfl⟩) ⟨fun a U g mk q => q, fun U hU hW => ⟨rfl, trivial⟩⟩ rfl rfl hl.1 rfl (lv_room (Nat.le_of_ble_eq_true rfl)) dL_law_198 ⟨by show _ ≤ (600172 : Nat); omega, by show _ ≤ (7300668 : Nat); omega⟩) hS (fun q _ h => h.elim) (fun q h => h.elim) (fun r40 u t H locs ht hvm hw hB hz1 hk1 hS => ?_)
                have hP := gc_keep hP hk1
                have hw : r40 = gB (hol (Kq.2.1 k9) S9) := hw
                subst hw
                clear hw
                clear hB hz1 hk1 ht hvm
                refine lv_if_eq (tgt := 219) hx hb dL_law_201 (by decide) (fun c_201 => ?_) (fun c_201 => ?_)
                · skip
                  have c_201 := gB_f c_201
                  refine lv_iconst (v := 1) hx hb dL_law_219 (by decide) ?_
                  refine lv_goto (tgt := 224) hx hb dL_law_220 (by decide) ?_
                  refine lv_istore (lv' := [(15, .int 1), (14, .int (nI k9)), (13, .int (nI z)), (12, .int (-1)), (11, .int (nI S9)), (10, .int mo), (9, .int fe), (8, .int su), (7, .int (nI al)), (6, .int (nI rq)), (5, .int (nI gq)), (4, .int xx), (3, .int (nI tt)), (0, .ref b), (1, .ref (aG 0)), (2, .ref sa)]) hx hb dL_law_224 hl (by decide) rfl (fun ls hl => ?_)
                  refine lv_iload hx hb dL_law_226 (lv_at hl 0 rfl) ?_
                  refine lv_iload hx hb dL_law_228 (lv_at hl 1 rfl) ?_
                  refine lv_iload hx hb dL_law_230 (lv_at hl 3 rfl) ?_
                  refine lv_icmp_ne (tgt := 239) hx hb dL_law_232 (by decide) (fun c_232 => ?_) (fun c_232 => ?_)
                  · skip
                    have hq9 : qP Kq S9 k9 = false := by unfold qP; rw [c_201]; cases Kq.2.2.2 k9 <;> rfl
                    refine lv_iconst (v := 0) hx hb dL_law_239 (by decide) ?_
                    refine lv_icmp_ne (tgt := 245) hx hb dL_law_240 (by decide) (fun _ => ?_) (fun h => absurd h (by decide))
                    refine lv_iinc (v := nI (k9 + 1)) (lv' := [(14, .int (nI (k9 + 1))), (15, .int 1), (13, .int (nI z)), (12, .int (-1)), (11, .int (nI S9)), (10, .int mo), (9, .int fe), (8, .int su), (7, .int (nI al)), (6, .int (nI rq)), (5, .int (nI gq)), (4, .int xx), (3, .int (nI tt)), (0, .ref b), (1, .ref (aG 0)), (2, .ref sa)]) hx hb dL_law_245 hl (k := 1) rfl (nI_1 k9) (by decide) rfl (fun ls hl => ?_)
                    refine lv_goto (tgt := 160) hx hb dL_law_248 (by decide) ?_
                    exact ihk9 H _ ls (by omega) ⟨hP, hD, hS, lv_sub hl [0, 2, 3, 4, 5, 6, 7, 8, 9, 10, 11, 12, 13, 14, 15] rfl⟩
                  · skip
                    have hq9 : qP Kq S9 k9 = false := by unfold qP; rw [c_201]; cases Kq.2.2.2 k9 <;> rfl
                    exact absurd c_232 (nI_nm1 (by omega))
                · skip
                  have c_201 := gB_t c_201
                  refine lv_iload hx hb dL_law_204 (lv_at hl 3 rfl) ?_
                  refine lv_aload_n hx hb dL_law_206 rfl (lv_at hl 13 rfl) ?_
                  refine lv_iload hx hb dL_law_207 (lv_at hl 0 rfl) ?_
                  refine lv_iconst (v := 1) hx hb dL_law_209 (by decide) ?_
                  have hPc : va_P (dC, dI) vwCl (gcW aG kG f1q f2q drq clq trq seq (nI gq) (nI rq) infq (nI ctq)) _ := hP.sub [0, 1, 2, 3, 4, 5, 6] rfl
                  have hKc : va_K (dC, dI) vwCl (gcT kG) s := hK.sub [0, 1, 2, 3, 4, 5] rfl
                  refine va_calli (va_runV (As := [.int (nI k9), .int 1]) (rest := [.int (nI S9)]) ⟨hx, hb, hml, hown, hts⟩ (c_X0_told l dC dI aG kG f1q f2q drq clq trq seq gq rq infq ctq k9 1 (by first | assumption | omega) (by first | assumption | omega) (by first | assumption | omega)) (cwV 2 hts gL_law_X0_told rfl rfl rfl (by decide +kernel) ⟨Nat.le_of_ble_eq_true rfl, Nat.le_of_ble_eq_true rfl⟩) ⟨gcPR_blind, va_recv hK hP (ci := 0) (q0 := 0) rfl rfl, fun U hU hW => ⟨rfl, by rw [hU]; exact hPc, va_K.moved hW.alike hKc⟩⟩ rfl rfl hl.1 rfl (lv_room (Nat.le_of_ble_eq_true rfl)) dL_law_210 ⟨by show _ ≤ (600172 : Nat); omega, by show _ ≤ (7300668 : Nat); omega⟩) hS (fun q _ h => h.elim) (fun q h => h.elim) (fun r41 u t H locs ht hvm hw hB hz1 hk1 hS => ?_)
                  have hP := gc_keep hP hk1
                  have hw : r41 = gTo f1q f2q infq k9 1 := hw
                  subst hw
                  clear hw
                  clear hB hz1 hk1 ht hvm
                  clear hPc hKc
                  refine gc_topi (y := nI (Kq.2.2.1 k9)) (by rw [told_eq hOK hr30 hLk9 (by decide)]; rfl) ?_
                  refine va_calli (va_runS (As := [.int (nI S9), .int (nI (Kq.2.2.1 k9))]) (rest := []) ⟨hx, hb, hml, hown, hts⟩ (c_X1_holds l S9 (Kq.2.2.1 k9) (by first | assumption | omega) (by first | assumption | omega)) (va_cwS 2 hts gL_law_X1_holds rfl rfl rfl (by decide +kernel) ⟨Nat.le_of_ble_eq_true rfl, Nat.le_of_ble_eq_true rfl⟩) ⟨fun a U g mk q => q, fun U hU hW => ⟨rfl, trivial⟩⟩ rfl rfl hl.1 rfl (lv_room (Nat.le_of_ble_eq_true rfl)) dL_law_213 ⟨by show _ ≤ (600172 : Nat); omega, by show _ ≤ (7300668 : Nat); omega⟩) hS (fun q _ h => h.elim) (fun q h => h.elim) (fun r42 u t H locs ht hvm hw hB hz1 hk1 hS => ?_)
                  have hP := gc_keep hP hk1
                  have hw : r42 = gB (hol (Kq.2.2.1 k9) S9) := hw
                  subst hw
                  clear hw
                  clear hB hz1 hk1 ht hvm
                  refine lv_if_eq (tgt := 223) hx hb dL_law_216 (by decide) (fun c_216 => ?_) (fun c_216 => ?_)
                  · skip
                    have c_216 := gB_f c_216
                    refine lv_iconst (v := 0) hx hb dL_law_223 (by decide) ?_
                    refine lv_istore (lv' := [(15, .int 0), (14, .int (nI k9)), (13, .int (nI z)), (12, .int (-1)), (11, .int (nI S9)), (10, .int mo), (9, .int fe), (8, .int su), (7, .int (nI al)), (6, .int (nI rq)), (5, .int (nI gq)), (4, .int xx), (3, .int (nI tt)), (0, .ref b), (1, .ref (aG 0)), (2, .ref sa)]) hx hb dL_law_224 hl (by decide) rfl (fun ls hl => ?_)
                    refine lv_iload hx hb dL_law_226 (lv_at hl 0 rfl) ?_
                    refine lv_iload hx hb dL_law_228 (lv_at hl 1 rfl) ?_
                    refine lv_iload hx hb dL_law_230 (lv_at hl 3 rfl) ?_
                    refine lv_icmp_ne (tgt := 239) hx hb dL_law_232 (by decide) (fun c_232 => ?_) (fun c_232 => ?_)
                    · skip
                      have hq9 : qP Kq S9 k9 = true := by unfold qP; rw [c_186, c_201, c_216]; rfl
                      exact absurd hq9 (by rw [(gFst_iff (by omega)).mp hbk k9 hLk9]; decide)
                    · skip
                      have hq9 : qP Kq S9 k9 = true := by unfold qP; rw [c_186, c_201, c_216]; rfl
                      exact absurd hq9 (by rw [(gFst_iff (by omega)).mp hbk k9 hLk9]; decide)
                  · skip
                    have c_216 := gB_t c_216
                    refine lv_iconst (v := 1) hx hb dL_law_219 (by decide) ?_
                    refine lv_goto (tgt := 224) hx hb dL_law_220 (by decide) ?_
                    refine lv_istore (lv' := [(15, .int 1), (14, .int (nI k9)), (13, .int (nI z)), (12, .int (-1)), (11, .int (nI S9)), (10, .int mo), (9, .int fe), (8, .int su), (7, .int (nI al)), (6, .int (nI rq)), (5, .int (nI gq)), (4, .int xx), (3, .int (nI tt)), (0, .ref b), (1, .ref (aG 0)), (2, .ref sa)]) hx hb dL_law_224 hl (by decide) rfl (fun ls hl => ?_)
                    refine lv_iload hx hb dL_law_226 (lv_at hl 0 rfl) ?_
                    refine lv_iload hx hb dL_law_228 (lv_at hl 1 rfl) ?_
                    refine lv_iload hx hb dL_law_230 (lv_at hl 3 rfl) ?_
                    refine lv_icmp_ne (tgt := 239) hx hb dL_law_232 (by decide) (fun c_232 => ?_) (fun c_232 => ?_)
                    · skip
                      have hq9 : qP Kq S9 k9 = false := by unfold qP; rw [c_216]; cases Kq.2.2.2 k9 <;> cases hol (Kq.2.1 k9) S9 <;> rfl
                      refine lv_iconst (v := 0) hx hb dL_law_239 (by decide) ?_
                      refine lv_icmp_ne (tgt := 245) hx hb dL_law_240 (by decide) (fun _ => ?_) (fun h => absurd h (by decide))
                      refine lv_iinc (v := nI (k9 + 1)) (lv' := [(14, .int (nI (k9 + 1))), (15, .int 1), (13, .int (nI z)), (12, .int (-1)), (11, .int (nI S9)), (10, .int mo), (9, .int fe), (8, .int su), (7, .int (nI al)), (6, .int (nI rq)), (5, .int (nI gq)), (4, .int xx), (3, .int (nI tt)), (0, .ref b), (1, .ref (aG 0)), (2, .ref sa)]) hx hb dL_law_245 hl (k := 1) rfl (nI_1 k9) (by decide) rfl (fun ls hl => ?_)
                      refine lv_goto (tgt := 160) hx hb dL_law_248 (by decide) ?_
                      exact ihk9 H _ ls (by omega) ⟨hP, hD, hS, lv_sub hl [0, 2, 3, 4, 5, 6, 7, 8, 9, 10, 11, 12, 13, 14, 15] rfl⟩
                    · skip
                      have hq9 : qP Kq S9 k9 = false := by unfold qP; rw [c_216]; cases Kq.2.2.2 k9 <;> cases hol (Kq.2.1 k9) S9 <;> rfl
                      exact absurd c_232 (nI_nm1 (by omega))
          · skip
            have hLy9 : y9 < gq := gc_lt c_136 (by omega) (by omega)
            refine lv_iload hx hb dL_law_139 (lv_at hl 1 rfl) ?_
            refine lv_iload hx hb dL_law_141 (lv_at hl 3 rfl) ?_
            refine lv_iload hx hb dL_law_143 (lv_at hl 0 rfl) ?_
            refine lv_ishr hx hb dL_law_145 ?_
            refine lv_iconst (v := 1) hx hb dL_law_146 (by decide) ?_
            refine lv_iand hx hb dL_law_147 ?_
            refine gc_topi (y := nI (if S9.testBit y9 = true then 1 else 0)) (bit_val (by omega) (by omega)) ?_
            refine lv_iadd hx hb dL_law_148 ?_
            refine gc_topi (y := nI (z + (if S9.testBit y9 = true then 1 else 0))) (nI_add _ _) ?_
            refine lv_istore (lv' := [(13, .int (nI (z + (if S9.testBit y9 = true then 1 else 0)))), (14, .int (nI y9)), (12, .int (-1)), (11, .int (nI S9)), (10, .int mo), (9, .int fe), (8, .int su), (7, .int (nI al)), (6, .int (nI rq)), (5, .int (nI gq)), (4, .int xx), (3, .int (nI tt)), (0, .ref b), (1, .ref (aG 0)), (2, .ref sa)]) hx hb dL_law_149 hl (by decide) rfl (fun ls hl => ?_)
            refine lv_iinc (v := nI (y9 + 1)) (lv' := [(14, .int (nI (y9 + 1))), (13, .int (nI (z + (if S9.testBit y9 = true then 1 else 0)))), (12, .int (-1)), (11, .int (nI S9)), (10, .int mo), (9, .int fe), (8, .int su), (7, .int (nI al)), (6, .int (nI rq)), (5, .int (nI gq)), (4, .int xx), (3, .int (nI tt)), (0, .ref b), (1, .ref (aG 0)), (2, .ref sa)]) hx hb dL_law_151 hl (k := 1) rfl (nI_1 y9) (by decide) rfl (fun ls hl => ?_)
            refine lv_goto (tgt := 132) hx hb dL_law_154 (by decide) ?_
            exact ihy9 H _ ls (by omega) ⟨(z + (if S9.testBit y9 = true then 1 else 0)), (by show _ = fb_ct _ y9 + (if S9.testBit y9 = true then 1 else 0); rw [← e_z]), hP, hD, hS, lv_sub hl [0, 1, 2, 3, 4, 5, 6, 7, 8, 9, 10, 11, 12, 13, 14] rfl⟩
        · skip
          refine gc_topi (y := nI jb) (by rw [brk_eq hOK (by omega) hr30 (by omega)]; exact hbk) ?_
          have hs9 : ¬ satp Kq S9 := qP_nosat (by omega) hjb2
          have hb9 : ¬ mBB Kq (-1) (-1) (nI S9) = -1 := fun q => hs9 ((mBB_sat (by omega) hKg hKr30 (by omega)).mp q)
          refine lv_istore (lv' := [(12, .int (nI jb)), (11, .int (nI S9)), (10, .int mo), (9, .int fe), (8, .int su), (7, .int (nI al)), (6, .int (nI rq)), (5, .int (nI gq)), (4, .int xx), (3, .int (nI tt)), (0, .ref b), (1, .ref (aG 0)), (2, .ref sa)]) hx hb dL_law_124 hl (by decide) rfl (fun ls hl => ?_)
          refine lv_iconst (v := 0) hx hb dL_law_126 (by decide) ?_
          refine lv_istore (lv' := [(13, .int 0), (12, .int (nI jb)), (11, .int (nI S9)), (10, .int mo), (9, .int fe), (8, .int su), (7, .int (nI al)), (6, .int (nI rq)), (5, .int (nI gq)), (4, .int xx), (3, .int (nI tt)), (0, .ref b), (1, .ref (aG 0)), (2, .ref sa)]) hx hb dL_law_127 hl (by decide) rfl (fun ls hl => ?_)
          refine lv_iconst (v := 0) hx hb dL_law_129 (by decide) ?_
          refine lv_istore (lv' := [(14, .int 0), (13, .int 0), (12, .int (nI jb)), (11, .int (nI S9)), (10, .int mo), (9, .int fe), (8, .int su), (7, .int (nI al)), (6, .int (nI rq)), (5, .int (nI gq)), (4, .int xx), (3, .int (nI tt)), (0, .ref b), (1, .ref (aG 0)), (2, .ref sa)]) hx hb dL_law_130 hl (by decide) rfl (fun ls hl => ?_)
          refine gc_loop (gq) (fun (y9 : Nat) (H : Heap) (locs : List Loc) (ls : Array Slot) => ∃ (z : Nat), z = fb_ct (fun x => S9.testBit x) y9 ∧ va_P (dC, dI) vwCl ((gcW aG kG f1q f2q drq clq trq seq (nI gq) (nI rq) infq (nI ctq) ++ ([(sa, .inr (1, [.int (nI gq), .ref ruq, .null, .null, .int 0]))] ++ ([(ruq, qa_R kA rq (qa_up rq rrq))]))) ++ (qT rq rrq (qE kI 3 (qF Kq)) ++ [])) H ∧ va_D A ((gcW aG kG f1q f2q drq clq trq seq (nI gq) (nI rq) infq (nI ctq) ++ ([(sa, .inr (1, [.int (nI gq), .ref ruq, .null, .null, .int 0]))] ++ ([(ruq, qa_R kA rq (qa_up rq rrq))]))) ++ (qT rq rrq (qE kI 3 (qF Kq)) ++ [])) ∧ va_S A s.heap H locs ∧ lv_has ls 17 [(14, .int (nI y9)), (13, .int (nI z)), (12, .int (nI jb)), (11, .int (nI S9)), (10, .int mo), (9, .int fe), (8, .int su), (7, .int (nI al)), (6, .int (nI rq)), (5, .int (nI gq)), (4, .int xx), (3, .int (nI tt)), (0, .ref b), (1, .ref (aG 0)), (2, .ref sa)]) 0 (Nat.zero_le _) ⟨0, (by first | rfl | assumption | omega), hP, hD, hS, lv_sub hl [0, 1, 2, 3, 4, 5, 6, 7, 8, 9, 10, 11, 12, 13, 14] rfl⟩ ?_
          intro y9 H locs ls hy9 hI ihy9
          obtain ⟨z, e_z, hP, hD, hS, hl⟩ := hI
          refine lv_iload hx hb dL_law_132 (lv_at hl 0 rfl) ?_
          refine lv_iload hx hb dL_law_134 (lv_at hl 9 rfl) ?_
          refine lv_icmp_ge (tgt := 157) hx hb dL_law_136 (by decide) (fun c_136 => ?_) (fun c_136 => ?_)
          · skip
            have hEy9 : y9 = gq := gc_ge c_136 (by omega) (by omega)
            have hz9 : nI z = mSz (nI S9) 10 := by rw [mSz_pc (by omega), e_z, hEy9, pc_g (by omega) hLS9]
            refine lv_iconst (v := 0) hx hb dL_law_157 (by decide) ?_
            refine lv_istore (lv' := [(14, .int 0), (13, .int (nI z)), (12, .int (nI jb)), (11, .int (nI S9)), (10, .int mo), (9, .int fe), (8, .int su), (7, .int (nI al)), (6, .int (nI rq)), (5, .int (nI gq)), (4, .int xx), (3, .int (nI tt)), (0, .ref b), (1, .ref (aG 0)), (2, .ref sa)]) hx hb dL_law_158 hl (by decide) rfl (fun ls hl => ?_)
            refine gc_loop (rq) (fun (k9 : Nat) (H : Heap) (locs : List Loc) (ls : Array Slot) => va_P (dC, dI) vwCl ((gcW aG kG f1q f2q drq clq trq seq (nI gq) (nI rq) infq (nI ctq) ++ ([(sa, .inr (1, [.int (nI gq), .ref ruq, .null, .null, .int 0]))] ++ ([(ruq, qa_R kA rq (qa_up rq rrq))]))) ++ (qT rq rrq (qE kI 3 (qF Kq)) ++ [])) H ∧ va_D A ((gcW aG kG f1q f2q drq clq trq seq (nI gq) (nI rq) infq (nI ctq) ++ ([(sa, .inr (1, [.int (nI gq), .ref ruq, .null, .null, .int 0]))] ++ ([(ruq, qa_R kA rq (qa_up rq rrq))]))) ++ (qT rq rrq (qE kI 3 (qF Kq)) ++ [])) ∧ va_S A s.heap H locs ∧ lv_has ls 17 [(14, .int (nI k9)), (13, .int (nI z)), (12, .int (nI jb)), (11, .int (nI S9)), (10, .int mo), (9, .int fe), (8, .int su), (7, .int (nI al)), (6, .int (nI rq)), (5, .int (nI gq)), (4, .int xx), (3, .int (nI tt)), (0, .ref b), (1, .ref (aG 0)), (2, .ref sa)]) 0 (Nat.zero_le _) ⟨hP, hD, hS, lv_sub hl [0, 1, 2, 3, 4, 5, 6, 7, 8, 9, 10, 11, 12, 13, 14] rfl⟩ ?_
            intro k9 H locs ls hk9 hI ihk9
            obtain ⟨hP, hD, hS, hl⟩ := hI
            refine lv_iload hx hb dL_law_160 (lv_at hl 0 rfl) ?_
            refine lv_iload hx hb dL_law_162 (lv_at hl 8 rfl) ?_
            refine lv_icmp_ge (tgt := 251) hx hb dL_law_164 (by decide) (fun c_164 => ?_) (fun c_164 => ?_)
            · skip
              have hEk9 : k9 = rq := gc_ge c_164 (by omega) (by omega)
              refine lv_iload hx hb dL_law_251 (lv_at hl 2 rfl) ?_
              refine lv_if_lt (tgt := 259) hx hb dL_law_253 (by decide) (fun c_253 => ?_) (fun c_253 => ?_)
              · skip
                exact absurd ((nI_ltI (a := jb) (b := 0) (by omega) (by decide)).mp c_253) (by omega)
              · skip
                refine lv_goto (tgt := 297) hx hb dL_law_256 (by decide) ?_
                refine lv_iinc (v := nI (S9 + 1)) (lv' := [(11, .int (nI (S9 + 1))), (14, .int (nI k9)), (13, .int (nI z)), (12, .int (nI jb)), (10, .int mo), (9, .int fe), (8, .int su), (7, .int (nI al)), (6, .int (nI rq)), (5, .int (nI gq)), (4, .int xx), (3, .int (nI tt)), (0, .ref b), (1, .ref (aG 0)), (2, .ref sa)]) hx hb dL_law_297 hl (k := 3) rfl (nI_1 S9) (by decide) rfl (fun ls hl => ?_)
                refine lv_goto (tgt := 109) hx hb dL_law_300 (by decide) ?_
                exact ihS9 H _ ls (by omega) ⟨al, su, fe, mo, (by rw [ct_n (q := sb Kq) (u := S9) (sb_f hs9), ← e_al]), (by rw [mSu, if_neg hb9, ← e_su]; exact (Int32.add_zero _).symm), (by rw [mFe, if_neg (fun q => hb9 q.1), ← e_fe]), (by rw [mMo, if_neg hb9, ← e_mo]), hP, hD, hS, lv_sub hl [0, 4, 5, 6, 7, 8, 9, 10, 11, 12, 13, 14] rfl⟩
            · skip
              have hLk9 : k9 < rq := gc_lt c_164 (by omega) (by omega)
              obtain ⟨hk1, hk2⟩ := hKg k9 (by omega)
              refine lv_iload hx hb dL_law_167 (lv_at hl 2 rfl) ?_
              refine lv_if_lt (tgt := 179) hx hb dL_law_169 (by decide) (fun c_169 => ?_) (fun c_169 => ?_)
              · skip
                exact absurd ((nI_ltI (a := jb) (b := 0) (by omega) (by decide)).mp c_169) (by omega)
              · skip
                refine lv_iload hx hb dL_law_172 (lv_at hl 0 rfl) ?_
                refine lv_iload hx hb dL_law_174 (lv_at hl 2 rfl) ?_
                refine lv_icmp_gt (tgt := 251) hx hb dL_law_176 (by decide) (fun c_176 => ?_) (fun c_176 => ?_)
                · skip
                  refine lv_iload hx hb dL_law_251 (lv_at hl 2 rfl) ?_
                  refine lv_if_lt (tgt := 259) hx hb dL_law_253 (by decide) (fun c_253 => ?_) (fun c_253 => ?_)
                  · skip
                    exact absurd ((nI_ltI (a := jb) (b := 0) (by omega) (by decide)).mp c_253) (by omega)
                  · skip
                    refine lv_goto (tgt := 297) hx hb dL_law_256 (by decide) ?_
                    refine lv_iinc (v := nI (S9 + 1)) (lv' := [(11, .int (nI (S9 + 1))), (14, .int (nI k9)), (13, .int (nI z)), (12, .int (nI jb)), (10, .int mo), (9, .int fe), (8, .int su), (7, .int (nI al)), (6, .int (nI rq)), (5, .int (nI gq)), (4, .int xx), (3, .int (nI tt)), (0, .ref b), (1, .ref (aG 0)), (2, .ref sa)]) hx hb dL_law_297 hl (k := 3) rfl (nI_1 S9) (by decide) rfl (fun ls hl => ?_)
                    refine lv_goto (tgt := 109) hx hb dL_law_300 (by decide) ?_
                    exact ihS9 H _ ls (by omega) ⟨al, su, fe, mo, (by rw [ct_n (q := sb Kq) (u := S9) (sb_f hs9), ← e_al]), (by rw [mSu, if_neg hb9, ← e_su]; exact (Int32.add_zero _).symm), (by rw [mFe, if_neg (fun q => hb9 q.1), ← e_fe]), (by rw [mMo, if_neg hb9, ← e_mo]), hP, hD, hS, lv_sub hl [0, 4, 5, 6, 7, 8, 9, 10, 11, 12, 13, 14] rfl⟩
                · skip
                  refine lv_aload_n hx hb dL_law_179 rfl (lv_at hl 13 rfl) ?_
                  refine lv_iload hx hb dL_law_180 (lv_at hl 0 rfl) ?_
                  refine lv_iconst (v := 2) hx hb dL_law_182 (by decide) ?_
                  have hPc : va_P (dC, dI) vwCl (gcW aG kG f1q f2q drq clq trq seq (nI gq) (nI rq) infq (nI ctq)) _ := hP.sub [0, 1, 2, 3, 4, 5, 6] rfl
                  have hKc : va_K (dC, dI) vwCl (gcT kG) s := hK.sub [0, 1, 2, 3, 4, 5] rfl
                  refine va_calli (va_runV (As := [.int (nI k9), .int 2]) (rest := []) ⟨hx, hb, hml, hown, hts⟩ (c_X0_told l dC dI aG kG f1q f2q drq clq trq seq gq rq infq ctq k9 2 (by first | assumption | omega) (by first | assumption | omega) (by first | assumption | omega)) (cwV 2 hts gL_law_X0_told rfl rfl rfl (by decide +kernel) ⟨Nat.le_of_ble_eq_true rfl, Nat.le_of_ble_eq_true rfl⟩) ⟨gcPR_blind, va_recv hK hP (ci := 0) (q0 := 0) rfl rfl, fun U hU hW => ⟨rfl, by rw [hU]; exact hPc, va_K.moved hW.alike hKc⟩⟩ rfl rfl hl.1 rfl (lv_room (Nat.le_of_ble_eq_true rfl)) dL_law_183 ⟨by show _ ≤ (600172 : Nat); omega, by show _ ≤ (7300668 : Nat); omega⟩) hS (fun q _ h => h.elim) (fun q h => h.elim) (fun r43 u t H locs ht hvm hw hB hz1 hk1 hS => ?_)
                  have hP := gc_keep hP hk1
                  have hw : r43 = gTo f1q f2q infq k9 2 := hw
                  subst hw
                  clear hw
                  clear hB hz1 hk1 ht hvm
                  clear hPc hKc
                  refine gc_topi (y := gB (Kq.2.2.2 k9)) (by rw [told_eq hOK hr30 hLk9 (by decide)]; rfl) ?_
                  refine lv_if_eq (tgt := 219) hx hb dL_law_186 (by decide) (fun c_186 => ?_) (fun c_186 => ?_)
                  · skip
                    have c_186 := gB_f c_186
                    refine lv_iconst (v := 1) hx hb dL_law_219 (by decide) ?_
                    refine lv_goto (tgt := 224) hx hb dL_law_220 (by decide) ?_
                    refine lv_istore (lv' := [(15, .int 1), (14, .int (nI k9)), (13, .int (nI z)), (12, .int (nI jb)), (11, .int (nI S9)), (10, .int mo), (9, .int fe), (8, .int su), (7, .int (nI al)), (6, .int (nI rq)), (5, .int (nI gq)), (4, .int xx), (3, .int (nI tt)), (0, .ref b), (1, .ref (aG 0)), (2, .ref sa)]) hx hb dL_law_224 hl (by decide) rfl (fun ls hl => ?_)
                    refine lv_iload hx hb dL_law_226 (lv_at hl 0 rfl) ?_
                    refine lv_iload hx hb dL_law_228 (lv_at hl 1 rfl) ?_
                    refine lv_iload hx hb dL_law_230 (lv_at hl 3 rfl) ?_
                    refine lv_icmp_ne (tgt := 239) hx hb dL_law_232 (by decide) (fun c_232 => ?_) (fun c_232 => ?_)
                    · skip
                      have hq9 : qP Kq S9 k9 = false := by unfold qP; rw [c_186]; rfl
                      refine lv_iconst (v := 0) hx hb dL_law_239 (by decide) ?_
                      refine lv_icmp_ne (tgt := 245) hx hb dL_law_240 (by decide) (fun _ => ?_) (fun h => absurd h (by decide))
                      refine lv_iinc (v := nI (k9 + 1)) (lv' := [(14, .int (nI (k9 + 1))), (15, .int 1), (13, .int (nI z)), (12, .int (nI jb)), (11, .int (nI S9)), (10, .int mo), (9, .int fe), (8, .int su), (7, .int (nI al)), (6, .int (nI rq)), (5, .int (nI gq)), (4, .int xx), (3, .int (nI tt)), (0, .ref b), (1, .ref (aG 0)), (2, .ref sa)]) hx hb dL_law_245 hl (k := 1) rfl (nI_1 k9) (by decide) rfl (fun ls hl => ?_)
                      refine lv_goto (tgt := 160) hx hb dL_law_248 (by decide) ?_
                      exact ihk9 H _ ls (by omega) ⟨hP, hD, hS, lv_sub hl [0, 2, 3, 4, 5, 6, 7, 8, 9, 10, 11, 12, 13, 14, 15] rfl⟩
                    · skip
                      have hq9 : qP Kq S9 k9 = false := by unfold qP; rw [c_186]; rfl
                      have hkj : k9 = jb := (nI_eq (by omega) (by omega)).mp c_232
                      exact absurd hjb2 (by rw [← hkj, hq9]; decide)
                  · skip
                    have c_186 := gB_t c_186
                    refine lv_iload hx hb dL_law_189 (lv_at hl 3 rfl) ?_
                    refine lv_aload_n hx hb dL_law_191 rfl (lv_at hl 13 rfl) ?_
                    refine lv_iload hx hb dL_law_192 (lv_at hl 0 rfl) ?_
                    refine lv_iconst (v := 0) hx hb dL_law_194 (by decide) ?_
                    have hPc : va_P (dC, dI) vwCl (gcW aG kG f1q f2q drq clq trq seq (nI gq) (nI rq) infq (nI ctq)) _ := hP.sub [0, 1, 2, 3, 4, 5, 6] rfl
                    have hKc : va_K (dC, dI) vwCl (gcT kG) s := hK.sub [0, 1, 2, 3, 4, 5] rfl
                    refine va_calli (va_runV (As := [.int (nI k9), .int 0]) (rest := [.int (nI S9)]) ⟨hx, hb, hml, hown, hts⟩ (c_X0_told l dC dI aG kG f1q f2q drq clq trq seq gq rq infq ctq k9 0 (by first | assumption | omega) (by first | assumption | omega) (by first | assumption | omega)) (cwV 2 hts gL_law_X0_told rfl rfl rfl (by decide +kernel) ⟨Nat.le_of_ble_eq_true rfl, Nat.le_of_ble_eq_true rfl⟩) ⟨gcPR_blind, va_recv hK hP (ci := 0) (q0 := 0) rfl rfl, fun U hU hW => ⟨rfl, by rw [hU]; exact hPc, va_K.moved hW.alike hKc⟩⟩ rfl rfl hl.1 rfl (lv_room (Nat.le_of_ble_eq_true rfl)) dL_law_195 ⟨by show _ ≤ (600172 : Nat); omega, by show _ ≤ (7300668 : Nat); omega⟩) hS (fun q _ h => h.elim) (fun q h => h.elim) (fun r44 u t H locs ht hvm hw hB hz1 hk1 hS => ?_)
                    have hP := gc_keep hP hk1
                    have hw : r44 = gTo f1q f2q infq k9 0 := hw
                    subst hw
                    clear hw
                    clear hB hz1 hk1 ht hvm
                    clear hPc hKc
                    refine gc_topi (y := nI (Kq.2.1 k9)) (by rw [told_eq hOK hr30 hLk9 (by decide)]; rfl) ?_
                    refine va_calli (va_runS (As := [.int (nI S9), .int (nI (Kq.2.1 k9))]) (rest := []) ⟨hx, hb, hml, hown, hts⟩ (c_X1_holds l S9 (Kq.2.1 k9) (by first | assumption | omega) (by first | assumption | omega)) (va_cwS 2 hts gL_law_X1_holds rfl rfl rfl (by decide +kernel) ⟨Nat.le_of_ble_eq_true rfl, Nat.le_of_ble_eq_true rfl⟩) ⟨fun a U g mk q => q, fun U hU hW => ⟨rfl, trivial⟩⟩ rfl rfl hl.1 rfl (lv_room (Nat.le_of_ble_eq_true rfl)) dL_law_198 ⟨by show _ ≤ (600172 : Nat); omega, by show _ ≤ (7300668 : Nat); omega⟩) hS (fun q _ h => h.elim) (fun q h => h.elim) (fun r45 u t H locs ht hvm hw hB hz1 hk1 hS => ?_)
                    have hP := gc_keep hP hk1
                    have hw : r45 = gB (hol (Kq.2.1 k9) S9) := hw
                    subst hw
                    clear hw
                    clear hB hz1 hk1 ht hvm
                    refine lv_if_eq (tgt := 219) hx hb dL_law_201 (by decide) (fun c_201 => ?_) (fun c_201 => ?_)
                    · skip
                      have c_201 := gB_f c_201
                      refine lv_iconst (v := 1) hx hb dL_law_219 (by decide) ?_
                      refine lv_goto (tgt := 224) hx hb dL_law_220 (by decide) ?_
                      refine lv_istore (lv' := [(15, .int 1), (14, .int (nI k9)), (13, .int (nI z)), (12, .int (nI jb)), (11, .int (nI S9)), (10, .int mo), (9, .int fe), (8, .int su), (7, .int (nI al)), (6, .int (nI rq)), (5, .int (nI gq)), (4, .int xx), (3, .int (nI tt)), (0, .ref b), (1, .ref (aG 0)), (2, .ref sa)]) hx hb dL_law_224 hl (by decide) rfl (fun ls hl => ?_)
                      refine lv_iload hx hb dL_law_226 (lv_at hl 0 rfl) ?_
                      refine lv_iload hx hb dL_law_228 (lv_at hl 1 rfl) ?_
                      refine lv_iload hx hb dL_law_230 (lv_at hl 3 rfl) ?_
                      refine lv_icmp_ne (tgt := 239) hx hb dL_law_232 (by decide) (fun c_232 => ?_) (fun c_232 => ?_)
                      · skip
                        have hq9 : qP Kq S9 k9 = false := by unfold qP; rw [c_201]; cases Kq.2.2.2 k9 <;> rfl
                        refine lv_iconst (v := 0) hx hb dL_law_239 (by decide) ?_
                        refine lv_icmp_ne (tgt := 245) hx hb dL_law_240 (by decide) (fun _ => ?_) (fun h => absurd h (by decide))
                        refine lv_iinc (v := nI (k9 + 1)) (lv' := [(14, .int (nI (k9 + 1))), (15, .int 1), (13, .int (nI z)), (12, .int (nI jb)), (11, .int (nI S9)), (10, .int mo), (9, .int fe), (8, .int su), (7, .int (nI al)), (6, .int (nI rq)), (5, .int (nI gq)), (4, .int xx), (3, .int (nI tt)), (0, .ref b), (1, .ref (aG 0)), (2, .ref sa)]) hx hb dL_law_245 hl (k := 1) rfl (nI_1 k9) (by decide) rfl (fun ls hl => ?_)
                        refine lv_goto (tgt := 160) hx hb dL_law_248 (by decide) ?_
                        exact ihk9 H _ ls (by omega) ⟨hP, hD, hS, lv_sub hl [0, 2, 3, 4, 5, 6, 7, 8, 9, 10, 11, 12, 13, 14, 15] rfl⟩
                      · skip
                        have hq9 : qP Kq S9 k9 = false := by unfold qP; rw [c_201]; cases Kq.2.2.2 k9 <;> rfl
                        have hkj : k9 = jb := (nI_eq (by omega) (by omega)).mp c_232
                        exact absurd hjb2 (by rw [← hkj, hq9]; decide)
                    · skip
                      have c_201 := gB_t c_201
                      refine lv_iload hx hb dL_law_204 (lv_at hl 3 rfl) ?_
                      refine lv_aload_n hx hb dL_law_206 rfl (lv_at hl 13 rfl) ?_
                      refine lv_iload hx hb dL_law_207 (lv_at hl 0 rfl) ?_
                      refine lv_iconst (v := 1) hx hb dL_law_209 (by decide) ?_
                      have hPc : va_P (dC, dI) vwCl (gcW aG kG f1q f2q drq clq trq seq (nI gq) (nI rq) infq (nI ctq)) _ := hP.sub [0, 1, 2, 3, 4, 5, 6] rfl
                      have hKc : va_K (dC, dI) vwCl (gcT kG) s := hK.sub [0, 1, 2, 3, 4, 5] rfl
                      refine va_calli (va_runV (As := [.int (nI k9), .int 1]) (rest := [.int (nI S9)]) ⟨hx, hb, hml, hown, hts⟩ (c_X0_told l dC dI aG kG f1q f2q drq clq trq seq gq rq infq ctq k9 1 (by first | assumption | omega) (by first | assumption | omega) (by first | assumption | omega)) (cwV 2 hts gL_law_X0_told rfl rfl rfl (by decide +kernel) ⟨Nat.le_of_ble_eq_true rfl, Nat.le_of_ble_eq_true rfl⟩) ⟨gcPR_blind, va_recv hK hP (ci := 0) (q0 := 0) rfl rfl, fun U hU hW => ⟨rfl, by rw [hU]; exact hPc, va_K.moved hW.alike hKc⟩⟩ rfl rfl hl.1 rfl (lv_room (Nat.le_of_ble_eq_true rfl)) dL_law_210 ⟨by show _ ≤ (600172 : Nat); omega, by show _ ≤ (7300668 : Nat); omega⟩) hS (fun q _ h => h.elim) (fun q h => h.elim) (fun r46 u t H locs ht hvm hw hB hz1 hk1 hS => ?_)
                      have hP := gc_keep hP hk1
                      have hw : r46 = gTo f1q f2q infq k9 1 := hw
                      subst hw
                      clear hw
                      clear hB hz1 hk1 ht hvm
                      clear hPc hKc
                      refine gc_topi (y := nI (Kq.2.2.1 k9)) (by rw [told_eq hOK hr30 hLk9 (by decide)]; rfl) ?_
                      refine va_calli (va_runS (As := [.int (nI S9), .int (nI (Kq.2.2.1 k9))]) (rest := []) ⟨hx, hb, hml, hown, hts⟩ (c_X1_holds l S9 (Kq.2.2.1 k9) (by first | assumption | omega) (by first | assumption | omega)) (va_cwS 2 hts gL_law_X1_holds rfl rfl rfl (by decide +kernel) ⟨Nat.le_of_ble_eq_true rfl, Nat.le_of_ble_eq_true rfl⟩) ⟨fun a U g mk q => q, fun U hU hW => ⟨rfl, trivial⟩⟩ rfl rfl hl.1 rfl (lv_room (Nat.le_of_ble_eq_true rfl)) dL_law_213 ⟨by show _ ≤ (600172 : Nat); omega, by show _ ≤ (7300668 : Nat); omega⟩) hS (fun q _ h => h.elim) (fun q h => h.elim) (fun r47 u t H locs ht hvm hw hB hz1 hk1 hS => ?_)
                      have hP := gc_keep hP hk1
                      have hw : r47 = gB (hol (Kq.2.2.1 k9) S9) := hw
                      subst hw
                      clear hw
                      clear hB hz1 hk1 ht hvm
                      refine lv_if_eq (tgt := 223) hx hb dL_law_216 (by decide) (fun c_216 => ?_) (fun c_216 => ?_)
                      · skip
                        have c_216 := gB_f c_216
                        refine lv_iconst (v := 0) hx hb dL_law_223 (by decide) ?_
                        refine lv_istore (lv' := [(15, .int 0), (14, .int (nI k9)), (13, .int (nI z)), (12, .int (nI jb)), (11, .int (nI S9)), (10, .int mo), (9, .int fe), (8, .int su), (7, .int (nI al)), (6, .int (nI rq)), (5, .int (nI gq)), (4, .int xx), (3, .int (nI tt)), (0, .ref b), (1, .ref (aG 0)), (2, .ref sa)]) hx hb dL_law_224 hl (by decide) rfl (fun ls hl => ?_)
                        refine lv_iload hx hb dL_law_226 (lv_at hl 0 rfl) ?_
                        refine lv_iload hx hb dL_law_228 (lv_at hl 1 rfl) ?_
                        refine lv_iload hx hb dL_law_230 (lv_at hl 3 rfl) ?_
                        refine lv_icmp_ne (tgt := 239) hx hb dL_law_232 (by decide) (fun c_232 => ?_) (fun c_232 => ?_)
                        · skip
                          have hq9 : qP Kq S9 k9 = true := by unfold qP; rw [c_186, c_201, c_216]; rfl
                          exact absurd hq9 (by rw [hjb3 k9 (by (have q1 : ¬ k9 = jb := fun q => c_232 (by rw [q])); (have q2 : ¬ jb < k9 := fun q => c_176 ((nI_ltI (by omega) (by omega)).mpr q)); omega)]; decide)
                        · skip
                          have hq9 : qP Kq S9 k9 = true := by unfold qP; rw [c_186, c_201, c_216]; rfl
                          have hkj : k9 = jb := (nI_eq (by omega) (by omega)).mp c_232
                          refine lv_iconst (v := 1) hx hb dL_law_235 (by decide) ?_
                          refine lv_goto (tgt := 240) hx hb dL_law_236 (by decide) ?_
                          refine lv_icmp_ne (tgt := 245) hx hb dL_law_240 (by decide) (fun _ => ?_) (fun h => absurd h (by decide))
                          refine lv_iinc (v := nI (k9 + 1)) (lv' := [(14, .int (nI (k9 + 1))), (15, .int 0), (13, .int (nI z)), (12, .int (nI jb)), (11, .int (nI S9)), (10, .int mo), (9, .int fe), (8, .int su), (7, .int (nI al)), (6, .int (nI rq)), (5, .int (nI gq)), (4, .int xx), (3, .int (nI tt)), (0, .ref b), (1, .ref (aG 0)), (2, .ref sa)]) hx hb dL_law_245 hl (k := 1) rfl (nI_1 k9) (by decide) rfl (fun ls hl => ?_)
                          refine lv_goto (tgt := 160) hx hb dL_law_248 (by decide) ?_
                          exact ihk9 H _ ls (by omega) ⟨hP, hD, hS, lv_sub hl [0, 2, 3, 4, 5, 6, 7, 8, 9, 10, 11, 12, 13, 14, 15] rfl⟩
                      · skip
                        have c_216 := gB_t c_216
                        refine lv_iconst (v := 1) hx hb dL_law_219 (by decide) ?_
                        refine lv_goto (tgt := 224) hx hb dL_law_220 (by decide) ?_
                        refine lv_istore (lv' := [(15, .int 1), (14, .int (nI k9)), (13, .int (nI z)), (12, .int (nI jb)), (11, .int (nI S9)), (10, .int mo), (9, .int fe), (8, .int su), (7, .int (nI al)), (6, .int (nI rq)), (5, .int (nI gq)), (4, .int xx), (3, .int (nI tt)), (0, .ref b), (1, .ref (aG 0)), (2, .ref sa)]) hx hb dL_law_224 hl (by decide) rfl (fun ls hl => ?_)
                        refine lv_iload hx hb dL_law_226 (lv_at hl 0 rfl) ?_
                        refine lv_iload hx hb dL_law_228 (lv_at hl 1 rfl) ?_
                        refine lv_iload hx hb dL_law_230 (lv_at hl 3 rfl) ?_
                        refine lv_icmp_ne (tgt := 239) hx hb dL_law_232 (by decide) (fun c_232 => ?_) (fun c_232 => ?_)
                        · skip
                          have hq9 : qP Kq S9 k9 = false := by unfold qP; rw [c_216]; cases Kq.2.2.2 k9 <;> cases hol (Kq.2.1 k9) S9 <;> rfl
                          refine lv_iconst (v := 0) hx hb dL_law_239 (by decide) ?_
                          refine lv_icmp_ne (tgt := 245) hx hb dL_law_240 (by decide) (fun _ => ?_) (fun h => absurd h (by decide))
                          refine lv_iinc (v := nI (k9 + 1)) (lv' := [(14, .int (nI (k9 + 1))), (15, .int 1), (13, .int (nI z)), (12, .int (nI jb)), (11, .int (nI S9)), (10, .int mo), (9, .int fe), (8, .int su), (7, .int (nI al)), (6, .int (nI rq)), (5, .int (nI gq)), (4, .int xx), (3, .int (nI tt)), (0, .ref b), (1, .ref (aG 0)), (2, .ref sa)]) hx hb dL_law_245 hl (k := 1) rfl (nI_1 k9) (by decide) rfl (fun ls hl => ?_)
                          refine lv_goto (tgt := 160) hx hb dL_law_248 (by decide) ?_
                          exact ihk9 H _ ls (by omega) ⟨hP, hD, hS, lv_sub hl [0, 2, 3, 4, 5, 6, 7, 8, 9, 10, 11, 12, 13, 14, 15] rfl⟩
                        · skip
                          have hq9 : qP Kq S9 k9 = false := by unfold qP; rw [c_216]; cases Kq.2.2.2 k9 <;> cases hol (Kq.2.1 k9) S9 <;> rfl
                          have hkj : k9 = jb := (nI_eq (by omega) (by omega)).mp c_232
                          exact absurd hjb2 (by rw [← hkj, hq9]; decide)
          · skip
            have hLy9 : y9 < gq := gc_lt c_136 (by omega) (by omega)
            refine lv_iload hx hb dL_law_139 (lv_at hl 1 rfl) ?_
            refine lv_iload hx hb dL_law_141 (lv_at hl 3 rfl) ?_
            refine lv_iload hx hb dL_law_143 (lv_at hl 0 rfl) ?_
            refine lv_ishr hx hb dL_law_145 ?_
            refine lv_iconst (v := 1) hx hb dL_law_146 (by decide) ?_
            refine lv_iand hx hb dL_law_147 ?_
            refine gc_topi (y := nI (if S9.testBit y9 = true then 1 else 0)) (bit_val (by omega) (by omega)) ?_
            refine lv_iadd hx hb dL_law_148 ?_
            refine gc_topi (y := nI (z + (if S9.testBit y9 = true then 1 else 0))) (nI_add _ _) ?_
            refine lv_istore (lv' := [(13, .int (nI (z + (if S9.testBit y9 = true then 1 else 0)))), (14, .int (nI y9)), (12, .int (nI jb)), (11, .int (nI S9)), (10, .int mo), (9, .int fe), (8, .int su), (7, .int (nI al)), (6, .int (nI rq)), (5, .int (nI gq)), (4, .int xx), (3, .int (nI tt)), (0, .ref b), (1, .ref (aG 0)), (2, .ref sa)]) hx hb dL_law_149 hl (by decide) rfl (fun ls hl => ?_)
            refine lv_iinc (v := nI (y9 + 1)) (lv' := [(14, .int (nI (y9 + 1))), (13, .int (nI (z + (if S9.testBit y9 = true then 1 else 0)))), (12, .int (nI jb)), (11, .int (nI S9)), (10, .int mo), (9, .int fe), (8, .int su), (7, .int (nI al)), (6, .int (nI rq)), (5, .int (nI gq)), (4, .int xx), (3, .int (nI tt)), (0, .ref b), (1, .ref (aG 0)), (2, .ref sa)]) hx hb dL_law_151 hl (k := 1) rfl (nI_1 y9) (by decide) rfl (fun ls hl => ?_)
            refine lv_goto (tgt := 132) hx hb dL_law_154 (by decide) ?_
            exact ihy9 H _ ls (by omega) ⟨(z + (if S9.testBit y9 = true then 1 else 0)), (by show _ = fb_ct _ y9 + (if S9.testBit y9 = true then 1 else 0); rw [← e_z]), hP, hD, hS, lv_sub hl [0, 1, 2, 3, 4, 5, 6, 7, 8, 9, 10, 11, 12, 13, 14] rfl⟩
    · skip
      have hLj : j < 2 := gc_lt c_47 (by omega) (by omega)
      refine lv_aload_n hx hb dL_law_50 rfl (lv_at hl 4 rfl) ?_
      refine lv_aload_n hx hb dL_law_51 rfl (lv_at hl 5 rfl) ?_
      refine lv_iload hx hb dL_law_52 (lv_at hl 1 rfl) ?_
      refine lv_iconst (v := 2) hx hb dL_law_54 (by decide) ?_
      refine lv_iload hx hb dL_law_55 (lv_at hl 0 rfl) ?_
      refine lv_imul hx hb dL_law_57 ?_
      refine lv_ishr hx hb dL_law_58 ?_
      refine lv_sipush (v := 157) hx hb dL_law_59 (by decide) ?_
      refine lv_iload hx hb dL_law_62 (lv_at hl 0 rfl) ?_
      refine lv_imul hx hb dL_law_64 ?_
      refine lv_iadd hx hb dL_law_65 ?_
      have hPc : va_P (dC, dI) vwCl ((gcW aG kG f1q f2q drq clq trq seq (nI gq) (nI rq) infq (nI ctq) ++ ([(sa, .inr (1, [.int (nI gq), .ref ruq, .null, .null, .int 0]))] ++ ([(ruq, qa_R kA rq (qa_up rq rrq))]))) ++ (qT rq rrq (qE kI 3 (qF Kq)) ++ [])) _ := hP.part [0, 1, 2, 3, 4, 5, 6, 7, 8] rfl
      have hKc : va_K (dC, dI) vwCl (gcT kG ++ [(kA, .array .int), (kI, .int)]) s := hK.sub [0, 1, 2, 3, 4, 5, 6, 7] rfl
      have hDc : va_D A ((gcW aG kG f1q f2q drq clq trq seq (nI gq) (nI rq) infq (nI ctq) ++ ([(sa, .inr (1, [.int (nI gq), .ref ruq, .null, .null, .int 0]))] ++ ([(ruq, qa_R kA rq (qa_up rq rrq))]))) ++ (qT rq rrq (qE kI 3 (qF Kq)) ++ [])) := hD.part [0, 1, 2, 3, 4, 5, 6, 7, 8] (by decide) rfl
      have hFc := va_freeP (cx := (gcW aG kG f1q f2q drq clq trq seq (nI gq) (nI rq) infq (nI ctq) ++ ([(sa, .inr (1, [.int (nI gq), .ref ruq, .null, .null, .int 0]))] ++ ([(ruq, qa_R kA rq (qa_up rq rrq))])))) hD hS hA [0, 1, 2, 3, 4, 5, 6, 7, 8] rfl
      refine va_calli (va_runS (As := [.ref (aG 0), .ref sa, .int ((xx >>> ((2 * nI j) &&& 31)) + (157 * nI j))]) (rest := []) ⟨hx, hb, hml, hown, hts⟩ (c_L_act l dC dI aG kG f1q f2q drq clq trq seq gq rq infq ctq sa ruq kA kI rrq Kq ((xx >>> ((2 * nI j) &&& 31)) + (157 * nI j)) H.size (by first | assumption | omega) (by first | assumption | omega)) (va_cwS 3 hts gL_law_L_act rfl rfl rfl (by decide +kernel) ⟨Nat.le_of_ble_eq_true rfl, Nat.le_of_ble_eq_true rfl⟩) ⟨qaPM_blind, fun U hU hW => ⟨rfl, by rw [hU], by rw [hU]; exact hPc, va_K.moved hW.alike hKc, hDc.weaken (fun _ _ _ _ => trivial), va_AOA.moved hW.alike hO⟩⟩ rfl rfl hl.1 rfl (lv_room (Nat.le_of_ble_eq_true rfl)) dL_law_66 ⟨by show _ ≤ (600172 : Nat); omega, by show _ ≤ (7300668 : Nat); omega⟩) hS (fun q _ h => hFc q h) hFc (fun r48 u t H locs ht hvm hw hB hz1 hk1 hS => ?_)
      obtain ⟨K2, g2, r2, f1z, f2z, drz, clz, trz, sez, infz, ctz, ruz, rrz⟩ := u
      obtain ⟨hP1, hD1⟩ := hB
      rw [ht] at hP1
      obtain ⟨hP, hD⟩ := va_joinP (wr := []) (rx := (gcW aG kG f1z f2z drz clz trz sez (nI g2) (nI r2) infz (nI ctz) ++ ([(sa, .inr (1, [.int (nI g2), .ref ruz, .null, .null, .int 0]))] ++ ([(ruz, qa_R kA r2 (qa_up r2 rrz))])))) (pl1 := (qT r2 rrz (qE kI 3 (qF K2)) ++ [])) hP hD [0, 1, 2, 3, 4, 5, 6, 7, 8] [] rfl rfl (by decide) (by decide) hk1 hFc hP1 hD1
      have hP : va_P (dC, dI) vwCl ((gcW aG kG f1z f2z drz clz trz sez (nI g2) (nI r2) infz (nI ctz) ++ ([(sa, .inr (1, [.int (nI g2), .ref ruz, .null, .null, .int 0]))] ++ ([(ruz, qa_R kA r2 (qa_up r2 rrz))]))) ++ (qT r2 rrz (qE kI 3 (qF K2)) ++ [])) H := hP.part [0, 1, 2, 3, 4, 5, 6, 7, 8] rfl
      have hD : va_D A ((gcW aG kG f1z f2z drz clz trz sez (nI g2) (nI r2) infz (nI ctz) ++ ([(sa, .inr (1, [.int (nI g2), .ref ruz, .null, .null, .int 0]))] ++ ([(ruz, qa_R kA r2 (qa_up r2 rrz))]))) ++ (qT r2 rrz (qE kI 3 (qF K2)) ++ [])) := hD.part [0, 1, 2, 3, 4, 5, 6, 7, 8] (by decide) rfl
      have hw_66 : r48 = 1 ∧ 1 ≤ g2 ∧ Inv K2 g2 r2 f1z f2z infz drz clz sez ctz := hw
      clear hz1 hk1 ht hvm hP1 hD1 hFc hDc
      clear hPc hKc
      refine gc_topi (y := 1) (hw_66.1) ?_
      refine lv_if_ne (tgt := 74) hx hb dL_law_69 (by decide) (fun c_69 => ?_) (fun c_69 => ?_)
      · skip
        refine lv_iinc (v := nI (j + 1)) (lv' := [(5, .int (nI (j + 1))), (4, .int xx), (3, .int (nI tt)), (0, .ref b), (1, .ref (aG 0)), (2, .ref sa)]) hx hb dL_law_74 hl (k := 0) rfl (nI_1 j) (by decide) rfl (fun ls hl => ?_)
        refine lv_goto (tgt := 44) hx hb dL_law_77 (by decide) ?_
        refine W.widen (k := 33 + 6 * tt + 2 * (j + 1)) (n := 1567 + 102 * tt + 34 * (j + 1)) (by omega) (by omega) ?_
        exact ihj H _ ls (by omega) ⟨K2, g2, r2, f1z, f2z, drz, clz, trz, sez, infz, ctz, ruz, rrz, (hw_66.2.1), (hw_66.2.2), hP, hD, hS, lv_sub hl [0, 1, 2, 3, 4, 5] rfl⟩
      · skip
        exact absurd c_69 (by decide)
