set_option maxHeartbeats 4000000 in
set_option maxRecDepth 100000 in
theorem law_13x {p : Program} {e : Env} {s : State} {m : MethodId} {below : List Frame} {meth : Method} {c : Code} (l : Launch) (hgl : l.stackTraces = false) {b L : Nat} {xs : Nat → Int32} (hL : L ≤ 1536) (C0 : lw_At p s m meth c b L xs) {dC : Nat → ClassId} {dI : Nat → Nat → Nat} {aG : Nat → Nat} {kG : Nat → ClassId} {aM : Nat → Nat} {kM : Nat → ClassId} {oa : Nat} {ok : ClassId} (hK : va_K (dC, dI) vwCl (gcT kG ++ (gmT kM ++ ([(ok, .long)]))) s) (hXA : gcXA (fun q : Nat => s.heap.size ≤ q) s) {jj : Nat} (hj : 3 * jj + 3 ≤ L) {d : Drawn} (hd : s.drawn.sameBut d lw_cs) {K : Bk} {g r : Nat} {f1 f2 dr cl tr se : Nat → Int32} {inf : Int32} {ct : Nat} {of ro fa : Nat → Int32} {th : Int32} {ou : Nat → Int64} (hI : Inv K g r f1 f2 inf dr cl se ct of) {H : Heap} {locs : List Loc} {ls : Array Slot} (hP : va_P (dC, dI) vwCl (gcW aG kG f1 f2 dr cl tr se (nI g) (nI r) inf (nI ct) ++ (gmW aM kM f1 f2 of ro fa th (nI g) (nI r) (-1) (-1) ++ ([(oa, .inl (ok, 1, .inr (.inl ou)))]))) H) (hD : va_D (fun q : Nat => s.heap.size ≤ q) (gcW aG kG f1 f2 dr cl tr se (nI g) (nI r) inf (nI ct) ++ (gmW aM kM f1 f2 of ro fa th (nI g) (nI r) (-1) (-1) ++ ([(oa, .inl (ok, 1, .inr (.inl ou)))])))) (hS : va_S (fun q : Nat => s.heap.size ≤ q) s.heap H locs) (hl : lv_has ls 9 [(4, .int (nI (3 * jj))), (0, .ref b), (1, .ref (aG 0)), (2, .ref (aM 0)), (3, .ref oa)]) (ih : ∀ (d1 : Drawn) (H1 : Heap) (locs1 : List Loc) (ls1 : Array Slot), s.drawn.sameBut d1 lw_cs → LSt dC dI s b aG kG aM kM oa ok (jj + 1) H1 locs1 ls1 → W p l e room_1 (s.setDrawn d1) m #[Value.ref b] below meth c H1 locs1 (14 + (jj + 1)) (1295 + 6 * (jj + 1)) (lw_Z below #[Value.ref b] s) (F0 m 23 ls1 [])) (hno : ∀ q : Nat, q < 2 ^ g → xs (3 * jj + 1) ≠ nI q) : W p l e room_1 (s.setDrawn d) m #[Value.ref b] below meth c H locs (14 + jj) (1295 + 6 * jj) (lw_Z below #[Value.ref b] s) (F0 m 703 ls []) := by
  obtain ⟨hx, hb, hr, hml, hown, hts0, hX, hbl, hlocks, hgv⟩ := C0
  have hown : s.vm.findClass RL = some m.cls := hown
  have hts1 : ∀ w ∈ wsL_law, w.before #[Value.ref b] s = true := fun w h => hts0 w (wsL_law_in w h)
  have hts := dr_words hts1 d
  have hA : ∀ q : Nat, s.heap.size ≤ q → (fun q : Nat => s.heap.size ≤ q) q := fun _ h => h
  have hbA : ¬ (fun q : Nat => s.heap.size ≤ q) b := Nat.not_le.mpr hbl
  obtain ⟨hg10, hr30, hOK, hz, hBk, hof, hDr, hCl, s0, hse, hct⟩ := id hI
  have hKd : va_K (dC, dI) vwCl (gcT kG ++ (gmT kM ++ ([(ok, .long)]))) (s.setDrawn d) := hK
  have hXd : va_X b L xs (s.setDrawn d) s.heap := hX
  have hKg := gOK_Kg hOK
  have hKr : K.1 ≤ 30 := by rw [hOK.1]; exact hr30
  have hLF : LF K g se ct := by rw [hse, hct]; exact LF_of hg10 hKg hCl s0
  have hc1024 : ct ≤ 1024 := hLF.2
  have hft : gFt cl g = decide (0 < ct) := by rw [hct]; exact ft_pos hg10 hKg hCl s0
  refine lv_aload_n hx hb dL_law_703 rfl (lv_at hl 2 rfl) ?_
  refine lv_aload_n hx hb dL_law_704 rfl (lv_at hl 1 rfl) ?_
  refine lv_iload hx hb dL_law_705 (lv_at hl 0 rfl) ?_
  refine lv_iconst (v := 1) hx hb dL_law_707 (by decide) ?_
  refine lv_iadd hx hb dL_law_708 ?_
  refine gc_topi (y := nI (3 * jj + 1)) (nI_add (3 * jj) 1) ?_
  refine va_sld hx hb hXd hbl hbA hS (vp_in_nI (n := (3 * jj + 1)) (by omega) (by omega)) dL_law_709 ?_
  rw [nI_clamp (n := (3 * jj + 1)) (by omega)]
  refine lv_aload_n hx hb dL_law_710 rfl (lv_at hl 4 rfl) ?_
  have hPc : va_P (dC, dI) vwCl (gcW aG kG f1 f2 dr cl tr se (nI g) (nI r) inf (nI ct) ++ ([(oa, .inl (ok, 1, .inr (.inl ou)))])) _ := hP.sub [0, 1, 2, 3, 4, 5, 6, 13] rfl
  have hKc : va_K (dC, dI) vwCl (gcT kG ++ ([(ok, .long)])) s := hK.sub [0, 1, 2, 3, 4, 5, 11] rfl
  have hDc : va_D (fun q : Nat => s.heap.size ≤ q) (gcW aG kG f1 f2 dr cl tr se (nI g) (nI r) inf (nI ct) ++ ([(oa, .inl (ok, 1, .inr (.inl ou)))])) := hD.sub [0, 1, 2, 3, 4, 5, 6, 13] (by decide) rfl
  have hFc := va_free (wc := (gcW aG kG f1 f2 dr cl tr se (nI g) (nI r) inf (nI ct) ++ ([(oa, .inl (ok, 1, .inr (.inl ou)))]))) hD hS hA [0, 1, 2, 3, 4, 5, 6, 13] rfl
  refine va_calli (vx_runSW (As := [.ref (aG 0), .int (xs (3 * jj + 1)), .ref oa]) (rest := []) ⟨hx, hb, hml, hown, hts⟩ (wx_broken l hgl dC dI aG kG f1 f2 dr cl tr se g r inf ct oa ok ou (xs (3 * jj + 1)) H.size (by first | assumption | omega) (by first | exact hno | exact Or.inl hno | exact Or.inr hno)) (vx_cwSW 3 hts gL_law_L_broken rfl rfl rfl (by decide +kernel) ⟨Nat.le_of_ble_eq_true rfl, Nat.le_of_ble_eq_true rfl⟩) ⟨gcPN_blind, fun U hU hW => ⟨rfl, by rw [hU], by rw [hU]; exact hPc, va_K.moved hW.alike hKc, hDc.weaken (fun _ _ _ _ => trivial), gcXA_go hXA hS hU hW⟩⟩ rfl rfl hl.1 rfl (lv_room (Nat.le_of_ble_eq_true rfl)) dL_law_711 ⟨show 14 + jj + 1 ≤ 1046 by omega, show 1295 + 6 * jj + 6 ≤ 9535 by omega⟩) hS (fun q _ h => hFc q h) hFc (fun r1 u t H locs ht hvm hw hB hz1 hk1 hS => ?_)
  obtain ⟨hP1, hD1⟩ := hB
  rw [ht] at hP1
  obtain ⟨hP, hD⟩ := va_join (wr := [(aM 0, .inr (1, [.int th, .int (nI g), .int (nI r), .ref (aM 1), .ref (aM 2), .ref (aM 3), .int (-1), .int (-1), .ref (aM 4), .ref (aM 5)])), (aM 1, .inl (kM 1, 30, .inl f1)), (aM 2, .inl (kM 2, 30, .inl f2)), (aM 3, .inl (kM 3, 30, .inl of)), (aM 4, .inl (kM 4, 20, .inl ro)), (aM 5, .inl (kM 5, 20, .inl fa))]) (w1 := (gcW aG kG f1 f2 dr cl tr se (nI g) (nI r) inf (nI ct) ++ ([(oa, .inl (ok, 1, .inr (.inl ou)))]))) hP hD [0, 1, 2, 3, 4, 5, 6, 13] [7, 8, 9, 10, 11, 12] rfl rfl (by decide) (by decide) hk1 hFc hP1 hD1
  have hP : va_P (dC, dI) vwCl (gcW aG kG f1 f2 dr cl tr se (nI g) (nI r) inf (nI ct) ++ (gmW aM kM f1 f2 of ro fa th (nI g) (nI r) (-1) (-1) ++ ([(oa, .inl (ok, 1, .inr (.inl ou)))]))) H := hP.sub [6, 7, 8, 9, 10, 11, 12, 0, 1, 2, 3, 4, 5, 13] rfl
  have hD : va_D (fun q : Nat => s.heap.size ≤ q) (gcW aG kG f1 f2 dr cl tr se (nI g) (nI r) inf (nI ct) ++ (gmW aM kM f1 f2 of ro fa th (nI g) (nI r) (-1) (-1) ++ ([(oa, .inl (ok, 1, .inr (.inl ou)))]))) := hD.sub [6, 7, 8, 9, 10, 11, 12, 0, 1, 2, 3, 4, 5, 13] (by decide) rfl
  have hw : r1 = 1 := hw
  subst hw
  clear hw
  clear hz1 hk1 ht hvm hP1 hD1 hFc hDc
  clear hPc hKc
  refine lv_istore (lv' := [(5, .int 1), (4, .int (nI (3 * jj))), (0, .ref b), (1, .ref (aG 0)), (2, .ref (aM 0)), (3, .ref oa)]) hx hb dL_law_714 hl (by decide) rfl (fun ls hl => ?_)
  refine lv_aload_n hx hb dL_law_716 rfl (lv_at hl 4 rfl) ?_
  refine lv_aload_n hx hb dL_law_717 rfl (lv_at hl 2 rfl) ?_
  refine lv_iload hx hb dL_law_718 (lv_at hl 1 rfl) ?_
  refine lv_iconst (v := 1) hx hb dL_law_720 (by decide) ?_
  refine lv_iadd hx hb dL_law_721 ?_
  refine gc_topi (y := nI (3 * jj + 1)) (nI_add (3 * jj) 1) ?_
  refine va_sld hx hb hXd hbl hbA hS (vp_in_nI (n := (3 * jj + 1)) (by omega) (by omega)) dL_law_722 ?_
  rw [nI_clamp (n := (3 * jj + 1)) (by omega)]
  have hPc : va_P (dC, dI) vwCl (gmW aM kM f1 f2 of ro fa th (nI g) (nI r) (-1) (-1)) _ := hP.sub [7, 8, 9, 10, 11, 12] rfl
  have hKc : va_K (dC, dI) vwCl (gmT kM) s := hK.sub [6, 7, 8, 9, 10] rfl
  have hDc : va_D (fun q : Nat => s.heap.size ≤ q) (gmW aM kM f1 f2 of ro fa th (nI g) (nI r) (-1) (-1)) := hD.sub [7, 8, 9, 10, 11, 12] (by decide) rfl
  have hFc := va_free (wc := (gmW aM kM f1 f2 of ro fa th (nI g) (nI r) (-1) (-1))) hD hS hA [7, 8, 9, 10, 11, 12] rfl
  refine va_calli (va_runV (As := [.int (xs (3 * jj + 1))]) (rest := []) ⟨hx, hb, hml, hown, hts⟩ (c_X1_broken_no l dC dI aM kM f1 f2 of ro fa th g r (-1) (-1) (xs (3 * jj + 1)) H.size (by first | assumption | omega) (by first | exact hno | exact Or.inl hno | exact Or.inr hno)) (cwV 1 hts gL_law_X1_broken rfl rfl rfl (by decide +kernel) ⟨Nat.le_of_ble_eq_true rfl, Nat.le_of_ble_eq_true rfl⟩) ⟨gcPM_blind, va_recv hK hP (ci := 1) (q0 := 7) rfl rfl, fun U hU hW => ⟨rfl, by rw [hU], by rw [hU]; exact hPc, va_K.moved hW.alike hKc, hDc.weaken (fun _ _ _ _ => trivial)⟩⟩ rfl rfl hl.1 rfl (lv_room (Nat.le_of_ble_eq_true rfl)) dL_law_723 ⟨show 14 + jj + 1 + 0 ≤ 1046 by omega, show 1295 + 6 * jj + 6 + 0 ≤ 9535 by omega⟩) hS (fun q _ h => hFc q h) hFc (fun r2 u t H locs ht hvm hw hB hz1 hk1 hS => ?_)
  obtain ⟨hP1, hD1⟩ := hB
  rw [ht] at hP1
  obtain ⟨hP, hD⟩ := va_join (wr := [(aG 0, .inr (0, [.ref (aG 1), .ref (aG 2), .ref (aG 3), .ref (aG 4), .ref (aG 5), .ref (aG 6), .int (nI g), .int (nI r), .int inf, .int (nI ct)])), (aG 1, .inl (kG 1, 30, .inl f1)), (aG 2, .inl (kG 2, 30, .inl f2)), (aG 3, .inl (kG 3, 20, .inl dr)), (aG 4, .inl (kG 4, 20, .inl cl)), (aG 5, .inl (kG 5, 20, .inl tr)), (aG 6, .inl (kG 6, 1024, .inl se)), (oa, .inl (ok, 1, .inr (.inl ou)))]) (w1 := (gmW aM kM f1 f2 of ro fa 1 (nI g) (nI r) (-1) (-1))) hP hD [7, 8, 9, 10, 11, 12] [0, 1, 2, 3, 4, 5, 6, 13] rfl rfl (by decide) (by decide) hk1 hFc hP1 hD1
  have hP : va_P (dC, dI) vwCl (gcW aG kG f1 f2 dr cl tr se (nI g) (nI r) inf (nI ct) ++ (gmW aM kM f1 f2 of ro fa 1 (nI g) (nI r) (-1) (-1) ++ ([(oa, .inl (ok, 1, .inr (.inl ou)))]))) H := hP.sub [0, 1, 2, 3, 4, 5, 6, 8, 9, 10, 11, 12, 13, 7] rfl
  have hD : va_D (fun q : Nat => s.heap.size ≤ q) (gcW aG kG f1 f2 dr cl tr se (nI g) (nI r) inf (nI ct) ++ (gmW aM kM f1 f2 of ro fa 1 (nI g) (nI r) (-1) (-1) ++ ([(oa, .inl (ok, 1, .inr (.inl ou)))]))) := hD.sub [0, 1, 2, 3, 4, 5, 6, 8, 9, 10, 11, 12, 13, 7] (by decide) rfl
  have hw_723 : True := hw
  clear hz1 hk1 ht hvm hP1 hD1 hFc hDc
  clear hPc hKc
  refine lv_istore (lv' := [(6, .int r2), (5, .int 1), (4, .int (nI (3 * jj))), (0, .ref b), (1, .ref (aG 0)), (2, .ref (aM 0)), (3, .ref oa)]) hx hb dL_law_726 hl (by decide) rfl (fun ls hl => ?_)
  refine lv_aload_n hx hb dL_law_728 rfl (lv_at hl 5 rfl) ?_
  have hPc : va_P (dC, dI) vwCl (gmW aM kM f1 f2 of ro fa 1 (nI g) (nI r) (-1) (-1)) _ := hP.sub [7, 8, 9, 10, 11, 12] rfl
  have hKc : va_K (dC, dI) vwCl (gmT kM) s := hK.sub [6, 7, 8, 9, 10] rfl
  refine va_calli (va_runV (As := []) (rest := []) ⟨hx, hb, hml, hown, hts⟩ (c_X1_thrown l dC dI aM kM f1 f2 of ro fa 1 g r (-1) (-1)) (cwV 0 hts gL_law_X1_thrown rfl rfl rfl (by decide +kernel) ⟨Nat.le_of_ble_eq_true rfl, Nat.le_of_ble_eq_true rfl⟩) ⟨gcPR_blind, va_recv hK hP (ci := 1) (q0 := 7) rfl rfl, fun U hU hW => ⟨rfl, by rw [hU]; exact hPc, va_K.moved hW.alike hKc⟩⟩ rfl rfl hl.1 rfl (lv_room (Nat.le_of_ble_eq_true rfl)) dL_law_729 ⟨show 14 + jj + 1 + 0 + 0 ≤ 1046 by omega, show 1295 + 6 * jj + 6 + 0 + 0 ≤ 9535 by omega⟩) hS (fun q _ h => h.elim) (fun q h => h.elim) (fun r3 u t H locs ht hvm hw hB hz1 hk1 hS => ?_)
  have hP := gc_keep hP hk1
  have hw : r3 = 1 := hw
  subst hw
  clear hw
  clear hB hz1 hk1 ht hvm
  clear hPc hKc
  refine lv_iload hx hb dL_law_732 (lv_at hl 1 rfl) ?_
  refine lv_icmp_eq (tgt := 739) hx hb dL_law_734 (by decide) (fun c_734 => ?_) (fun c_734 => absurd rfl c_734)
  refine lv_iload hx hb dL_law_739 (lv_at hl 1 rfl) ?_
  refine lv_if_ne (tgt := 756) hx hb dL_law_741 (by decide) (fun c_741 => ?_) (fun c_741 => ?_)
  · skip
    refine lv_goto (tgt := 951) hx hb dL_law_756 (by decide) ?_
    refine lv_iinc (v := nI (3 * (jj + 1))) (lv' := [(4, .int (nI (3 * (jj + 1)))), (6, .int r2), (5, .int 1), (0, .ref b), (1, .ref (aG 0)), (2, .ref (aM 0)), (3, .ref oa)]) hx hb dL_law_951 hl (k := 2) rfl (nI_3 jj) (by decide) rfl (fun ls hl => ?_)
    refine lv_goto (tgt := 23) hx hb dL_law_954 (by decide) ?_
    refine W.widen (k := 14 + (jj + 1)) (n := 1295 + 6 * (jj + 1)) (by omega) (by omega) ?_
    exact ih d H _ ls hd ⟨K, g, r, f1, f2, dr, cl, tr, se, inf, ct, of, ro, fa, 1, ou, hI, hP, hD, hS, lv_sub hl [0, 3, 4, 5, 6] rfl⟩
  · skip
    exact absurd c_741 (by decide)
set_option maxHeartbeats 4000000 in
set_option maxRecDepth 100000 in
theorem law_14 {p : Program} {e : Env} {s : State} {m : MethodId} {below : List Frame} {meth : Method} {c : Code} (l : Launch) (hgl : l.stackTraces = false) {b L : Nat} {xs : Nat → Int32} (hL : L ≤ 1536) (C0 : lw_At p s m meth c b L xs) {dC : Nat → ClassId} {dI : Nat → Nat → Nat} {aG : Nat → Nat} {kG : Nat → ClassId} {aM : Nat → Nat} {kM : Nat → ClassId} {oa : Nat} {ok : ClassId} (hK : va_K (dC, dI) vwCl (gcT kG ++ (gmT kM ++ ([(ok, .long)]))) s) (hXA : gcXA (fun q : Nat => s.heap.size ≤ q) s) {jj : Nat} (hj : 3 * jj + 3 ≤ L) {d : Drawn} (hd : s.drawn.sameBut d lw_cs) {K : Bk} {g r : Nat} {f1 f2 dr cl tr se : Nat → Int32} {inf : Int32} {ct : Nat} {of ro fa : Nat → Int32} {th : Int32} {ou : Nat → Int64} (hI : Inv K g r f1 f2 inf dr cl se ct of) {H : Heap} {locs : List Loc} {ls : Array Slot} (hP : va_P (dC, dI) vwCl (gcW aG kG f1 f2 dr cl tr se (nI g) (nI r) inf (nI ct) ++ (gmW aM kM f1 f2 of ro fa th (nI g) (nI r) (-1) (-1) ++ ([(oa, .inl (ok, 1, .inr (.inl ou)))]))) H) (hD : va_D (fun q : Nat => s.heap.size ≤ q) (gcW aG kG f1 f2 dr cl tr se (nI g) (nI r) inf (nI ct) ++ (gmW aM kM f1 f2 of ro fa th (nI g) (nI r) (-1) (-1) ++ ([(oa, .inl (ok, 1, .inr (.inl ou)))])))) (hS : va_S (fun q : Nat => s.heap.size ≤ q) s.heap H locs) (hl : lv_has ls 9 [(4, .int (nI (3 * jj))), (0, .ref b), (1, .ref (aG 0)), (2, .ref (aM 0)), (3, .ref oa)]) (ih : ∀ (d1 : Drawn) (H1 : Heap) (locs1 : List Loc) (ls1 : Array Slot), s.drawn.sameBut d1 lw_cs → LSt dC dI s b aG kG aM kM oa ok (jj + 1) H1 locs1 ls1 → W p l e room_1 (s.setDrawn d1) m #[Value.ref b] below meth c H1 locs1 (14 + (jj + 1)) (1295 + 6 * (jj + 1)) (lw_Z below #[Value.ref b] s) (F0 m 23 ls1 []))  : W p l e room_1 (s.setDrawn d) m #[Value.ref b] below meth c H locs (14 + jj) (1295 + 6 * jj) (lw_Z below #[Value.ref b] s) (F0 m 759 ls []) := by
  obtain ⟨hx, hb, hr, hml, hown, hts0, hX, hbl, hlocks, hgv⟩ := C0
  have hown : s.vm.findClass RL = some m.cls := hown
  have hts1 : ∀ w ∈ wsL_law, w.before #[Value.ref b] s = true := fun w h => hts0 w (wsL_law_in w h)
  have hts := dr_words hts1 d
  have hA : ∀ q : Nat, s.heap.size ≤ q → (fun q : Nat => s.heap.size ≤ q) q := fun _ h => h
  have hbA : ¬ (fun q : Nat => s.heap.size ≤ q) b := Nat.not_le.mpr hbl
  obtain ⟨hg10, hr30, hOK, hz, hBk, hof, hDr, hCl, s0, hse, hct⟩ := id hI
  have hKd : va_K (dC, dI) vwCl (gcT kG ++ (gmT kM ++ ([(ok, .long)]))) (s.setDrawn d) := hK
  have hXd : va_X b L xs (s.setDrawn d) s.heap := hX
  have hKg := gOK_Kg hOK
  have hKr : K.1 ≤ 30 := by rw [hOK.1]; exact hr30
  have hLF : LF K g se ct := by rw [hse, hct]; exact LF_of hg10 hKg hCl s0
  have hc1024 : ct ≤ 1024 := hLF.2
  have hft : gFt cl g = decide (0 < ct) := by rw [hct]; exact ft_pos hg10 hKg hCl s0
  refine lv_aload_n hx hb dL_law_759 rfl (lv_at hl 2 rfl) ?_
  have hPc : va_P (dC, dI) vwCl (gcW aG kG f1 f2 dr cl tr se (nI g) (nI r) inf (nI ct)) _ := hP.sub [0, 1, 2, 3, 4, 5, 6] rfl
  have hKc : va_K (dC, dI) vwCl (gcT kG) s := hK.sub [0, 1, 2, 3, 4, 5] rfl
  have hDc : va_D (fun q : Nat => s.heap.size ≤ q) (gcW aG kG f1 f2 dr cl tr se (nI g) (nI r) inf (nI ct)) := hD.sub [0, 1, 2, 3, 4, 5, 6] (by decide) rfl
  have hFc := va_free (wc := (gcW aG kG f1 f2 dr cl tr se (nI g) (nI r) inf (nI ct))) hD hS hA [0, 1, 2, 3, 4, 5, 6] rfl
  refine va_calli (va_runV (As := []) (rest := []) ⟨hx, hb, hml, hown, hts⟩ (c_X0_blame l dC dI aG kG f1 f2 dr cl tr se g r inf ct K H.size (by first | assumption | omega) (by first | assumption | omega) (by first | assumption | omega) (by first | assumption | omega) (by first | assumption | omega)) (cwV 0 hts gL_law_X0_blame rfl rfl rfl (by decide +kernel) ⟨Nat.le_of_ble_eq_true rfl, Nat.le_of_ble_eq_true rfl⟩) ⟨gcPM_blind, va_recv hK hP (ci := 0) (q0 := 0) rfl rfl, fun U hU hW => ⟨rfl, by rw [hU], by rw [hU]; exact hPc, va_K.moved hW.alike hKc, hDc.weaken (fun _ _ _ _ => trivial)⟩⟩ rfl rfl hl.1 rfl (lv_room (Nat.le_of_ble_eq_true rfl)) dL_law_760 ⟨show 14 + jj + 0 ≤ 1046 by omega, show 1295 + 6 * jj + 0 ≤ 9535 by omega⟩) hS (fun q _ h => hFc q h) hFc (fun r1 u t H locs ht hvm hw hB hz1 hk1 hS => ?_)
  obtain ⟨tr22, e_tr22⟩ : ∃ z, z = u := ⟨_, rfl⟩
  subst e_tr22
  obtain ⟨hP1, hD1⟩ := hB
  rw [ht] at hP1
  obtain ⟨hP, hD⟩ := va_join (wr := [(aM 0, .inr (1, [.int th, .int (nI g), .int (nI r), .ref (aM 1), .ref (aM 2), .ref (aM 3), .int (-1), .int (-1), .ref (aM 4), .ref (aM 5)])), (aM 1, .inl (kM 1, 30, .inl f1)), (aM 2, .inl (kM 2, 30, .inl f2)), (aM 3, .inl (kM 3, 30, .inl of)), (aM 4, .inl (kM 4, 20, .inl ro)), (aM 5, .inl (kM 5, 20, .inl fa)), (oa, .inl (ok, 1, .inr (.inl ou)))]) (w1 := (gcW aG kG f1 f2 dr cl tr22 se (nI g) (nI r) inf (nI ct))) hP hD [0, 1, 2, 3, 4, 5, 6] [7, 8, 9, 10, 11, 12, 13] rfl rfl (by decide) (by decide) hk1 hFc hP1 hD1
  have hP : va_P (dC, dI) vwCl (gcW aG kG f1 f2 dr cl tr22 se (nI g) (nI r) inf (nI ct) ++ (gmW aM kM f1 f2 of ro fa th (nI g) (nI r) (-1) (-1) ++ ([(oa, .inl (ok, 1, .inr (.inl ou)))]))) H := hP.sub [7, 8, 9, 10, 11, 12, 13, 0, 1, 2, 3, 4, 5, 6] rfl
  have hD : va_D (fun q : Nat => s.heap.size ≤ q) (gcW aG kG f1 f2 dr cl tr22 se (nI g) (nI r) inf (nI ct) ++ (gmW aM kM f1 f2 of ro fa th (nI g) (nI r) (-1) (-1) ++ ([(oa, .inl (ok, 1, .inr (.inl ou)))]))) := hD.sub [7, 8, 9, 10, 11, 12, 13, 0, 1, 2, 3, 4, 5, 6] (by decide) rfl
  have hw : r1 = (if gFt cl g = true then -1 else gFst (gBp K g) r) := hw
  subst hw
  clear hw
  clear hz1 hk1 ht hvm hP1 hD1 hFc hDc
  clear hPc hKc
  refine gc_topi (y := mBl K (-1) (-1) g r) (by have q := blame_eq hg10 hKg hKr hCl; rw [hOK.1] at q; exact q) ?_
  refine lv_aload_n hx hb dL_law_763 rfl (lv_at hl 3 rfl) ?_
  have hPc : va_P (dC, dI) vwCl (gmW aM kM f1 f2 of ro fa th (nI g) (nI r) (-1) (-1)) _ := hP.sub [7, 8, 9, 10, 11, 12] rfl
  have hKc : va_K (dC, dI) vwCl (gmT kM) s := hK.sub [6, 7, 8, 9, 10] rfl
  have hDc : va_D (fun q : Nat => s.heap.size ≤ q) (gmW aM kM f1 f2 of ro fa th (nI g) (nI r) (-1) (-1)) := hD.sub [7, 8, 9, 10, 11, 12] (by decide) rfl
  have hFc := va_free (wc := (gmW aM kM f1 f2 of ro fa th (nI g) (nI r) (-1) (-1))) hD hS hA [7, 8, 9, 10, 11, 12] rfl
  refine va_calli (va_runV (As := []) (rest := [.int (mBl K (-1) (-1) g r)]) ⟨hx, hb, hml, hown, hts⟩ (c_X1_blame l dC dI aM kM f1 f2 of ro fa th g r (-1) (-1) K H.size (by first | assumption | omega) (by first | assumption | omega) (by first | assumption | omega)) (cwV 0 hts gL_law_X1_blame rfl rfl rfl (by decide +kernel) ⟨Nat.le_of_ble_eq_true rfl, Nat.le_of_ble_eq_true rfl⟩) ⟨gcPM_blind, va_recv hK hP (ci := 1) (q0 := 7) rfl rfl, fun U hU hW => ⟨rfl, by rw [hU], by rw [hU]; exact hPc, va_K.moved hW.alike hKc, hDc.weaken (fun _ _ _ _ => trivial)⟩⟩ rfl rfl hl.1 rfl (lv_room (Nat.le_of_ble_eq_true rfl)) dL_law_764 ⟨show 14 + jj + 0 + 0 ≤ 1046 by omega, show 1295 + 6 * jj + 0 + 0 ≤ 9535 by omega⟩) hS (fun q _ h => hFc q h) hFc (fun r3 u t H locs ht hvm hw hB hz1 hk1 hS => ?_)
  obtain ⟨hP1, hD1⟩ := hB
  rw [ht] at hP1
  obtain ⟨hP, hD⟩ := va_join (wr := [(aG 0, .inr (0, [.ref (aG 1), .ref (aG 2), .ref (aG 3), .ref (aG 4), .ref (aG 5), .ref (aG 6), .int (nI g), .int (nI r), .int inf, .int (nI ct)])), (aG 1, .inl (kG 1, 30, .inl f1)), (aG 2, .inl (kG 2, 30, .inl f2)), (aG 3, .inl (kG 3, 20, .inl dr)), (aG 4, .inl (kG 4, 20, .inl cl)), (aG 5, .inl (kG 5, 20, .inl tr22)), (aG 6, .inl (kG 6, 1024, .inl se)), (oa, .inl (ok, 1, .inr (.inl ou)))]) (w1 := (gmW aM kM f1 f2 of ro fa 0 (nI g) (nI r) (-1) (-1))) hP hD [7, 8, 9, 10, 11, 12] [0, 1, 2, 3, 4, 5, 6, 13] rfl rfl (by decide) (by decide) hk1 hFc hP1 hD1
  have hP : va_P (dC, dI) vwCl (gcW aG kG f1 f2 dr cl tr22 se (nI g) (nI r) inf (nI ct) ++ (gmW aM kM f1 f2 of ro fa 0 (nI g) (nI r) (-1) (-1) ++ ([(oa, .inl (ok, 1, .inr (.inl ou)))]))) H := hP.sub [0, 1, 2, 3, 4, 5, 6, 8, 9, 10, 11, 12, 13, 7] rfl
  have hD : va_D (fun q : Nat => s.heap.size ≤ q) (gcW aG kG f1 f2 dr cl tr22 se (nI g) (nI r) inf (nI ct) ++ (gmW aM kM f1 f2 of ro fa 0 (nI g) (nI r) (-1) (-1) ++ ([(oa, .inl (ok, 1, .inr (.inl ou)))]))) := hD.sub [0, 1, 2, 3, 4, 5, 6, 8, 9, 10, 11, 12, 13, 7] (by decide) rfl
  have hw : r3 = mBl K (-1) (-1) g r := hw
  subst hw
  clear hw
  clear hz1 hk1 ht hvm hP1 hD1 hFc hDc
  clear hPc hKc
  refine lv_icmp_eq (tgt := 951) hx hb dL_law_767 (by decide) (fun c_767 => ?_) (fun c_767 => absurd rfl c_767)
  refine lv_iinc (v := nI (3 * (jj + 1))) (lv' := [(4, .int (nI (3 * (jj + 1)))), (0, .ref b), (1, .ref (aG 0)), (2, .ref (aM 0)), (3, .ref oa)]) hx hb dL_law_951 hl (k := 0) rfl (nI_3 jj) (by decide) rfl (fun ls hl => ?_)
  refine lv_goto (tgt := 23) hx hb dL_law_954 (by decide) ?_
  refine W.widen (k := 14 + (jj + 1)) (n := 1295 + 6 * (jj + 1)) (by omega) (by omega) ?_
  exact ih d H _ ls hd ⟨K, g, r, f1, f2, dr, cl, tr22, se, inf, ct, of, ro, fa, 0, ou, hI, hP, hD, hS, lv_sub hl [0, 1, 2, 3, 4] rfl⟩
set_option maxHeartbeats 4000000 in
set_option maxRecDepth 100000 in
theorem law_15 {p : Program} {e : Env} {s : State} {m : MethodId} {below : List Frame} {meth : Method} {c : Code} (l : Launch) (hgl : l.stackTraces = false) {b L : Nat} {xs : Nat → Int32} (hL : L ≤ 1536) (C0 : lw_At p s m meth c b L xs) {dC : Nat → ClassId} {dI : Nat → Nat → Nat} {aG : Nat → Nat} {kG : Nat → ClassId} {aM : Nat → Nat} {kM : Nat → ClassId} {oa : Nat} {ok : ClassId} (hK : va_K (dC, dI) vwCl (gcT kG ++ (gmT kM ++ ([(ok, .long)]))) s) (hXA : gcXA (fun q : Nat => s.heap.size ≤ q) s) {jj : Nat} (hj : 3 * jj + 3 ≤ L) {d : Drawn} (hd : s.drawn.sameBut d lw_cs) {K : Bk} {g r : Nat} {f1 f2 dr cl tr se : Nat → Int32} {inf : Int32} {ct : Nat} {of ro fa : Nat → Int32} {th : Int32} {ou : Nat → Int64} (hI : Inv K g r f1 f2 inf dr cl se ct of) {H : Heap} {locs : List Loc} {ls : Array Slot} (hP : va_P (dC, dI) vwCl (gcW aG kG f1 f2 dr cl tr se (nI g) (nI r) inf (nI ct) ++ (gmW aM kM f1 f2 of ro fa th (nI g) (nI r) (-1) (-1) ++ ([(oa, .inl (ok, 1, .inr (.inl ou)))]))) H) (hD : va_D (fun q : Nat => s.heap.size ≤ q) (gcW aG kG f1 f2 dr cl tr se (nI g) (nI r) inf (nI ct) ++ (gmW aM kM f1 f2 of ro fa th (nI g) (nI r) (-1) (-1) ++ ([(oa, .inl (ok, 1, .inr (.inl ou)))])))) (hS : va_S (fun q : Nat => s.heap.size ≤ q) s.heap H locs) (hl : lv_has ls 9 [(4, .int (nI (3 * jj))), (0, .ref b), (1, .ref (aG 0)), (2, .ref (aM 0)), (3, .ref oa)]) (ih : ∀ (d1 : Drawn) (H1 : Heap) (locs1 : List Loc) (ls1 : Array Slot), s.drawn.sameBut d1 lw_cs → LSt dC dI s b aG kG aM kM oa ok (jj + 1) H1 locs1 ls1 → W p l e room_1 (s.setDrawn d1) m #[Value.ref b] below meth c H1 locs1 (14 + (jj + 1)) (1295 + 6 * (jj + 1)) (lw_Z below #[Value.ref b] s) (F0 m 23 ls1 [])) {wa wb : Nat} (ha : wa < 2 * g) (hb2 : wb < 2 * g) (h1 : xs (3 * jj + 1) = nI wa) (h2 : xs (3 * jj + 2) = nI wb) : W p l e room_1 (s.setDrawn d) m #[Value.ref b] below meth c H locs (14 + jj) (1295 + 6 * jj) (lw_Z below #[Value.ref b] s) (F0 m 772 ls []) := by
  obtain ⟨hx, hb, hr, hml, hown, hts0, hX, hbl, hlocks, hgv⟩ := C0
  have hown : s.vm.findClass RL = some m.cls := hown
  have hts1 : ∀ w ∈ wsL_law, w.before #[Value.ref b] s = true := fun w h => hts0 w (wsL_law_in w h)
  have hts := dr_words hts1 d
  have hA : ∀ q : Nat, s.heap.size ≤ q → (fun q : Nat => s.heap.size ≤ q) q := fun _ h => h
  have hbA : ¬ (fun q : Nat => s.heap.size ≤ q) b := Nat.not_le.mpr hbl
  obtain ⟨hg10, hr30, hOK, hz, hBk, hof, hDr, hCl, s0, hse, hct⟩ := id hI
  have hKd : va_K (dC, dI) vwCl (gcT kG ++ (gmT kM ++ ([(ok, .long)]))) (s.setDrawn d) := hK
  have hXd : va_X b L xs (s.setDrawn d) s.heap := hX
  have hKg := gOK_Kg hOK
  have hKr : K.1 ≤ 30 := by rw [hOK.1]; exact hr30
  have hLF : LF K g se ct := by rw [hse, hct]; exact LF_of hg10 hKg hCl s0
  have hc1024 : ct ≤ 1024 := hLF.2
  have hft : gFt cl g = decide (0 < ct) := by rw [hct]; exact ft_pos hg10 hKg hCl s0
  refine lv_aload_n hx hb dL_law_772 rfl (lv_at hl 2 rfl) ?_
  refine lv_aload_n hx hb dL_law_773 rfl (lv_at hl 1 rfl) ?_
  refine lv_iload hx hb dL_law_774 (lv_at hl 0 rfl) ?_
  refine lv_iconst (v := 1) hx hb dL_law_776 (by decide) ?_
  refine lv_iadd hx hb dL_law_777 ?_
  refine gc_topi (y := nI (3 * jj + 1)) (nI_add (3 * jj) 1) ?_
  refine va_sld hx hb hXd hbl hbA hS (vp_in_nI (n := (3 * jj + 1)) (by omega) (by omega)) dL_law_778 ?_
  rw [nI_clamp (n := (3 * jj + 1)) (by omega)]
  refine gc_topi (y := nI wa) (h1) ?_
  refine lv_aload_n hx hb dL_law_779 rfl (lv_at hl 1 rfl) ?_
  refine lv_iload hx hb dL_law_780 (lv_at hl 0 rfl) ?_
  refine lv_iconst (v := 2) hx hb dL_law_782 (by decide) ?_
  refine lv_iadd hx hb dL_law_783 ?_
  refine gc_topi (y := nI (3 * jj + 2)) (nI_add (3 * jj) 2) ?_
  refine va_sld hx hb hXd hbl hbA hS (vp_in_nI (n := (3 * jj + 2)) (by omega) (by omega)) dL_law_784 ?_
  rw [nI_clamp (n := (3 * jj + 2)) (by omega)]
  refine gc_topi (y := nI wb) (h2) ?_
  refine lv_aload_n hx hb dL_law_785 rfl (lv_at hl 4 rfl) ?_
  have hPc : va_P (dC, dI) vwCl (gcW aG kG f1 f2 dr cl tr se (nI g) (nI r) inf (nI ct) ++ ([(oa, .inl (ok, 1, .inr (.inl ou)))])) _ := hP.sub [0, 1, 2, 3, 4, 5, 6, 13] rfl
  have hKc : va_K (dC, dI) vwCl (gcT kG ++ ([(ok, .long)])) s := hK.sub [0, 1, 2, 3, 4, 5, 11] rfl
  have hDc : va_D (fun q : Nat => s.heap.size ≤ q) (gcW aG kG f1 f2 dr cl tr se (nI g) (nI r) inf (nI ct) ++ ([(oa, .inl (ok, 1, .inr (.inl ou)))])) := hD.sub [0, 1, 2, 3, 4, 5, 6, 13] (by decide) rfl
  have hFc := va_free (wc := (gcW aG kG f1 f2 dr cl tr se (nI g) (nI r) inf (nI ct) ++ ([(oa, .inl (ok, 1, .inr (.inl ou)))]))) hD hS hA [0, 1, 2, 3, 4, 5, 6, 13] rfl
  refine va_calli (vx_runSW (As := [.ref (aG 0), .int (nI wa), .int (nI wb), .ref oa]) (rest := []) ⟨hx, hb, hml, hown, hts⟩ (w_tightens l dC dI aG kG f1 f2 dr cl tr se g r inf ct oa ok ou wa wb H.size (by first | assumption | omega) (by first | assumption | omega) (by first | assumption | omega) (by first | assumption | omega)) (vx_cwSW 4 hts gL_law_L_tightens rfl rfl rfl (by decide +kernel) ⟨Nat.le_of_ble_eq_true rfl, Nat.le_of_ble_eq_true rfl⟩) ⟨gcPM_blind, fun U hU hW => ⟨rfl, by rw [hU], by rw [hU]; exact hPc, va_K.moved hW.alike hKc, hDc.weaken (fun _ _ _ _ => trivial)⟩⟩ rfl rfl hl.1 rfl (lv_room (Nat.le_of_ble_eq_true rfl)) dL_law_786 ⟨show 14 + jj + 0 ≤ 1046 by omega, show 1295 + 6 * jj + 0 ≤ 9535 by omega⟩) hS (fun q _ h => hFc q h) hFc (fun r1 u t H locs ht hvm hw hB hz1 hk1 hS => ?_)
  obtain ⟨hP1, hD1⟩ := hB
  rw [ht] at hP1
  obtain ⟨hP, hD⟩ := va_join (wr := [(aM 0, .inr (1, [.int th, .int (nI g), .int (nI r), .ref (aM 1), .ref (aM 2), .ref (aM 3), .int (-1), .int (-1), .ref (aM 4), .ref (aM 5)])), (aM 1, .inl (kM 1, 30, .inl f1)), (aM 2, .inl (kM 2, 30, .inl f2)), (aM 3, .inl (kM 3, 30, .inl of)), (aM 4, .inl (kM 4, 20, .inl ro)), (aM 5, .inl (kM 5, 20, .inl fa))]) (w1 := (gcW aG kG f1 f2 dr cl tr se (nI g) (nI r) inf (nI ct) ++ ([(oa, .inl (ok, 1, .inr (.inl (vp_updL ou 0 ((nI (gTi se (nI wa) (nI wb) ct)).toInt64)))))]))) hP hD [0, 1, 2, 3, 4, 5, 6, 13] [7, 8, 9, 10, 11, 12] rfl rfl (by decide) (by decide) hk1 hFc hP1 hD1
  have hP : va_P (dC, dI) vwCl (gcW aG kG f1 f2 dr cl tr se (nI g) (nI r) inf (nI ct) ++ (gmW aM kM f1 f2 of ro fa th (nI g) (nI r) (-1) (-1) ++ ([(oa, .inl (ok, 1, .inr (.inl (vp_updL ou 0 ((nI (gTi se (nI wa) (nI wb) ct)).toInt64)))))]))) H := hP.sub [6, 7, 8, 9, 10, 11, 12, 0, 1, 2, 3, 4, 5, 13] rfl
  have hD : va_D (fun q : Nat => s.heap.size ≤ q) (gcW aG kG f1 f2 dr cl tr se (nI g) (nI r) inf (nI ct) ++ (gmW aM kM f1 f2 of ro fa th (nI g) (nI r) (-1) (-1) ++ ([(oa, .inl (ok, 1, .inr (.inl (vp_updL ou 0 ((nI (gTi se (nI wa) (nI wb) ct)).toInt64)))))]))) := hD.sub [6, 7, 8, 9, 10, 11, 12, 0, 1, 2, 3, 4, 5, 13] (by decide) rfl
  have hw : r1 = 0 := hw
  subst hw
  clear hw
  clear hz1 hk1 ht hvm hP1 hD1 hFc hDc
  clear hPc hKc
  refine lv_istore (lv' := [(5, .int 0), (4, .int (nI (3 * jj))), (0, .ref b), (1, .ref (aG 0)), (2, .ref (aM 0)), (3, .ref oa)]) hx hb dL_law_789 hl (by decide) rfl (fun ls hl => ?_)
  refine lv_aload_n hx hb dL_law_791 rfl (lv_at hl 4 rfl) ?_
  refine lv_aload_n hx hb dL_law_792 rfl (lv_at hl 2 rfl) ?_
  refine lv_iload hx hb dL_law_793 (lv_at hl 1 rfl) ?_
  refine lv_iconst (v := 1) hx hb dL_law_795 (by decide) ?_
  refine lv_iadd hx hb dL_law_796 ?_
  refine gc_topi (y := nI (3 * jj + 1)) (nI_add (3 * jj) 1) ?_
  refine va_sld hx hb hXd hbl hbA hS (vp_in_nI (n := (3 * jj + 1)) (by omega) (by omega)) dL_law_797 ?_
  rw [nI_clamp (n := (3 * jj + 1)) (by omega)]
  refine gc_topi (y := nI wa) (h1) ?_
  refine lv_aload_n hx hb dL_law_798 rfl (lv_at hl 2 rfl) ?_
  refine lv_iload hx hb dL_law_799 (lv_at hl 1 rfl) ?_
  refine lv_iconst (v := 2) hx hb dL_law_801 (by decide) ?_
  refine lv_iadd hx hb dL_law_802 ?_
  refine gc_topi (y := nI (3 * jj + 2)) (nI_add (3 * jj) 2) ?_
  refine va_sld hx hb hXd hbl hbA hS (vp_in_nI (n := (3 * jj + 2)) (by omega) (by omega)) dL_law_803 ?_
  rw [nI_clamp (n := (3 * jj + 2)) (by omega)]
  refine gc_topi (y := nI wb) (h2) ?_
  have hPc : va_P (dC, dI) vwCl (gmW aM kM f1 f2 of ro fa th (nI g) (nI r) (-1) (-1)) _ := hP.sub [7, 8, 9, 10, 11, 12] rfl
  have hKc : va_K (dC, dI) vwCl (gmT kM) s := hK.sub [6, 7, 8, 9, 10] rfl
  have hDc : va_D (fun q : Nat => s.heap.size ≤ q) (gmW aM kM f1 f2 of ro fa th (nI g) (nI r) (-1) (-1)) := hD.sub [7, 8, 9, 10, 11, 12] (by decide) rfl
  have hFc := va_free (wc := (gmW aM kM f1 f2 of ro fa th (nI g) (nI r) (-1) (-1))) hD hS hA [7, 8, 9, 10, 11, 12] rfl
  refine va_calli (va_runV (As := [.int (nI wa), .int (nI wb)]) (rest := []) ⟨hx, hb, hml, hown, hts⟩ (c_X1_tightens l dC dI aM kM f1 f2 of ro fa th g r K wa wb H.size (by first | assumption | omega) (by first | assumption | omega) (by first | assumption | omega) (by first | assumption | omega) (by first | assumption | omega)) (cwV 2 hts gL_law_X1_tightens rfl rfl rfl (by decide +kernel) ⟨Nat.le_of_ble_eq_true rfl, Nat.le_of_ble_eq_true rfl⟩) ⟨gcPM_blind, va_recv hK hP (ci := 1) (q0 := 7) rfl rfl, fun U hU hW => ⟨rfl, by rw [hU], by rw [hU]; exact hPc, va_K.moved hW.alike hKc, hDc.weaken (fun _ _ _ _ => trivial)⟩⟩ rfl rfl hl.1 rfl (lv_room (Nat.le_of_ble_eq_true rfl)) dL_law_804 ⟨show 14 + jj + 0 + 0 ≤ 1046 by omega, show 1295 + 6 * jj + 0 + 0 ≤ 9535 by omega⟩) hS (fun q _ h => hFc q h) hFc (fun r2 u t H locs ht hvm hw hB hz1 hk1 hS => ?_)
  obtain ⟨hP1, hD1⟩ := hB
  rw [ht] at hP1
  obtain ⟨hP, hD⟩ := va_join (wr := [(aG 0, .inr (0, [.ref (aG 1), .ref (aG 2), .ref (aG 3), .ref (aG 4), .ref (aG 5), .ref (aG 6), .int (nI g), .int (nI r), .int inf, .int (nI ct)])), (aG 1, .inl (kG 1, 30, .inl f1)), (aG 2, .inl (kG 2, 30, .inl f2)), (aG 3, .inl (kG 3, 20, .inl dr)), (aG 4, .inl (kG 4, 20, .inl cl)), (aG 5, .inl (kG 5, 20, .inl tr)), (aG 6, .inl (kG 6, 1024, .inl se)), (oa, .inl (ok, 1, .inr (.inl (vp_updL ou 0 ((nI (gTi se (nI wa) (nI wb) ct)).toInt64)))))]) (w1 := (gmW aM kM f1 f2 of ro fa 0 (nI g) (nI r) (-1) (-1))) hP hD [7, 8, 9, 10, 11, 12] [0, 1, 2, 3, 4, 5, 6, 13] rfl rfl (by decide) (by decide) hk1 hFc hP1 hD1
  have hP : va_P (dC, dI) vwCl (gcW aG kG f1 f2 dr cl tr se (nI g) (nI r) inf (nI ct) ++ (gmW aM kM f1 f2 of ro fa 0 (nI g) (nI r) (-1) (-1) ++ ([(oa, .inl (ok, 1, .inr (.inl (vp_updL ou 0 ((nI (gTi se (nI wa) (nI wb) ct)).toInt64)))))]))) H := hP.sub [0, 1, 2, 3, 4, 5, 6, 8, 9, 10, 11, 12, 13, 7] rfl
  have hD : va_D (fun q : Nat => s.heap.size ≤ q) (gcW aG kG f1 f2 dr cl tr se (nI g) (nI r) inf (nI ct) ++ (gmW aM kM f1 f2 of ro fa 0 (nI g) (nI r) (-1) (-1) ++ ([(oa, .inl (ok, 1, .inr (.inl (vp_updL ou 0 ((nI (gTi se (nI wa) (nI wb) ct)).toInt64)))))]))) := hD.sub [0, 1, 2, 3, 4, 5, 6, 8, 9, 10, 11, 12, 13, 7] (by decide) rfl
  have hw : r2 = mAll K (-1) (-1) g - mAll K (nI wa) (nI wb) g := hw
  subst hw
  clear hw
  clear hz1 hk1 ht hvm hP1 hD1 hFc hDc
  clear hPc hKc
  refine lv_istore (lv' := [(6, .int (mAll K (-1) (-1) g - mAll K (nI wa) (nI wb) g)), (5, .int 0), (4, .int (nI (3 * jj))), (0, .ref b), (1, .ref (aG 0)), (2, .ref (aM 0)), (3, .ref oa)]) hx hb dL_law_807 hl (by decide) rfl (fun ls hl => ?_)
  refine lv_aload_n hx hb dL_law_809 rfl (lv_at hl 5 rfl) ?_
  have hPc : va_P (dC, dI) vwCl (gmW aM kM f1 f2 of ro fa 0 (nI g) (nI r) (-1) (-1)) _ := hP.sub [7, 8, 9, 10, 11, 12] rfl
  have hKc : va_K (dC, dI) vwCl (gmT kM) s := hK.sub [6, 7, 8, 9, 10] rfl
  refine va_calli (va_runV (As := []) (rest := []) ⟨hx, hb, hml, hown, hts⟩ (c_X1_thrown l dC dI aM kM f1 f2 of ro fa 0 g r (-1) (-1)) (cwV 0 hts gL_law_X1_thrown rfl rfl rfl (by decide +kernel) ⟨Nat.le_of_ble_eq_true rfl, Nat.le_of_ble_eq_true rfl⟩) ⟨gcPR_blind, va_recv hK hP (ci := 1) (q0 := 7) rfl rfl, fun U hU hW => ⟨rfl, by rw [hU]; exact hPc, va_K.moved hW.alike hKc⟩⟩ rfl rfl hl.1 rfl (lv_room (Nat.le_of_ble_eq_true rfl)) dL_law_810 ⟨show 14 + jj + 0 + 0 + 0 ≤ 1046 by omega, show 1295 + 6 * jj + 0 + 0 + 0 ≤ 9535 by omega⟩) hS (fun q _ h => h.elim) (fun q h => h.elim) (fun r3 u t H locs ht hvm hw hB hz1 hk1 hS => ?_)
  have hP := gc_keep hP hk1
  have hw : r3 = 0 := hw
  subst hw
  clear hw
  clear hB hz1 hk1 ht hvm
  clear hPc hKc
  refine lv_iload hx hb dL_law_813 (lv_at hl 1 rfl) ?_
  refine lv_icmp_eq (tgt := 820) hx hb dL_law_815 (by decide) (fun c_815 => ?_) (fun c_815 => absurd rfl c_815)
  refine lv_iload hx hb dL_law_820 (lv_at hl 1 rfl) ?_
  refine lv_if_ne (tgt := 837) hx hb dL_law_822 (by decide) (fun c_822 => ?_) (fun c_822 => ?_)
  · skip
    exact absurd (by decide) c_822
  · skip
    refine lv_aload_n hx hb dL_law_825 rfl (lv_at hl 6 rfl) ?_
    refine lv_iconst (v := 0) hx hb dL_law_826 (by decide) ?_
    refine va_lald hx hb hKd hP 13 11 rfl rfl gc_in01 dL_law_827 ?_
    refine gc_topl (y := ((nI (gTi se (nI wa) (nI wb) ct)).toInt64)) (by rw [sb_cl0]; exact pk_uLs) ?_
    refine gc_topl (y := (mAll K (-1) (-1) g - mAll K (nI wa) (nI wb) g).toInt64) (by rw [tight_eq hg10 hKg hKr hLF ha hb2]) ?_
    refine lv_iload hx hb dL_law_828 (lv_at hl 0 rfl) ?_
    refine lv_i2l hx hb dL_law_830 rfl ?_
    refine W.lcmp hx hb dL_law_831 ?_
    refine gc_topi (y := 0) ((lg_cmp_eq _ _).mpr rfl) ?_
    refine lv_if_eq (tgt := 837) hx hb dL_law_832 (by decide) (fun c_832 => ?_) (fun c_832 => ?_)
    · skip
      refine lv_goto (tgt := 951) hx hb dL_law_837 (by decide) ?_
      refine lv_iinc (v := nI (3 * (jj + 1))) (lv' := [(4, .int (nI (3 * (jj + 1)))), (6, .int (mAll K (-1) (-1) g - mAll K (nI wa) (nI wb) g)), (5, .int 0), (0, .ref b), (1, .ref (aG 0)), (2, .ref (aM 0)), (3, .ref oa)]) hx hb dL_law_951 hl (k := 2) rfl (nI_3 jj) (by decide) rfl (fun ls hl => ?_)
      refine lv_goto (tgt := 23) hx hb dL_law_954 (by decide) ?_
      refine W.widen (k := 14 + (jj + 1)) (n := 1295 + 6 * (jj + 1)) (by omega) (by omega) ?_
      exact ih d H _ ls hd ⟨K, g, r, f1, f2, dr, cl, tr, se, inf, ct, of, ro, fa, 0, (vp_updL ou 0 ((nI (gTi se (nI wa) (nI wb) ct)).toInt64)), hI, hP, hD, hS, lv_sub hl [0, 3, 4, 5, 6] rfl⟩
    · skip
      exact absurd (by decide) c_832
set_option maxHeartbeats 4000000 in
set_option maxRecDepth 100000 in
theorem law_15x {p : Program} {e : Env} {s : State} {m : MethodId} {below : List Frame} {meth : Method} {c : Code} (l : Launch) (hgl : l.stackTraces = false) {b L : Nat} {xs : Nat → Int32} (hL : L ≤ 1536) (C0 : lw_At p s m meth c b L xs) {dC : Nat → ClassId} {dI : Nat → Nat → Nat} {aG : Nat → Nat} {kG : Nat → ClassId} {aM : Nat → Nat} {kM : Nat → ClassId} {oa : Nat} {ok : ClassId} (hK : va_K (dC, dI) vwCl (gcT kG ++ (gmT kM ++ ([(ok, .long)]))) s) (hXA : gcXA (fun q : Nat => s.heap.size ≤ q) s) {jj : Nat} (hj : 3 * jj + 3 ≤ L) {d : Drawn} (hd : s.drawn.sameBut d lw_cs) {K : Bk} {g r : Nat} {f1 f2 dr cl tr se : Nat → Int32} {inf : Int32} {ct : Nat} {of ro fa : Nat → Int32} {th : Int32} {ou : Nat → Int64} (hI : Inv K g r f1 f2 inf dr cl se ct of) {H : Heap} {locs : List Loc} {ls : Array Slot} (hP : va_P (dC, dI) vwCl (gcW aG kG f1 f2 dr cl tr se (nI g) (nI r) inf (nI ct) ++ (gmW aM kM f1 f2 of ro fa th (nI g) (nI r) (-1) (-1) ++ ([(oa, .inl (ok, 1, .inr (.inl ou)))]))) H) (hD : va_D (fun q : Nat => s.heap.size ≤ q) (gcW aG kG f1 f2 dr cl tr se (nI g) (nI r) inf (nI ct) ++ (gmW aM kM f1 f2 of ro fa th (nI g) (nI r) (-1) (-1) ++ ([(oa, .inl (ok, 1, .inr (.inl ou)))])))) (hS : va_S (fun q : Nat => s.heap.size ≤ q) s.heap H locs) (hl : lv_has ls 9 [(4, .int (nI (3 * jj))), (0, .ref b), (1, .ref (aG 0)), (2, .ref (aM 0)), (3, .ref oa)]) (ih : ∀ (d1 : Drawn) (H1 : Heap) (locs1 : List Loc) (ls1 : Array Slot), s.drawn.sameBut d1 lw_cs → LSt dC dI s b aG kG aM kM oa ok (jj + 1) H1 locs1 ls1 → W p l e room_1 (s.setDrawn d1) m #[Value.ref b] below meth c H1 locs1 (14 + (jj + 1)) (1295 + 6 * (jj + 1)) (lw_Z below #[Value.ref b] s) (F0 m 23 ls1 [])) (hno : (∀ q : Nat, q < 2 * g → xs (3 * jj + 1) ≠ nI q) ∨ ∀ q : Nat, q < 2 * g → xs (3 * jj + 2) ≠ nI q) : W p l e room_1 (s.setDrawn d) m #[Value.ref b] below meth c H locs (14 + jj) (1295 + 6 * jj) (lw_Z below #[Value.ref b] s) (F0 m 772 ls []) := by
  obtain ⟨hx, hb, hr, hml, hown, hts0, hX, hbl, hlocks, hgv⟩ := C0
  have hown : s.vm.findClass RL = some m.cls := hown
  have hts1 : ∀ w ∈ wsL_law, w.before #[Value.ref b] s = true := fun w h => hts0 w (wsL_law_in w h)
  have hts := dr_words hts1 d
  have hA : ∀ q : Nat, s.heap.size ≤ q → (fun q : Nat => s.heap.size ≤ q) q := fun _ h => h
  have hbA : ¬ (fun q : Nat => s.heap.size ≤ q) b := Nat.not_le.mpr hbl
  obtain ⟨hg10, hr30, hOK, hz, hBk, hof, hDr, hCl, s0, hse, hct⟩ := id hI
  have hKd : va_K (dC, dI) vwCl (gcT kG ++ (gmT kM ++ ([(ok, .long)]))) (s.setDrawn d) := hK
  have hXd : va_X b L xs (s.setDrawn d) s.heap := hX
  have hKg := gOK_Kg hOK
  have hKr : K.1 ≤ 30 := by rw [hOK.1]; exact hr30
  have hLF : LF K g se ct := by rw [hse, hct]; exact LF_of hg10 hKg hCl s0
  have hc1024 : ct ≤ 1024 := hLF.2
  have hft : gFt cl g = decide (0 < ct) := by rw [hct]; exact ft_pos hg10 hKg hCl s0
  refine lv_aload_n hx hb dL_law_772 rfl (lv_at hl 2 rfl) ?_
  refine lv_aload_n hx hb dL_law_773 rfl (lv_at hl 1 rfl) ?_
  refine lv_iload hx hb dL_law_774 (lv_at hl 0 rfl) ?_
  refine lv_iconst (v := 1) hx hb dL_law_776 (by decide) ?_
  refine lv_iadd hx hb dL_law_777 ?_
  refine gc_topi (y := nI (3 * jj + 1)) (nI_add (3 * jj) 1) ?_
  refine va_sld hx hb hXd hbl hbA hS (vp_in_nI (n := (3 * jj + 1)) (by omega) (by omega)) dL_law_778 ?_
  rw [nI_clamp (n := (3 * jj + 1)) (by omega)]
  refine lv_aload_n hx hb dL_law_779 rfl (lv_at hl 1 rfl) ?_
  refine lv_iload hx hb dL_law_780 (lv_at hl 0 rfl) ?_
  refine lv_iconst (v := 2) hx hb dL_law_782 (by decide) ?_
  refine lv_iadd hx hb dL_law_783 ?_
  refine gc_topi (y := nI (3 * jj + 2)) (nI_add (3 * jj) 2) ?_
  refine va_sld hx hb hXd hbl hbA hS (vp_in_nI (n := (3 * jj + 2)) (by omega) (by omega)) dL_law_784 ?_
  rw [nI_clamp (n := (3 * jj + 2)) (by omega)]
  refine lv_aload_n hx hb dL_law_785 rfl (lv_at hl 4 rfl) ?_
  have hPc : va_P (dC, dI) vwCl (gcW aG kG f1 f2 dr cl tr se (nI g) (nI r) inf (nI ct) ++ ([(oa, .inl (ok, 1, .inr (.inl ou)))])) _ := hP.sub [0, 1, 2, 3, 4, 5, 6, 13] rfl
  have hKc : va_K (dC, dI) vwCl (gcT kG ++ ([(ok, .long)])) s := hK.sub [0, 1, 2, 3, 4, 5, 11] rfl
  have hDc : va_D (fun q : Nat => s.heap.size ≤ q) (gcW aG kG f1 f2 dr cl tr se (nI g) (nI r) inf (nI ct) ++ ([(oa, .inl (ok, 1, .inr (.inl ou)))])) := hD.sub [0, 1, 2, 3, 4, 5, 6, 13] (by decide) rfl
  have hFc := va_free (wc := (gcW aG kG f1 f2 dr cl tr se (nI g) (nI r) inf (nI ct) ++ ([(oa, .inl (ok, 1, .inr (.inl ou)))]))) hD hS hA [0, 1, 2, 3, 4, 5, 6, 13] rfl
  refine va_calli (vx_runSW (As := [.ref (aG 0), .int (xs (3 * jj + 1)), .int (xs (3 * jj + 2)), .ref oa]) (rest := []) ⟨hx, hb, hml, hown, hts⟩ (wx_tightens l hgl dC dI aG kG f1 f2 dr cl tr se g r inf ct oa ok ou (xs (3 * jj + 1)) (xs (3 * jj + 2)) H.size (by first | assumption | omega) (by first | exact hno | exact Or.inl hno | exact Or.inr hno)) (vx_cwSW 4 hts gL_law_L_tightens rfl rfl rfl (by decide +kernel) ⟨Nat.le_of_ble_eq_true rfl, Nat.le_of_ble_eq_true rfl⟩) ⟨gcPN_blind, fun U hU hW => ⟨rfl, by rw [hU], by rw [hU]; exact hPc, va_K.moved hW.alike hKc, hDc.weaken (fun _ _ _ _ => trivial), gcXA_go hXA hS hU hW⟩⟩ rfl rfl hl.1 rfl (lv_room (Nat.le_of_ble_eq_true rfl)) dL_law_786 ⟨show 14 + jj + 1 ≤ 1046 by omega, show 1295 + 6 * jj + 6 ≤ 9535 by omega⟩) hS (fun q _ h => hFc q h) hFc (fun r1 u t H locs ht hvm hw hB hz1 hk1 hS => ?_)
  obtain ⟨hP1, hD1⟩ := hB
  rw [ht] at hP1
  obtain ⟨hP, hD⟩ := va_join (wr := [(aM 0, .inr (1, [.int th, .int (nI g), .int (nI r), .ref (aM 1), .ref (aM 2), .ref (aM 3), .int (-1), .int (-1), .ref (aM 4), .ref (aM 5)])), (aM 1, .inl (kM 1, 30, .inl f1)), (aM 2, .inl (kM 2, 30, .inl f2)), (aM 3, .inl (kM 3, 30, .inl of)), (aM 4, .inl (kM 4, 20, .inl ro)), (aM 5, .inl (kM 5, 20, .inl fa))]) (w1 := (gcW aG kG f1 f2 dr cl tr se (nI g) (nI r) inf (nI ct) ++ ([(oa, .inl (ok, 1, .inr (.inl ou)))]))) hP hD [0, 1, 2, 3, 4, 5, 6, 13] [7, 8, 9, 10, 11, 12] rfl rfl (by decide) (by decide) hk1 hFc hP1 hD1
  have hP : va_P (dC, dI) vwCl (gcW aG kG f1 f2 dr cl tr se (nI g) (nI r) inf (nI ct) ++ (gmW aM kM f1 f2 of ro fa th (nI g) (nI r) (-1) (-1) ++ ([(oa, .inl (ok, 1, .inr (.inl ou)))]))) H := hP.sub [6, 7, 8, 9, 10, 11, 12, 0, 1, 2, 3, 4, 5, 13] rfl
  have hD : va_D (fun q : Nat => s.heap.size ≤ q) (gcW aG kG f1 f2 dr cl tr se (nI g) (nI r) inf (nI ct) ++ (gmW aM kM f1 f2 of ro fa th (nI g) (nI r) (-1) (-1) ++ ([(oa, .inl (ok, 1, .inr (.inl ou)))]))) := hD.sub [6, 7, 8, 9, 10, 11, 12, 0, 1, 2, 3, 4, 5, 13] (by decide) rfl
  have hw : r1 = 1 := hw
  subst hw
  clear hw
  clear hz1 hk1 ht hvm hP1 hD1 hFc hDc
  clear hPc hKc
  refine lv_istore (lv' := [(5, .int 1), (4, .int (nI (3 * jj))), (0, .ref b), (1, .ref (aG 0)), (2, .ref (aM 0)), (3, .ref oa)]) hx hb dL_law_789 hl (by decide) rfl (fun ls hl => ?_)
  refine lv_aload_n hx hb dL_law_791 rfl (lv_at hl 4 rfl) ?_
  refine lv_aload_n hx hb dL_law_792 rfl (lv_at hl 2 rfl) ?_
  refine lv_iload hx hb dL_law_793 (lv_at hl 1 rfl) ?_
  refine lv_iconst (v := 1) hx hb dL_law_795 (by decide) ?_
  refine lv_iadd hx hb dL_law_796 ?_
  refine gc_topi (y := nI (3 * jj + 1)) (nI_add (3 * jj) 1) ?_
  refine va_sld hx hb hXd hbl hbA hS (vp_in_nI (n := (3 * jj + 1)) (by omega) (by omega)) dL_law_797 ?_
  rw [nI_clamp (n := (3 * jj + 1)) (by omega)]
  refine lv_aload_n hx hb dL_law_798 rfl (lv_at hl 2 rfl) ?_
  refine lv_iload hx hb dL_law_799 (lv_at hl 1 rfl) ?_
  refine lv_iconst (v := 2) hx hb dL_law_801 (by decide) ?_
  refine lv_iadd hx hb dL_law_802 ?_
  refine gc_topi (y := nI (3 * jj + 2)) (nI_add (3 * jj) 2) ?_
  refine va_sld hx hb hXd hbl hbA hS (vp_in_nI (n := (3 * jj + 2)) (by omega) (by omega)) dL_law_803 ?_
  rw [nI_clamp (n := (3 * jj + 2)) (by omega)]
  have hPc : va_P (dC, dI) vwCl (gmW aM kM f1 f2 of ro fa th (nI g) (nI r) (-1) (-1)) _ := hP.sub [7, 8, 9, 10, 11, 12] rfl
  have hKc : va_K (dC, dI) vwCl (gmT kM) s := hK.sub [6, 7, 8, 9, 10] rfl
  have hDc : va_D (fun q : Nat => s.heap.size ≤ q) (gmW aM kM f1 f2 of ro fa th (nI g) (nI r) (-1) (-1)) := hD.sub [7, 8, 9, 10, 11, 12] (by decide) rfl
  have hFc := va_free (wc := (gmW aM kM f1 f2 of ro fa th (nI g) (nI r) (-1) (-1))) hD hS hA [7, 8, 9, 10, 11, 12] rfl
  refine va_calli (va_runV (As := [.int (xs (3 * jj + 1)), .int (xs (3 * jj + 2))]) (rest := []) ⟨hx, hb, hml, hown, hts⟩ (c_X1_tightens_no l dC dI aM kM f1 f2 of ro fa th g r (-1) (-1) (xs (3 * jj + 1)) (xs (3 * jj + 2)) H.size (by first | assumption | omega) (by first | exact hno | exact Or.inl hno | exact Or.inr hno)) (cwV 2 hts gL_law_X1_tightens rfl rfl rfl (by decide +kernel) ⟨Nat.le_of_ble_eq_true rfl, Nat.le_of_ble_eq_true rfl⟩) ⟨gcPM_blind, va_recv hK hP (ci := 1) (q0 := 7) rfl rfl, fun U hU hW => ⟨rfl, by rw [hU], by rw [hU]; exact hPc, va_K.moved hW.alike hKc, hDc.weaken (fun _ _ _ _ => trivial)⟩⟩ rfl rfl hl.1 rfl (lv_room (Nat.le_of_ble_eq_true rfl)) dL_law_804 ⟨show 14 + jj + 1 + 0 ≤ 1046 by omega, show 1295 + 6 * jj + 6 + 0 ≤ 9535 by omega⟩) hS (fun q _ h => hFc q h) hFc (fun r2 u t H locs ht hvm hw hB hz1 hk1 hS => ?_)
  obtain ⟨hP1, hD1⟩ := hB
  rw [ht] at hP1
  obtain ⟨hP, hD⟩ := va_join (wr := [(aG 0, .inr (0, [.ref (aG 1), .ref (aG 2), .ref (aG 3), .ref (aG 4), .ref (aG 5), .ref (aG 6), .int (nI g), .int (nI r), .int inf, .int (nI ct)])), (aG 1, .inl (kG 1, 30, .inl f1)), (aG 2, .inl (kG 2, 30, .inl f2)), (aG 3, .inl (kG 3, 20, .inl dr)), (aG 4, .inl (kG 4, 20, .inl cl)), (aG 5, .inl (kG 5, 20, .inl tr)), (aG 6, .inl (kG 6, 1024, .inl se)), (oa, .inl (ok, 1, .inr (.inl ou)))]) (w1 := (gmW aM kM f1 f2 of ro fa 1 (nI g) (nI r) (-1) (-1))) hP hD [7, 8, 9, 10, 11, 12] [0, 1, 2, 3, 4, 5, 6, 13] rfl rfl (by decide) (by decide) hk1 hFc hP1 hD1
  have hP : va_P (dC, dI) vwCl (gcW aG kG f1 f2 dr cl tr se (nI g) (nI r) inf (nI ct) ++ (gmW aM kM f1 f2 of ro fa 1 (nI g) (nI r) (-1) (-1) ++ ([(oa, .inl (ok, 1, .inr (.inl ou)))]))) H := hP.sub [0, 1, 2, 3, 4, 5, 6, 8, 9, 10, 11, 12, 13, 7] rfl
  have hD : va_D (fun q : Nat => s.heap.size ≤ q) (gcW aG kG f1 f2 dr cl tr se (nI g) (nI r) inf (nI ct) ++ (gmW aM kM f1 f2 of ro fa 1 (nI g) (nI r) (-1) (-1) ++ ([(oa, .inl (ok, 1, .inr (.inl ou)))]))) := hD.sub [0, 1, 2, 3, 4, 5, 6, 8, 9, 10, 11, 12, 13, 7] (by decide) rfl
  have hw_804 : True := hw
  clear hz1 hk1 ht hvm hP1 hD1 hFc hDc
  clear hPc hKc
  refine lv_istore (lv' := [(6, .int r2), (5, .int 1), (4, .int (nI (3 * jj))), (0, .ref b), (1, .ref (aG 0)), (2, .ref (aM 0)), (3, .ref oa)]) hx hb dL_law_807 hl (by decide) rfl (fun ls hl => ?_)
  refine lv_aload_n hx hb dL_law_809 rfl (lv_at hl 5 rfl) ?_
  have hPc : va_P (dC, dI) vwCl (gmW aM kM f1 f2 of ro fa 1 (nI g) (nI r) (-1) (-1)) _ := hP.sub [7, 8, 9, 10, 11, 12] rfl
  have hKc : va_K (dC, dI) vwCl (gmT kM) s := hK.sub [6, 7, 8, 9, 10] rfl
  refine va_calli (va_runV (As := []) (rest := []) ⟨hx, hb, hml, hown, hts⟩ (c_X1_thrown l dC dI aM kM f1 f2 of ro fa 1 g r (-1) (-1)) (cwV 0 hts gL_law_X1_thrown rfl rfl rfl (by decide +kernel) ⟨Nat.le_of_ble_eq_true rfl, Nat.le_of_ble_eq_true rfl⟩) ⟨gcPR_blind, va_recv hK hP (ci := 1) (q0 := 7) rfl rfl, fun U hU hW => ⟨rfl, by rw [hU]; exact hPc, va_K.moved hW.alike hKc⟩⟩ rfl rfl hl.1 rfl (lv_room (Nat.le_of_ble_eq_true rfl)) dL_law_810 ⟨show 14 + jj + 1 + 0 + 0 ≤ 1046 by omega, show 1295 + 6 * jj + 6 + 0 + 0 ≤ 9535 by omega⟩) hS (fun q _ h => h.elim) (fun q h => h.elim) (fun r3 u t H locs ht hvm hw hB hz1 hk1 hS => ?_)
  have hP := gc_keep hP hk1
  have hw : r3 = 1 := hw
  subst hw
  clear hw
  clear hB hz1 hk1 ht hvm
  clear hPc hKc
  refine lv_iload hx hb dL_law_813 (lv_at hl 1 rfl) ?_
  refine lv_icmp_eq (tgt := 820) hx hb dL_law_815 (by decide) (fun c_815 => ?_) (fun c_815 => absurd rfl c_815)
  refine lv_iload hx hb dL_law_820 (lv_at hl 1 rfl) ?_
  refine lv_if_ne (tgt := 837) hx hb dL_law_822 (by decide) (fun c_822 => ?_) (fun c_822 => ?_)
  · skip
    refine lv_goto (tgt := 951) hx hb dL_law_837 (by decide) ?_
    refine lv_iinc (v := nI (3 * (jj + 1))) (lv' := [(4, .int (nI (3 * (jj + 1)))), (6, .int r2), (5, .int 1), (0, .ref b), (1, .ref (aG 0)), (2, .ref (aM 0)), (3, .ref oa)]) hx hb dL_law_951 hl (k := 2) rfl (nI_3 jj) (by decide) rfl (fun ls hl => ?_)
    refine lv_goto (tgt := 23) hx hb dL_law_954 (by decide) ?_
    refine W.widen (k := 14 + (jj + 1)) (n := 1295 + 6 * (jj + 1)) (by omega) (by omega) ?_
    exact ih d H _ ls hd ⟨K, g, r, f1, f2, dr, cl, tr, se, inf, ct, of, ro, fa, 1, ou, hI, hP, hD, hS, lv_sub hl [0, 3, 4, 5, 6] rfl⟩
  · skip
    exact absurd c_822 (by decide)
set_option maxHeartbeats 4000000 in
set_option maxRecDepth 100000 in
theorem law_16 {p : Program} {e : Env} {s : State} {m : MethodId} {below : List Frame} {meth : Method} {c : Code} (l : Launch) (hgl : l.stackTraces = false) {b L : Nat} {xs : Nat → Int32} (hL : L ≤ 1536) (C0 : lw_At p s m meth c b L xs) {dC : Nat → ClassId} {dI : Nat → Nat → Nat} {aG : Nat → Nat} {kG : Nat → ClassId} {aM : Nat → Nat} {kM : Nat → ClassId} {oa : Nat} {ok : ClassId} (hK : va_K (dC, dI) vwCl (gcT kG ++ (gmT kM ++ ([(ok, .long)]))) s) (hXA : gcXA (fun q : Nat => s.heap.size ≤ q) s) {jj : Nat} (hj : 3 * jj + 3 ≤ L) {d : Drawn} (hd : s.drawn.sameBut d lw_cs) {K : Bk} {g r : Nat} {f1 f2 dr cl tr se : Nat → Int32} {inf : Int32} {ct : Nat} {of ro fa : Nat → Int32} {th : Int32} {ou : Nat → Int64} (hI : Inv K g r f1 f2 inf dr cl se ct of) {H : Heap} {locs : List Loc} {ls : Array Slot} (hP : va_P (dC, dI) vwCl (gcW aG kG f1 f2 dr cl tr se (nI g) (nI r) inf (nI ct) ++ (gmW aM kM f1 f2 of ro fa th (nI g) (nI r) (-1) (-1) ++ ([(oa, .inl (ok, 1, .inr (.inl ou)))]))) H) (hD : va_D (fun q : Nat => s.heap.size ≤ q) (gcW aG kG f1 f2 dr cl tr se (nI g) (nI r) inf (nI ct) ++ (gmW aM kM f1 f2 of ro fa th (nI g) (nI r) (-1) (-1) ++ ([(oa, .inl (ok, 1, .inr (.inl ou)))])))) (hS : va_S (fun q : Nat => s.heap.size ≤ q) s.heap H locs) (hl : lv_has ls 9 [(4, .int (nI (3 * jj))), (0, .ref b), (1, .ref (aG 0)), (2, .ref (aM 0)), (3, .ref oa)]) (ih : ∀ (d1 : Drawn) (H1 : Heap) (locs1 : List Loc) (ls1 : Array Slot), s.drawn.sameBut d1 lw_cs → LSt dC dI s b aG kG aM kM oa ok (jj + 1) H1 locs1 ls1 → W p l e room_1 (s.setDrawn d1) m #[Value.ref b] below meth c H1 locs1 (14 + (jj + 1)) (1295 + 6 * (jj + 1)) (lw_Z below #[Value.ref b] s) (F0 m 23 ls1 [])) {w : Nat} (hw : w < 6) (h1 : xs (3 * jj + 1) = nI w) : W p l e room_1 (s.setDrawn d) m #[Value.ref b] below meth c H locs (14 + jj) (1295 + 6 * jj) (lw_Z below #[Value.ref b] s) (F0 m 840 ls []) := by
  obtain ⟨hx, hb, hr, hml, hown, hts0, hX, hbl, hlocks, hgv⟩ := C0
  have hown : s.vm.findClass RL = some m.cls := hown
  have hts1 : ∀ w ∈ wsL_law, w.before #[Value.ref b] s = true := fun w h => hts0 w (wsL_law_in w h)
  have hts := dr_words hts1 d
  have hA : ∀ q : Nat, s.heap.size ≤ q → (fun q : Nat => s.heap.size ≤ q) q := fun _ h => h
  have hbA : ¬ (fun q : Nat => s.heap.size ≤ q) b := Nat.not_le.mpr hbl
  obtain ⟨hg10, hr30, hOK, hz, hBk, hof, hDr, hCl, s0, hse, hct⟩ := id hI
  have hKd : va_K (dC, dI) vwCl (gcT kG ++ (gmT kM ++ ([(ok, .long)]))) (s.setDrawn d) := hK
  have hXd : va_X b L xs (s.setDrawn d) s.heap := hX
  have hKg := gOK_Kg hOK
  have hKr : K.1 ≤ 30 := by rw [hOK.1]; exact hr30
  have hLF : LF K g se ct := by rw [hse, hct]; exact LF_of hg10 hKg hCl s0
  have hc1024 : ct ≤ 1024 := hLF.2
  have hft : gFt cl g = decide (0 < ct) := by rw [hct]; exact ft_pos hg10 hKg hCl s0
  refine lv_aload_n hx hb dL_law_840 rfl (lv_at hl 2 rfl) ?_
  refine lv_aload_n hx hb dL_law_841 rfl (lv_at hl 1 rfl) ?_
  refine lv_iload hx hb dL_law_842 (lv_at hl 0 rfl) ?_
  refine lv_iconst (v := 1) hx hb dL_law_844 (by decide) ?_
  refine lv_iadd hx hb dL_law_845 ?_
  refine gc_topi (y := nI (3 * jj + 1)) (nI_add (3 * jj) 1) ?_
  refine va_sld hx hb hXd hbl hbA hS (vp_in_nI (n := (3 * jj + 1)) (by omega) (by omega)) dL_law_846 ?_
  rw [nI_clamp (n := (3 * jj + 1)) (by omega)]
  refine gc_topi (y := nI w) (h1) ?_
  refine lv_aload_n hx hb dL_law_847 rfl (lv_at hl 4 rfl) ?_
  have hPc : va_P (dC, dI) vwCl (gcW aG kG f1 f2 dr cl tr se (nI g) (nI r) inf (nI ct) ++ ([(oa, .inl (ok, 1, .inr (.inl ou)))])) _ := hP.sub [0, 1, 2, 3, 4, 5, 6, 13] rfl
  have hKc : va_K (dC, dI) vwCl (gcT kG ++ ([(ok, .long)])) s := hK.sub [0, 1, 2, 3, 4, 5, 11] rfl
  have hDc : va_D (fun q : Nat => s.heap.size ≤ q) (gcW aG kG f1 f2 dr cl tr se (nI g) (nI r) inf (nI ct) ++ ([(oa, .inl (ok, 1, .inr (.inl ou)))])) := hD.sub [0, 1, 2, 3, 4, 5, 6, 13] (by decide) rfl
  have hFc := va_free (wc := (gcW aG kG f1 f2 dr cl tr se (nI g) (nI r) inf (nI ct) ++ ([(oa, .inl (ok, 1, .inr (.inl ou)))]))) hD hS hA [0, 1, 2, 3, 4, 5, 6, 13] rfl
  refine va_calli (vx_runSW (As := [.ref (aG 0), .int (nI w), .ref oa]) (rest := []) ⟨hx, hb, hml, hown, hts⟩ (w_count l dC dI aG kG f1 f2 dr cl tr se g r inf ct oa ok ou w H.size (by first | assumption | omega) (by first | assumption | omega)) (vx_cwSW 3 hts gL_law_L_count rfl rfl rfl (by decide +kernel) ⟨Nat.le_of_ble_eq_true rfl, Nat.le_of_ble_eq_true rfl⟩) ⟨gcPM_blind, fun U hU hW => ⟨rfl, by rw [hU], by rw [hU]; exact hPc, va_K.moved hW.alike hKc, hDc.weaken (fun _ _ _ _ => trivial)⟩⟩ rfl rfl hl.1 rfl (lv_room (Nat.le_of_ble_eq_true rfl)) dL_law_848 ⟨show 14 + jj + 0 ≤ 1046 by omega, show 1295 + 6 * jj + 0 ≤ 9535 by omega⟩) hS (fun q _ h => hFc q h) hFc (fun r1 u t H locs ht hvm hw hB hz1 hk1 hS => ?_)
  obtain ⟨hP1, hD1⟩ := hB
  rw [ht] at hP1
  obtain ⟨hP, hD⟩ := va_join (wr := [(aM 0, .inr (1, [.int th, .int (nI g), .int (nI r), .ref (aM 1), .ref (aM 2), .ref (aM 3), .int (-1), .int (-1), .ref (aM 4), .ref (aM 5)])), (aM 1, .inl (kM 1, 30, .inl f1)), (aM 2, .inl (kM 2, 30, .inl f2)), (aM 3, .inl (kM 3, 30, .inl of)), (aM 4, .inl (kM 4, 20, .inl ro)), (aM 5, .inl (kM 5, 20, .inl fa))]) (w1 := (gcW aG kG f1 f2 dr cl tr se (nI g) (nI r) inf (nI ct) ++ ([(oa, .inl (ok, 1, .inr (.inl (vp_updL ou 0 ((gCo cl g r inf w).toInt64)))))]))) hP hD [0, 1, 2, 3, 4, 5, 6, 13] [7, 8, 9, 10, 11, 12] rfl rfl (by decide) (by decide) hk1 hFc hP1 hD1
  have hP : va_P (dC, dI) vwCl (gcW aG kG f1 f2 dr cl tr se (nI g) (nI r) inf (nI ct) ++ (gmW aM kM f1 f2 of ro fa th (nI g) (nI r) (-1) (-1) ++ ([(oa, .inl (ok, 1, .inr (.inl (vp_updL ou 0 ((gCo cl g r inf w).toInt64)))))]))) H := hP.sub [6, 7, 8, 9, 10, 11, 12, 0, 1, 2, 3, 4, 5, 13] rfl
  have hD : va_D (fun q : Nat => s.heap.size ≤ q) (gcW aG kG f1 f2 dr cl tr se (nI g) (nI r) inf (nI ct) ++ (gmW aM kM f1 f2 of ro fa th (nI g) (nI r) (-1) (-1) ++ ([(oa, .inl (ok, 1, .inr (.inl (vp_updL ou 0 ((gCo cl g r inf w).toInt64)))))]))) := hD.sub [6, 7, 8, 9, 10, 11, 12, 0, 1, 2, 3, 4, 5, 13] (by decide) rfl
  have hw : r1 = 0 := hw
  subst hw
  clear hw
  clear hz1 hk1 ht hvm hP1 hD1 hFc hDc
  clear hPc hKc
  refine lv_istore (lv' := [(5, .int 0), (4, .int (nI (3 * jj))), (0, .ref b), (1, .ref (aG 0)), (2, .ref (aM 0)), (3, .ref oa)]) hx hb dL_law_851 hl (by decide) rfl (fun ls hl => ?_)
  refine lv_aload_n hx hb dL_law_853 rfl (lv_at hl 4 rfl) ?_
  refine lv_aload_n hx hb dL_law_854 rfl (lv_at hl 2 rfl) ?_
  refine lv_iload hx hb dL_law_855 (lv_at hl 1 rfl) ?_
  refine lv_iconst (v := 1) hx hb dL_law_857 (by decide) ?_
  refine lv_iadd hx hb dL_law_858 ?_
  refine gc_topi (y := nI (3 * jj + 1)) (nI_add (3 * jj) 1) ?_
  refine va_sld hx hb hXd hbl hbA hS (vp_in_nI (n := (3 * jj + 1)) (by omega) (by omega)) dL_law_859 ?_
  rw [nI_clamp (n := (3 * jj + 1)) (by omega)]
  refine gc_topi (y := nI w) (h1) ?_
  have hPc : va_P (dC, dI) vwCl (gmW aM kM f1 f2 of ro fa th (nI g) (nI r) (-1) (-1)) _ := hP.sub [7, 8, 9, 10, 11, 12] rfl
  have hKc : va_K (dC, dI) vwCl (gmT kM) s := hK.sub [6, 7, 8, 9, 10] rfl
  have hDc : va_D (fun q : Nat => s.heap.size ≤ q) (gmW aM kM f1 f2 of ro fa th (nI g) (nI r) (-1) (-1)) := hD.sub [7, 8, 9, 10, 11, 12] (by decide) rfl
  have hFc := va_free (wc := (gmW aM kM f1 f2 of ro fa th (nI g) (nI r) (-1) (-1))) hD hS hA [7, 8, 9, 10, 11, 12] rfl
  refine va_calli (va_runV (As := [.int (nI w)]) (rest := []) ⟨hx, hb, hml, hown, hts⟩ (c_X1_count l dC dI aM kM f1 f2 of ro fa th g r (-1) (-1) K w H.size (by first | assumption | omega) (by first | assumption | omega) (by first | assumption | omega) (by first | assumption | omega)) (cwV 1 hts gL_law_X1_count rfl rfl rfl (by decide +kernel) ⟨Nat.le_of_ble_eq_true rfl, Nat.le_of_ble_eq_true rfl⟩) ⟨gcPM_blind, va_recv hK hP (ci := 1) (q0 := 7) rfl rfl, fun U hU hW => ⟨rfl, by rw [hU], by rw [hU]; exact hPc, va_K.moved hW.alike hKc, hDc.weaken (fun _ _ _ _ => trivial)⟩⟩ rfl rfl hl.1 rfl (lv_room (Nat.le_of_ble_eq_true rfl)) dL_law_860 ⟨show 14 + jj + 0 + 0 ≤ 1046 by omega, show 1295 + 6 * jj + 0 + 0 ≤ 9535 by omega⟩) hS (fun q _ h => hFc q h) hFc (fun r2 u t H locs ht hvm hw hB hz1 hk1 hS => ?_)
  obtain ⟨ro23, fa24⟩ := u
  obtain ⟨hP1, hD1⟩ := hB
  rw [ht] at hP1
  obtain ⟨hP, hD⟩ := va_join (wr := [(aG 0, .inr (0, [.ref (aG 1), .ref (aG 2), .ref (aG 3), .ref (aG 4), .ref (aG 5), .ref (aG 6), .int (nI g), .int (nI r), .int inf, .int (nI ct)])), (aG 1, .inl (kG 1, 30, .inl f1)), (aG 2, .inl (kG 2, 30, .inl f2)), (aG 3, .inl (kG 3, 20, .inl dr)), (aG 4, .inl (kG 4, 20, .inl cl)), (aG 5, .inl (kG 5, 20, .inl tr)), (aG 6, .inl (kG 6, 1024, .inl se)), (oa, .inl (ok, 1, .inr (.inl (vp_updL ou 0 ((gCo cl g r inf w).toInt64)))))]) (w1 := (gmW aM kM f1 f2 of ro23 fa24 0 (nI g) (nI r) (-1) (-1))) hP hD [7, 8, 9, 10, 11, 12] [0, 1, 2, 3, 4, 5, 6, 13] rfl rfl (by decide) (by decide) hk1 hFc hP1 hD1
  have hP : va_P (dC, dI) vwCl (gcW aG kG f1 f2 dr cl tr se (nI g) (nI r) inf (nI ct) ++ (gmW aM kM f1 f2 of ro23 fa24 0 (nI g) (nI r) (-1) (-1) ++ ([(oa, .inl (ok, 1, .inr (.inl (vp_updL ou 0 ((gCo cl g r inf w).toInt64)))))]))) H := hP.sub [0, 1, 2, 3, 4, 5, 6, 8, 9, 10, 11, 12, 13, 7] rfl
  have hD : va_D (fun q : Nat => s.heap.size ≤ q) (gcW aG kG f1 f2 dr cl tr se (nI g) (nI r) inf (nI ct) ++ (gmW aM kM f1 f2 of ro23 fa24 0 (nI g) (nI r) (-1) (-1) ++ ([(oa, .inl (ok, 1, .inr (.inl (vp_updL ou 0 ((gCo cl g r inf w).toInt64)))))]))) := hD.sub [0, 1, 2, 3, 4, 5, 6, 8, 9, 10, 11, 12, 13, 7] (by decide) rfl
  have hw : r2 = mCo K g r w := hw
  subst hw
  clear hw
  clear hz1 hk1 ht hvm hP1 hD1 hFc hDc
  clear hPc hKc
  refine lv_istore (lv' := [(6, .int (mCo K g r w)), (5, .int 0), (4, .int (nI (3 * jj))), (0, .ref b), (1, .ref (aG 0)), (2, .ref (aM 0)), (3, .ref oa)]) hx hb dL_law_863 hl (by decide) rfl (fun ls hl => ?_)
  refine lv_aload_n hx hb dL_law_865 rfl (lv_at hl 5 rfl) ?_
  have hPc : va_P (dC, dI) vwCl (gmW aM kM f1 f2 of ro23 fa24 0 (nI g) (nI r) (-1) (-1)) _ := hP.sub [7, 8, 9, 10, 11, 12] rfl
  have hKc : va_K (dC, dI) vwCl (gmT kM) s := hK.sub [6, 7, 8, 9, 10] rfl
  refine va_calli (va_runV (As := []) (rest := []) ⟨hx, hb, hml, hown, hts⟩ (c_X1_thrown l dC dI aM kM f1 f2 of ro23 fa24 0 g r (-1) (-1)) (cwV 0 hts gL_law_X1_thrown rfl rfl rfl (by decide +kernel) ⟨Nat.le_of_ble_eq_true rfl, Nat.le_of_ble_eq_true rfl⟩) ⟨gcPR_blind, va_recv hK hP (ci := 1) (q0 := 7) rfl rfl, fun U hU hW => ⟨rfl, by rw [hU]; exact hPc, va_K.moved hW.alike hKc⟩⟩ rfl rfl hl.1 rfl (lv_room (Nat.le_of_ble_eq_true rfl)) dL_law_866 ⟨show 14 + jj + 0 + 0 + 0 ≤ 1046 by omega, show 1295 + 6 * jj + 0 + 0 + 0 ≤ 9535 by omega⟩) hS (fun q _ h => h.elim) (fun q h => h.elim) (fun r5 u t H locs ht hvm hw hB hz1 hk1 hS => ?_)
  have hP := gc_keep hP hk1
  have hw : r5 = 0 := hw
  subst hw
  clear hw
  clear hB hz1 hk1 ht hvm
  clear hPc hKc
  refine lv_iload hx hb dL_law_869 (lv_at hl 1 rfl) ?_
  refine lv_icmp_eq (tgt := 876) hx hb dL_law_871 (by decide) (fun c_871 => ?_) (fun c_871 => absurd rfl c_871)
  refine lv_iload hx hb dL_law_876 (lv_at hl 1 rfl) ?_
  refine lv_if_ne (tgt := 893) hx hb dL_law_878 (by decide) (fun c_878 => ?_) (fun c_878 => ?_)
  · skip
    exact absurd (by decide) c_878
  · skip
    refine lv_aload_n hx hb dL_law_881 rfl (lv_at hl 6 rfl) ?_
    refine lv_iconst (v := 0) hx hb dL_law_882 (by decide) ?_
    refine va_lald hx hb hKd hP 13 11 rfl rfl gc_in01 dL_law_883 ?_
    refine gc_topl (y := ((gCo cl g r inf w).toInt64)) (by rw [sb_cl0]; exact pk_uLs) ?_
    refine gc_topl (y := (mCo K g r w).toInt64) (by rw [count_eq hOK hg10 hr30 hz hKg hCl hw]) ?_
    refine lv_iload hx hb dL_law_884 (lv_at hl 0 rfl) ?_
    refine lv_i2l hx hb dL_law_886 rfl ?_
    refine W.lcmp hx hb dL_law_887 ?_
    refine gc_topi (y := 0) ((lg_cmp_eq _ _).mpr rfl) ?_
    refine lv_if_eq (tgt := 893) hx hb dL_law_888 (by decide) (fun c_888 => ?_) (fun c_888 => ?_)
    · skip
      refine lv_goto (tgt := 951) hx hb dL_law_893 (by decide) ?_
      refine lv_iinc (v := nI (3 * (jj + 1))) (lv' := [(4, .int (nI (3 * (jj + 1)))), (6, .int (mCo K g r w)), (5, .int 0), (0, .ref b), (1, .ref (aG 0)), (2, .ref (aM 0)), (3, .ref oa)]) hx hb dL_law_951 hl (k := 2) rfl (nI_3 jj) (by decide) rfl (fun ls hl => ?_)
      refine lv_goto (tgt := 23) hx hb dL_law_954 (by decide) ?_
      refine W.widen (k := 14 + (jj + 1)) (n := 1295 + 6 * (jj + 1)) (by omega) (by omega) ?_
      exact ih d H _ ls hd ⟨K, g, r, f1, f2, dr, cl, tr, se, inf, ct, of, ro23, fa24, 0, (vp_updL ou 0 ((gCo cl g r inf w).toInt64)), hI, hP, hD, hS, lv_sub hl [0, 3, 4, 5, 6] rfl⟩
    · skip
      exact absurd (by decide) c_888
set_option maxHeartbeats 4000000 in
set_option maxRecDepth 100000 in
theorem law_16x {p : Program} {e : Env} {s : State} {m : MethodId} {below : List Frame} {meth : Method} {c : Code} (l : Launch) (hgl : l.stackTraces = false) {b L : Nat} {xs : Nat → Int32} (hL : L ≤ 1536) (C0 : lw_At p s m meth c b L xs) {dC : Nat → ClassId} {dI : Nat → Nat → Nat} {aG : Nat → Nat} {kG : Nat → ClassId} {aM : Nat → Nat} {kM : Nat → ClassId} {oa : Nat} {ok : ClassId} (hK : va_K (dC, dI) vwCl (gcT kG ++ (gmT kM ++ ([(ok, .long)]))) s) (hXA : gcXA (fun q : Nat => s.heap.size ≤ q) s) {jj : Nat} (hj : 3 * jj + 3 ≤ L) {d : Drawn} (hd : s.drawn.sameBut d lw_cs) {K : Bk} {g r : Nat} {f1 f2 dr cl tr se : Nat → Int32} {inf : Int32} {ct : Nat} {of ro fa : Nat → Int32} {th : Int32} {ou : Nat → Int64} (hI : Inv K g r f1 f2 inf dr cl se ct of) {H : Heap} {locs : List Loc} {ls : Array Slot} (hP : va_P (dC, dI) vwCl (gcW aG kG f1 f2 dr cl tr se (nI g) (nI r) inf (nI ct) ++ (gmW aM kM f1 f2 of ro fa th (nI g) (nI r) (-1) (-1) ++ ([(oa, .inl (ok, 1, .inr (.inl ou)))]))) H) (hD : va_D (fun q : Nat => s.heap.size ≤ q) (gcW aG kG f1 f2 dr cl tr se (nI g) (nI r) inf (nI ct) ++ (gmW aM kM f1 f2 of ro fa th (nI g) (nI r) (-1) (-1) ++ ([(oa, .inl (ok, 1, .inr (.inl ou)))])))) (hS : va_S (fun q : Nat => s.heap.size ≤ q) s.heap H locs) (hl : lv_has ls 9 [(4, .int (nI (3 * jj))), (0, .ref b), (1, .ref (aG 0)), (2, .ref (aM 0)), (3, .ref oa)]) (ih : ∀ (d1 : Drawn) (H1 : Heap) (locs1 : List Loc) (ls1 : Array Slot), s.drawn.sameBut d1 lw_cs → LSt dC dI s b aG kG aM kM oa ok (jj + 1) H1 locs1 ls1 → W p l e room_1 (s.setDrawn d1) m #[Value.ref b] below meth c H1 locs1 (14 + (jj + 1)) (1295 + 6 * (jj + 1)) (lw_Z below #[Value.ref b] s) (F0 m 23 ls1 [])) (hno : ∀ q : Nat, q < 6 → xs (3 * jj + 1) ≠ nI q) : W p l e room_1 (s.setDrawn d) m #[Value.ref b] below meth c H locs (14 + jj) (1295 + 6 * jj) (lw_Z below #[Value.ref b] s) (F0 m 840 ls []) := by
  obtain ⟨hx, hb, hr, hml, hown, hts0, hX, hbl, hlocks, hgv⟩ := C0
  have hown : s.vm.findClass RL = some m.cls := hown
  have hts1 : ∀ w ∈ wsL_law, w.before #[Value.ref b] s = true := fun w h => hts0 w (wsL_law_in w h)
  have hts := dr_words hts1 d
  have hA : ∀ q : Nat, s.heap.size ≤ q → (fun q : Nat => s.heap.size ≤ q) q := fun _ h => h
  have hbA : ¬ (fun q : Nat => s.heap.size ≤ q) b := Nat.not_le.mpr hbl
  obtain ⟨hg10, hr30, hOK, hz, hBk, hof, hDr, hCl, s0, hse, hct⟩ := id hI
  have hKd : va_K (dC, dI) vwCl (gcT kG ++ (gmT kM ++ ([(ok, .long)]))) (s.setDrawn d) := hK
  have hXd : va_X b L xs (s.setDrawn d) s.heap := hX
  have hKg := gOK_Kg hOK
  have hKr : K.1 ≤ 30 := by rw [hOK.1]; exact hr30
  have hLF : LF K g se ct := by rw [hse, hct]; exact LF_of hg10 hKg hCl s0
  have hc1024 : ct ≤ 1024 := hLF.2
  have hft : gFt cl g = decide (0 < ct) := by rw [hct]; exact ft_pos hg10 hKg hCl s0
  refine lv_aload_n hx hb dL_law_840 rfl (lv_at hl 2 rfl) ?_
  refine lv_aload_n hx hb dL_law_841 rfl (lv_at hl 1 rfl) ?_
  refine lv_iload hx hb dL_law_842 (lv_at hl 0 rfl) ?_
  refine lv_iconst (v := 1) hx hb dL_law_844 (by decide) ?_
  refine lv_iadd hx hb dL_law_845 ?_
  refine gc_topi (y := nI (3 * jj + 1)) (nI_add (3 * jj) 1) ?_
  refine va_sld hx hb hXd hbl hbA hS (vp_in_nI (n := (3 * jj + 1)) (by omega) (by omega)) dL_law_846 ?_
  rw [nI_clamp (n := (3 * jj + 1)) (by omega)]
  refine lv_aload_n hx hb dL_law_847 rfl (lv_at hl 4 rfl) ?_
  have hPc : va_P (dC, dI) vwCl (gcW aG kG f1 f2 dr cl tr se (nI g) (nI r) inf (nI ct) ++ ([(oa, .inl (ok, 1, .inr (.inl ou)))])) _ := hP.sub [0, 1, 2, 3, 4, 5, 6, 13] rfl
  have hKc : va_K (dC, dI) vwCl (gcT kG ++ ([(ok, .long)])) s := hK.sub [0, 1, 2, 3, 4, 5, 11] rfl
  have hDc : va_D (fun q : Nat => s.heap.size ≤ q) (gcW aG kG f1 f2 dr cl tr se (nI g) (nI r) inf (nI ct) ++ ([(oa, .inl (ok, 1, .inr (.inl ou)))])) := hD.sub [0, 1, 2, 3, 4, 5, 6, 13] (by decide) rfl
  have hFc := va_free (wc := (gcW aG kG f1 f2 dr cl tr se (nI g) (nI r) inf (nI ct) ++ ([(oa, .inl (ok, 1, .inr (.inl ou)))]))) hD hS hA [0, 1, 2, 3, 4, 5, 6, 13] rfl
  refine va_calli (vx_runSW (As := [.ref (aG 0), .int (xs (3 * jj + 1)), .ref oa]) (rest := []) ⟨hx, hb, hml, hown, hts⟩ (wx_count l hgl dC dI aG kG f1 f2 dr cl tr se g r inf ct oa ok ou (xs (3 * jj + 1)) H.size (by first | exact hno | exact Or.inl hno | exact Or.inr hno)) (vx_cwSW 3 hts gL_law_L_count rfl rfl rfl (by decide +kernel) ⟨Nat.le_of_ble_eq_true rfl, Nat.le_of_ble_eq_true rfl⟩) ⟨gcPN_blind, fun U hU hW => ⟨rfl, by rw [hU], by rw [hU]; exact hPc, va_K.moved hW.alike hKc, hDc.weaken (fun _ _ _ _ => trivial), gcXA_go hXA hS hU hW⟩⟩ rfl rfl hl.1 rfl (lv_room (Nat.le_of_ble_eq_true rfl)) dL_law_848 ⟨show 14 + jj + 1 ≤ 1046 by omega, show 1295 + 6 * jj + 6 ≤ 9535 by omega⟩) hS (fun q _ h => hFc q h) hFc (fun r1 u t H locs ht hvm hw hB hz1 hk1 hS => ?_)
  obtain ⟨hP1, hD1⟩ := hB
  rw [ht] at hP1
  obtain ⟨hP, hD⟩ := va_join (wr := [(aM 0, .inr (1, [.int th, .int (nI g), .int (nI r), .ref (aM 1), .ref (aM 2), .ref (aM 3), .int (-1), .int (-1), .ref (aM 4), .ref (aM 5)])), (aM 1, .inl (kM 1, 30, .inl f1)), (aM 2, .inl (kM 2, 30, .inl f2)), (aM 3, .inl (kM 3, 30, .inl of)), (aM 4, .inl (kM 4, 20, .inl ro)), (aM 5, .inl (kM 5, 20, .inl fa))]) (w1 := (gcW aG kG f1 f2 dr cl tr se (nI g) (nI r) inf (nI ct) ++ ([(oa, .inl (ok, 1, .inr (.inl ou)))]))) hP hD [0, 1, 2, 3, 4, 5, 6, 13] [7, 8, 9, 10, 11, 12] rfl rfl (by decide) (by decide) hk1 hFc hP1 hD1
  have hP : va_P (dC, dI) vwCl (gcW aG kG f1 f2 dr cl tr se (nI g) (nI r) inf (nI ct) ++ (gmW aM kM f1 f2 of ro fa th (nI g) (nI r) (-1) (-1) ++ ([(oa, .inl (ok, 1, .inr (.inl ou)))]))) H := hP.sub [6, 7, 8, 9, 10, 11, 12, 0, 1, 2, 3, 4, 5, 13] rfl
  have hD : va_D (fun q : Nat => s.heap.size ≤ q) (gcW aG kG f1 f2 dr cl tr se (nI g) (nI r) inf (nI ct) ++ (gmW aM kM f1 f2 of ro fa th (nI g) (nI r) (-1) (-1) ++ ([(oa, .inl (ok, 1, .inr (.inl ou)))]))) := hD.sub [6, 7, 8, 9, 10, 11, 12, 0, 1, 2, 3, 4, 5, 13] (by decide) rfl
  have hw : r1 = 1 := hw
  subst hw
  clear hw
  clear hz1 hk1 ht hvm hP1 hD1 hFc hDc
  clear hPc hKc
  refine lv_istore (lv' := [(5, .int 1), (4, .int (nI (3 * jj))), (0, .ref b), (1, .ref (aG 0)), (2, .ref (aM 0)), (3, .ref oa)]) hx hb dL_law_851 hl (by decide) rfl (fun ls hl => ?_)
  refine lv_aload_n hx hb dL_law_853 rfl (lv_at hl 4 rfl) ?_
  refine lv_aload_n hx hb dL_law_854 rfl (lv_at hl 2 rfl) ?_
  refine lv_iload hx hb dL_law_855 (lv_at hl 1 rfl) ?_
  refine lv_iconst (v := 1) hx hb dL_law_857 (by decide) ?_
  refine lv_iadd hx hb dL_law_858 ?_
  refine gc_topi (y := nI (3 * jj + 1)) (nI_add (3 * jj) 1) ?_
  refine va_sld hx hb hXd hbl hbA hS (vp_in_nI (n := (3 * jj + 1)) (by omega) (by omega)) dL_law_859 ?_
  rw [nI_clamp (n := (3 * jj + 1)) (by omega)]
  have hPc : va_P (dC, dI) vwCl (gmW aM kM f1 f2 of ro fa th (nI g) (nI r) (-1) (-1)) _ := hP.sub [7, 8, 9, 10, 11, 12] rfl
  have hKc : va_K (dC, dI) vwCl (gmT kM) s := hK.sub [6, 7, 8, 9, 10] rfl
  have hDc : va_D (fun q : Nat => s.heap.size ≤ q) (gmW aM kM f1 f2 of ro fa th (nI g) (nI r) (-1) (-1)) := hD.sub [7, 8, 9, 10, 11, 12] (by decide) rfl
  have hFc := va_free (wc := (gmW aM kM f1 f2 of ro fa th (nI g) (nI r) (-1) (-1))) hD hS hA [7, 8, 9, 10, 11, 12] rfl
  refine va_calli (va_runV (As := [.int (xs (3 * jj + 1))]) (rest := []) ⟨hx, hb, hml, hown, hts⟩ (c_X1_count_no l dC dI aM kM f1 f2 of ro fa th g r (-1) (-1) (xs (3 * jj + 1)) H.size (by first | exact hno | exact Or.inl hno | exact Or.inr hno)) (cwV 1 hts gL_law_X1_count rfl rfl rfl (by decide +kernel) ⟨Nat.le_of_ble_eq_true rfl, Nat.le_of_ble_eq_true rfl⟩) ⟨gcPM_blind, va_recv hK hP (ci := 1) (q0 := 7) rfl rfl, fun U hU hW => ⟨rfl, by rw [hU], by rw [hU]; exact hPc, va_K.moved hW.alike hKc, hDc.weaken (fun _ _ _ _ => trivial)⟩⟩ rfl rfl hl.1 rfl (lv_room (Nat.le_of_ble_eq_true rfl)) dL_law_860 ⟨show 14 + jj + 1 + 0 ≤ 1046 by omega, show 1295 + 6 * jj + 6 + 0 ≤ 9535 by omega⟩) hS (fun q _ h => hFc q h) hFc (fun r2 u t H locs ht hvm hw hB hz1 hk1 hS => ?_)
  obtain ⟨hP1, hD1⟩ := hB
  rw [ht] at hP1
  obtain ⟨hP, hD⟩ := va_join (wr := [(aG 0, .inr (0, [.ref (aG 1), .ref (aG 2), .ref (aG 3), .ref (aG 4), .ref (aG 5), .ref (aG 6), .int (nI g), .int (nI r), .int inf, .int (nI ct)])), (aG 1, .inl (kG 1, 30, .inl f1)), (aG 2, .inl (kG 2, 30, .inl f2)), (aG 3, .inl (kG 3, 20, .inl dr)), (aG 4, .inl (kG 4, 20, .inl cl)), (aG 5, .inl (kG 5, 20, .inl tr)), (aG 6, .inl (kG 6, 1024, .inl se)), (oa, .inl (ok, 1, .inr (.inl ou)))]) (w1 := (gmW aM kM f1 f2 of ro fa 1 (nI g) (nI r) (-1) (-1))) hP hD [7, 8, 9, 10, 11, 12] [0, 1, 2, 3, 4, 5, 6, 13] rfl rfl (by decide) (by decide) hk1 hFc hP1 hD1
  have hP : va_P (dC, dI) vwCl (gcW aG kG f1 f2 dr cl tr se (nI g) (nI r) inf (nI ct) ++ (gmW aM kM f1 f2 of ro fa 1 (nI g) (nI r) (-1) (-1) ++ ([(oa, .inl (ok, 1, .inr (.inl ou)))]))) H := hP.sub [0, 1, 2, 3, 4, 5, 6, 8, 9, 10, 11, 12, 13, 7] rfl
  have hD : va_D (fun q : Nat => s.heap.size ≤ q) (gcW aG kG f1 f2 dr cl tr se (nI g) (nI r) inf (nI ct) ++ (gmW aM kM f1 f2 of ro fa 1 (nI g) (nI r) (-1) (-1) ++ ([(oa, .inl (ok, 1, .inr (.inl ou)))]))) := hD.sub [0, 1, 2, 3, 4, 5, 6, 8, 9, 10, 11, 12, 13, 7] (by decide) rfl
  have hw_860 : True := hw
  clear hz1 hk1 ht hvm hP1 hD1 hFc hDc
  clear hPc hKc
  refine lv_istore (lv' := [(6, .int r2), (5, .int 1), (4, .int (nI (3 * jj))), (0, .ref b), (1, .ref (aG 0)), (2, .ref (aM 0)), (3, .ref oa)]) hx hb dL_law_863 hl (by decide) rfl (fun ls hl => ?_)
  refine lv_aload_n hx hb dL_law_865 rfl (lv_at hl 5 rfl) ?_
  have hPc : va_P (dC, dI) vwCl (gmW aM kM f1 f2 of ro fa 1 (nI g) (nI r) (-1) (-1)) _ := hP.sub [7, 8, 9, 10, 11, 12] rfl
  have hKc : va_K (dC, dI) vwCl (gmT kM) s := hK.sub [6, 7, 8, 9, 10] rfl
  refine va_calli (va_runV (As := []) (rest := []) ⟨hx, hb, hml, hown, hts⟩ (c_X1_thrown l dC dI aM kM f1 f2 of ro fa 1 g r (-1) (-1)) (cwV 0 hts gL_law_X1_thrown rfl rfl rfl (by decide +kernel) ⟨Nat.le_of_ble_eq_true rfl, Nat.le_of_ble_eq_true rfl⟩) ⟨gcPR_blind, va_recv hK hP (ci := 1) (q0 := 7) rfl rfl, fun U hU hW => ⟨rfl, by rw [hU]; exact hPc, va_K.moved hW.alike hKc⟩⟩ rfl rfl hl.1 rfl (lv_room (Nat.le_of_ble_eq_true rfl)) dL_law_866 ⟨show 14 + jj + 1 + 0 + 0 ≤ 1046 by omega, show 1295 + 6 * jj + 6 + 0 + 0 ≤ 9535 by omega⟩) hS (fun q _ h => h.elim) (fun q h => h.elim) (fun r3 u t H locs ht hvm hw hB hz1 hk1 hS => ?_)
  have hP := gc_keep hP hk1
  have hw : r3 = 1 := hw
  subst hw
  clear hw
  clear hB hz1 hk1 ht hvm
  clear hPc hKc
  refine lv_iload hx hb dL_law_869 (lv_at hl 1 rfl) ?_
  refine lv_icmp_eq (tgt := 876) hx hb dL_law_871 (by decide) (fun c_871 => ?_) (fun c_871 => absurd rfl c_871)
  refine lv_iload hx hb dL_law_876 (lv_at hl 1 rfl) ?_
  refine lv_if_ne (tgt := 893) hx hb dL_law_878 (by decide) (fun c_878 => ?_) (fun c_878 => ?_)
  · skip
    refine lv_goto (tgt := 951) hx hb dL_law_893 (by decide) ?_
    refine lv_iinc (v := nI (3 * (jj + 1))) (lv' := [(4, .int (nI (3 * (jj + 1)))), (6, .int r2), (5, .int 1), (0, .ref b), (1, .ref (aG 0)), (2, .ref (aM 0)), (3, .ref oa)]) hx hb dL_law_951 hl (k := 2) rfl (nI_3 jj) (by decide) rfl (fun ls hl => ?_)
    refine lv_goto (tgt := 23) hx hb dL_law_954 (by decide) ?_
    refine W.widen (k := 14 + (jj + 1)) (n := 1295 + 6 * (jj + 1)) (by omega) (by omega) ?_
    exact ih d H _ ls hd ⟨K, g, r, f1, f2, dr, cl, tr, se, inf, ct, of, ro, fa, 1, ou, hI, hP, hD, hS, lv_sub hl [0, 3, 4, 5, 6] rfl⟩
  · skip
    exact absurd c_878 (by decide)
set_option maxHeartbeats 4000000 in
set_option maxRecDepth 100000 in
theorem law_17 {p : Program} {e : Env} {s : State} {m : MethodId} {below : List Frame} {meth : Method} {c : Code} (l : Launch) (hgl : l.stackTraces = false) {b L : Nat} {xs : Nat → Int32} (hL : L ≤ 1536) (C0 : lw_At p s m meth c b L xs) {dC : Nat → ClassId} {dI : Nat → Nat → Nat} {aG : Nat → Nat} {kG : Nat → ClassId} {aM : Nat → Nat} {kM : Nat → ClassId} {oa : Nat} {ok : ClassId} (hK : va_K (dC, dI) vwCl (gcT kG ++ (gmT kM ++ ([(ok, .long)]))) s) (hXA : gcXA (fun q : Nat => s.heap.size ≤ q) s) {jj : Nat} (hj : 3 * jj + 3 ≤ L) {d : Drawn} (hd : s.drawn.sameBut d lw_cs) {K : Bk} {g r : Nat} {f1 f2 dr cl tr se : Nat → Int32} {inf : Int32} {ct : Nat} {of ro fa : Nat → Int32} {th : Int32} {ou : Nat → Int64} (hI : Inv K g r f1 f2 inf dr cl se ct of) {H : Heap} {locs : List Loc} {ls : Array Slot} (hP : va_P (dC, dI) vwCl (gcW aG kG f1 f2 dr cl tr se (nI g) (nI r) inf (nI ct) ++ (gmW aM kM f1 f2 of ro fa th (nI g) (nI r) (-1) (-1) ++ ([(oa, .inl (ok, 1, .inr (.inl ou)))]))) H) (hD : va_D (fun q : Nat => s.heap.size ≤ q) (gcW aG kG f1 f2 dr cl tr se (nI g) (nI r) inf (nI ct) ++ (gmW aM kM f1 f2 of ro fa th (nI g) (nI r) (-1) (-1) ++ ([(oa, .inl (ok, 1, .inr (.inl ou)))])))) (hS : va_S (fun q : Nat => s.heap.size ≤ q) s.heap H locs) (hl : lv_has ls 9 [(4, .int (nI (3 * jj))), (0, .ref b), (1, .ref (aG 0)), (2, .ref (aM 0)), (3, .ref oa)]) (ih : ∀ (d1 : Drawn) (H1 : Heap) (locs1 : List Loc) (ls1 : Array Slot), s.drawn.sameBut d1 lw_cs → LSt dC dI s b aG kG aM kM oa ok (jj + 1) H1 locs1 ls1 → W p l e room_1 (s.setDrawn d1) m #[Value.ref b] below meth c H1 locs1 (14 + (jj + 1)) (1295 + 6 * (jj + 1)) (lw_Z below #[Value.ref b] s) (F0 m 23 ls1 []))  : W p l e room_1 (s.setDrawn d) m #[Value.ref b] below meth c H locs (14 + jj) (1295 + 6 * jj) (lw_Z below #[Value.ref b] s) (F0 m 896 ls []) := by
  obtain ⟨hx, hb, hr, hml, hown, hts0, hX, hbl, hlocks, hgv⟩ := C0
  have hown : s.vm.findClass RL = some m.cls := hown
  have hts1 : ∀ w ∈ wsL_law, w.before #[Value.ref b] s = true := fun w h => hts0 w (wsL_law_in w h)
  have hts := dr_words hts1 d
  have hA : ∀ q : Nat, s.heap.size ≤ q → (fun q : Nat => s.heap.size ≤ q) q := fun _ h => h
  have hbA : ¬ (fun q : Nat => s.heap.size ≤ q) b := Nat.not_le.mpr hbl
  obtain ⟨hg10, hr30, hOK, hz, hBk, hof, hDr, hCl, s0, hse, hct⟩ := id hI
  have hKd : va_K (dC, dI) vwCl (gcT kG ++ (gmT kM ++ ([(ok, .long)]))) (s.setDrawn d) := hK
  have hXd : va_X b L xs (s.setDrawn d) s.heap := hX
  have hKg := gOK_Kg hOK
  have hKr : K.1 ≤ 30 := by rw [hOK.1]; exact hr30
  have hLF : LF K g se ct := by rw [hse, hct]; exact LF_of hg10 hKg hCl s0
  have hc1024 : ct ≤ 1024 := hLF.2
  have hft : gFt cl g = decide (0 < ct) := by rw [hct]; exact ft_pos hg10 hKg hCl s0
  refine lv_aload_n hx hb dL_law_896 rfl (lv_at hl 2 rfl) ?_
  have hPc : va_P (dC, dI) vwCl (gcW aG kG f1 f2 dr cl tr se (nI g) (nI r) inf (nI ct)) _ := hP.sub [0, 1, 2, 3, 4, 5, 6] rfl
  have hKc : va_K (dC, dI) vwCl (gcT kG) s := hK.sub [0, 1, 2, 3, 4, 5] rfl
  refine va_calldD hd (va_runV_D (As := []) (rest := []) ⟨hx, hb, hml, hown, hts⟩ (c_X0_mean l dC dI aG kG f1 f2 dr cl tr se g r inf ct (by first | assumption | omega)) (cwV 0 hts gL_law_X0_mean rfl rfl rfl (by decide +kernel) ⟨Nat.le_of_ble_eq_true rfl, Nat.le_of_ble_eq_true rfl⟩) ⟨gcPR_blind, va_recv hK hP (ci := 0) (q0 := 0) rfl rfl, fun U hU hW => ⟨rfl, by rw [hU]; exact hPc, va_K.moved hW.alike hKc⟩⟩ rfl rfl hl.1 rfl (lv_room (Nat.le_of_ble_eq_true rfl)) dL_law_897 ⟨show 14 + jj + 0 ≤ 1046 by omega, show 1295 + 6 * jj + 0 ≤ 9535 by omega⟩) hS (fun q _ h => h.elim) (fun q h => h.elim) (fun r1 u t H locs ht hvm hw hB hz1 hk1 hS d897 hd897 => ?_)
  have hP := gc_keep hP hk1
  have hw_897 : alike64 r1 (gMv (gSu se ct) (nI ct)) = true := hw
  clear hB hz1 hk1 ht hvm
  clear hPc hKc
  have hts := dr_words hts1 d897
  rw [mean_eq hg10 hKg hKr hLF, all_eq hg10 hKg hKr hLF] at hw_897
  refine lv_dstore (lv' := [(5, .double r1), (4, .int (nI (3 * jj))), (0, .ref b), (1, .ref (aG 0)), (2, .ref (aM 0)), (3, .ref oa)]) hx hb dL_law_900 hl (by decide) rfl (fun ls hl => ?_)
  refine lv_aload_n hx hb dL_law_902 rfl (lv_at hl 4 rfl) ?_
  have hPc : va_P (dC, dI) vwCl (gmW aM kM f1 f2 of ro fa th (nI g) (nI r) (-1) (-1)) _ := hP.sub [7, 8, 9, 10, 11, 12] rfl
  have hKc : va_K (dC, dI) vwCl (gmT kM) s := hK.sub [6, 7, 8, 9, 10] rfl
  have hDc : va_D (fun q : Nat => s.heap.size ≤ q) (gmW aM kM f1 f2 of ro fa th (nI g) (nI r) (-1) (-1)) := hD.sub [7, 8, 9, 10, 11, 12] (by decide) rfl
  have hFc := va_free (wc := (gmW aM kM f1 f2 of ro fa th (nI g) (nI r) (-1) (-1))) hD hS hA [7, 8, 9, 10, 11, 12] rfl
  refine va_calldD hd897 (va_runV_D (As := []) (rest := []) ⟨hx, hb, hml, hown, hts⟩ (c_X1_mean l dC dI aM kM f1 f2 of ro fa th g r (-1) (-1) K H.size (by first | assumption | omega) (by first | assumption | omega) (by first | assumption | omega)) (cwV 0 hts gL_law_X1_mean rfl rfl rfl (by decide +kernel) ⟨Nat.le_of_ble_eq_true rfl, Nat.le_of_ble_eq_true rfl⟩) ⟨gcPM_blind, va_recv hK hP (ci := 1) (q0 := 7) rfl rfl, fun U hU hW => ⟨rfl, by rw [hU], by rw [hU]; exact hPc, va_K.moved hW.alike hKc, hDc.weaken (fun _ _ _ _ => trivial)⟩⟩ rfl rfl hl.1 rfl (lv_room (Nat.le_of_ble_eq_true rfl)) dL_law_903 ⟨show 14 + jj + 0 + 0 ≤ 1046 by omega, show 1295 + 6 * jj + 0 + 0 ≤ 9535 by omega⟩) hS (fun q _ h => hFc q h) hFc (fun r2 u t H locs ht hvm hw hB hz1 hk1 hS d903 hd903 => ?_)
  obtain ⟨hP1, hD1⟩ := hB
  rw [ht] at hP1
  obtain ⟨hP, hD⟩ := va_join (wr := [(aG 0, .inr (0, [.ref (aG 1), .ref (aG 2), .ref (aG 3), .ref (aG 4), .ref (aG 5), .ref (aG 6), .int (nI g), .int (nI r), .int inf, .int (nI ct)])), (aG 1, .inl (kG 1, 30, .inl f1)), (aG 2, .inl (kG 2, 30, .inl f2)), (aG 3, .inl (kG 3, 20, .inl dr)), (aG 4, .inl (kG 4, 20, .inl cl)), (aG 5, .inl (kG 5, 20, .inl tr)), (aG 6, .inl (kG 6, 1024, .inl se)), (oa, .inl (ok, 1, .inr (.inl ou)))]) (w1 := (gmW aM kM f1 f2 of ro fa 0 (nI g) (nI r) (-1) (-1))) hP hD [7, 8, 9, 10, 11, 12] [0, 1, 2, 3, 4, 5, 6, 13] rfl rfl (by decide) (by decide) hk1 hFc hP1 hD1
  have hP : va_P (dC, dI) vwCl (gcW aG kG f1 f2 dr cl tr se (nI g) (nI r) inf (nI ct) ++ (gmW aM kM f1 f2 of ro fa 0 (nI g) (nI r) (-1) (-1) ++ ([(oa, .inl (ok, 1, .inr (.inl ou)))]))) H := hP.sub [0, 1, 2, 3, 4, 5, 6, 8, 9, 10, 11, 12, 13, 7] rfl
  have hD : va_D (fun q : Nat => s.heap.size ≤ q) (gcW aG kG f1 f2 dr cl tr se (nI g) (nI r) inf (nI ct) ++ (gmW aM kM f1 f2 of ro fa 0 (nI g) (nI r) (-1) (-1) ++ ([(oa, .inl (ok, 1, .inr (.inl ou)))]))) := hD.sub [0, 1, 2, 3, 4, 5, 6, 8, 9, 10, 11, 12, 13, 7] (by decide) rfl
  have hw_903 : alike64 r2 (gMv (mSu K (-1) (-1) (2 ^ g)) (mAll K (-1) (-1) g)) = true := hw
  clear hz1 hk1 ht hvm hP1 hD1 hFc hDc
  clear hPc hKc
  have hts := dr_words hts1 d903
  refine lv_dstore (lv' := [(7, .double r2), (5, .double r1), (4, .int (nI (3 * jj))), (0, .ref b), (1, .ref (aG 0)), (2, .ref (aM 0)), (3, .ref oa)]) hx hb dL_law_906 hl (by decide) rfl (fun ls hl => ?_)
  refine lv_dload hx hb dL_law_908 (lv_at hl 1 rfl) ?_
  refine lv_dload hx hb dL_law_910 (lv_at hl 0 rfl) ?_
  rcases alike_two hw_897 hw_903 with hpq | ⟨hp1, hp2⟩
  · skip
    subst hpq
    refine lv_dcmp hx hb dL_law_912 ?_
    obtain ⟨vv, hvv⟩ : ∃ z, z = Op.cmpValue (FP.dcmp r1 r1) CmpOp.l := ⟨_, rfl⟩
    rw [← hvv]
    refine lv_if_eq (tgt := 934) hx hb dL_law_913 (by decide) (fun c_913 => ?_) (fun c_913 => ?_)
    · skip
      refine lv_goto (tgt := 951) hx hb dL_law_934 (by decide) ?_
      refine lv_iinc (v := nI (3 * (jj + 1))) (lv' := [(4, .int (nI (3 * (jj + 1)))), (7, .double r1), (5, .double r1), (0, .ref b), (1, .ref (aG 0)), (2, .ref (aM 0)), (3, .ref oa)]) hx hb dL_law_951 hl (k := 2) rfl (nI_3 jj) (by decide) rfl (fun ls hl => ?_)
      refine lv_goto (tgt := 23) hx hb dL_law_954 (by decide) ?_
      refine W.widen (k := 14 + (jj + 1)) (n := 1295 + 6 * (jj + 1)) (by omega) (by omega) ?_
      exact ih d903 H _ ls hd903 ⟨K, g, r, f1, f2, dr, cl, tr, se, inf, ct, of, ro, fa, 0, ou, hI, hP, hD, hS, lv_sub hl [0, 3, 4, 5, 6] rfl⟩
    · skip
      refine lv_dload hx hb dL_law_916 (lv_at hl 1 rfl) ?_
      refine lv_dload hx hb dL_law_918 (lv_at hl 1 rfl) ?_
      refine lv_dcmp hx hb dL_law_920 ?_
      rw [← hvv]
      refine lv_if_eq (tgt := 932) hx hb dL_law_921 (by decide) (fun h => absurd h c_913) (fun _ => ?_)
      refine lv_dload hx hb dL_law_924 (lv_at hl 0 rfl) ?_
      refine lv_dload hx hb dL_law_926 (lv_at hl 0 rfl) ?_
      refine lv_dcmp hx hb dL_law_928 ?_
      rw [← hvv]
      refine lv_if_ne (tgt := 934) hx hb dL_law_929 (by decide) (fun _ => ?_) (fun h => absurd h c_913)
      refine lv_goto (tgt := 951) hx hb dL_law_934 (by decide) ?_
      refine lv_iinc (v := nI (3 * (jj + 1))) (lv' := [(4, .int (nI (3 * (jj + 1)))), (7, .double r1), (5, .double r1), (0, .ref b), (1, .ref (aG 0)), (2, .ref (aM 0)), (3, .ref oa)]) hx hb dL_law_951 hl (k := 2) rfl (nI_3 jj) (by decide) rfl (fun ls hl => ?_)
      refine lv_goto (tgt := 23) hx hb dL_law_954 (by decide) ?_
      refine W.widen (k := 14 + (jj + 1)) (n := 1295 + 6 * (jj + 1)) (by omega) (by omega) ?_
      exact ih d903 H _ ls hd903 ⟨K, g, r, f1, f2, dr, cl, tr, se, inf, ct, of, ro, fa, 0, ou, hI, hP, hD, hS, lv_sub hl [0, 3, 4, 5, 6] rfl⟩
  · skip
    refine lv_dcmp hx hb dL_law_912 ?_
    refine lv_if_eq (tgt := 934) hx hb dL_law_913 (by decide) (fun h => absurd h (nan_cmp hp1)) (fun _ => ?_)
    refine lv_dload hx hb dL_law_916 (lv_at hl 1 rfl) ?_
    refine lv_dload hx hb dL_law_918 (lv_at hl 1 rfl) ?_
    refine lv_dcmp hx hb dL_law_920 ?_
    refine lv_if_eq (tgt := 932) hx hb dL_law_921 (by decide) (fun h => absurd h (nan_cmp hp1)) (fun _ => ?_)
    refine lv_dload hx hb dL_law_924 (lv_at hl 0 rfl) ?_
    refine lv_dload hx hb dL_law_926 (lv_at hl 0 rfl) ?_
    refine lv_dcmp hx hb dL_law_928 ?_
    refine lv_if_ne (tgt := 934) hx hb dL_law_929 (by decide) (fun _ => ?_) (fun h => absurd h (nan_cmp hp2))
    refine lv_goto (tgt := 951) hx hb dL_law_934 (by decide) ?_
    refine lv_iinc (v := nI (3 * (jj + 1))) (lv' := [(4, .int (nI (3 * (jj + 1)))), (7, .double r2), (5, .double r1), (0, .ref b), (1, .ref (aG 0)), (2, .ref (aM 0)), (3, .ref oa)]) hx hb dL_law_951 hl (k := 2) rfl (nI_3 jj) (by decide) rfl (fun ls hl => ?_)
    refine lv_goto (tgt := 23) hx hb dL_law_954 (by decide) ?_
    refine W.widen (k := 14 + (jj + 1)) (n := 1295 + 6 * (jj + 1)) (by omega) (by omega) ?_
    exact ih d903 H _ ls hd903 ⟨K, g, r, f1, f2, dr, cl, tr, se, inf, ct, of, ro, fa, 0, ou, hI, hP, hD, hS, lv_sub hl [0, 3, 4, 5, 6] rfl⟩
set_option maxHeartbeats 4000000 in
set_option maxRecDepth 100000 in
theorem law_18 {p : Program} {e : Env} {s : State} {m : MethodId} {below : List Frame} {meth : Method} {c : Code} (l : Launch) (hgl : l.stackTraces = false) {b L : Nat} {xs : Nat → Int32} (hL : L ≤ 1536) (C0 : lw_At p s m meth c b L xs) {dC : Nat → ClassId} {dI : Nat → Nat → Nat} {aG : Nat → Nat} {kG : Nat → ClassId} {aM : Nat → Nat} {kM : Nat → ClassId} {oa : Nat} {ok : ClassId} (hK : va_K (dC, dI) vwCl (gcT kG ++ (gmT kM ++ ([(ok, .long)]))) s) (hXA : gcXA (fun q : Nat => s.heap.size ≤ q) s) {jj : Nat} (hj : 3 * jj + 3 ≤ L) {d : Drawn} (hd : s.drawn.sameBut d lw_cs) {K : Bk} {g r : Nat} {f1 f2 dr cl tr se : Nat → Int32} {inf : Int32} {ct : Nat} {of ro fa : Nat → Int32} {th : Int32} {ou : Nat → Int64} (hI : Inv K g r f1 f2 inf dr cl se ct of) {H : Heap} {locs : List Loc} {ls : Array Slot} (hP : va_P (dC, dI) vwCl (gcW aG kG f1 f2 dr cl tr se (nI g) (nI r) inf (nI ct) ++ (gmW aM kM f1 f2 of ro fa th (nI g) (nI r) (-1) (-1) ++ ([(oa, .inl (ok, 1, .inr (.inl ou)))]))) H) (hD : va_D (fun q : Nat => s.heap.size ≤ q) (gcW aG kG f1 f2 dr cl tr se (nI g) (nI r) inf (nI ct) ++ (gmW aM kM f1 f2 of ro fa th (nI g) (nI r) (-1) (-1) ++ ([(oa, .inl (ok, 1, .inr (.inl ou)))])))) (hS : va_S (fun q : Nat => s.heap.size ≤ q) s.heap H locs) (hl : lv_has ls 9 [(4, .int (nI (3 * jj))), (0, .ref b), (1, .ref (aG 0)), (2, .ref (aM 0)), (3, .ref oa)]) (ih : ∀ (d1 : Drawn) (H1 : Heap) (locs1 : List Loc) (ls1 : Array Slot), s.drawn.sameBut d1 lw_cs → LSt dC dI s b aG kG aM kM oa ok (jj + 1) H1 locs1 ls1 → W p l e room_1 (s.setDrawn d1) m #[Value.ref b] below meth c H1 locs1 (14 + (jj + 1)) (1295 + 6 * (jj + 1)) (lw_Z below #[Value.ref b] s) (F0 m 23 ls1 []))  : W p l e room_1 (s.setDrawn d) m #[Value.ref b] below meth c H locs (14 + jj) (1295 + 6 * jj) (lw_Z below #[Value.ref b] s) (F0 m 937 ls []) := by
  obtain ⟨hx, hb, hr, hml, hown, hts0, hX, hbl, hlocks, hgv⟩ := C0
  have hown : s.vm.findClass RL = some m.cls := hown
  have hts1 : ∀ w ∈ wsL_law, w.before #[Value.ref b] s = true := fun w h => hts0 w (wsL_law_in w h)
  have hts := dr_words hts1 d
  have hA : ∀ q : Nat, s.heap.size ≤ q → (fun q : Nat => s.heap.size ≤ q) q := fun _ h => h
  have hbA : ¬ (fun q : Nat => s.heap.size ≤ q) b := Nat.not_le.mpr hbl
  obtain ⟨hg10, hr30, hOK, hz, hBk, hof, hDr, hCl, s0, hse, hct⟩ := id hI
  have hKd : va_K (dC, dI) vwCl (gcT kG ++ (gmT kM ++ ([(ok, .long)]))) (s.setDrawn d) := hK
  have hXd : va_X b L xs (s.setDrawn d) s.heap := hX
  have hKg := gOK_Kg hOK
  have hKr : K.1 ≤ 30 := by rw [hOK.1]; exact hr30
  have hLF : LF K g se ct := by rw [hse, hct]; exact LF_of hg10 hKg hCl s0
  have hc1024 : ct ≤ 1024 := hLF.2
  have hft : gFt cl g = decide (0 < ct) := by rw [hct]; exact ft_pos hg10 hKg hCl s0
  refine lv_aload_n hx hb dL_law_937 rfl (lv_at hl 2 rfl) ?_
  have hPc : va_P (dC, dI) vwCl (gcW aG kG f1 f2 dr cl tr se (nI g) (nI r) inf (nI ct)) _ := hP.sub [0, 1, 2, 3, 4, 5, 6] rfl
  have hKc : va_K (dC, dI) vwCl (gcT kG) s := hK.sub [0, 1, 2, 3, 4, 5] rfl
  refine va_calll (va_runV (As := []) (rest := []) ⟨hx, hb, hml, hown, hts⟩ (c_X0_digest l dC dI aG kG f1 f2 dr cl tr se g r inf ct (by first | assumption | omega) (by first | assumption | omega) (by first | assumption | omega) (by first | assumption | omega)) (cwV 0 hts gL_law_X0_digest rfl rfl rfl (by decide +kernel) ⟨Nat.le_of_ble_eq_true rfl, Nat.le_of_ble_eq_true rfl⟩) ⟨gcPR_blind, va_recv hK hP (ci := 0) (q0 := 0) rfl rfl, fun U hU hW => ⟨rfl, by rw [hU]; exact hPc, va_K.moved hW.alike hKc⟩⟩ rfl rfl hl.1 rfl (lv_room (Nat.le_of_ble_eq_true rfl)) dL_law_938 ⟨show 14 + jj + 0 ≤ 1046 by omega, show 1295 + 6 * jj + 0 ≤ 9535 by omega⟩) hS (fun q _ h => h.elim) (fun q h => h.elim) (fun r1 u t H locs ht hvm hw hB hz1 hk1 hS => ?_)
  have hP := gc_keep hP hk1
  have hw : r1 = ((((gDD (gGu cl g) 4 (gDg (fun w => gAt 20 cl (nI w)) (gDD (gTo f1 f2 inf) 3 (gDg (gCo cl g r inf) 1279 6) r) (2 * g)) g) * 31) + (gSeat se g ct).toInt64) * 31) + (nI ct).toInt64 := hw
  subst hw
  clear hw
  clear hB hz1 hk1 ht hvm
  clear hPc hKc
  refine gc_topl (y := ((((gDD (mGu K (-1) (-1) g) 4 (gDg (fun w => mRe K w (2 * g)) (gDD (mTd K) 3 (gDg (mCo K g r) 1279 6) r) (2 * g)) g) * 31) + (mSe K (-1) (-1) g).toInt64) * 31) + (mAll K (-1) (-1) g).toInt64) (by rw [hse, hct]; exact digest_eq hOK hg10 hr30 hz hCl s0) ?_
  refine lv_aload_n hx hb dL_law_941 rfl (lv_at hl 3 rfl) ?_
  have hPc : va_P (dC, dI) vwCl (gmW aM kM f1 f2 of ro fa th (nI g) (nI r) (-1) (-1)) _ := hP.sub [7, 8, 9, 10, 11, 12] rfl
  have hKc : va_K (dC, dI) vwCl (gmT kM) s := hK.sub [6, 7, 8, 9, 10] rfl
  have hDc : va_D (fun q : Nat => s.heap.size ≤ q) (gmW aM kM f1 f2 of ro fa th (nI g) (nI r) (-1) (-1)) := hD.sub [7, 8, 9, 10, 11, 12] (by decide) rfl
  have hFc := va_free (wc := (gmW aM kM f1 f2 of ro fa th (nI g) (nI r) (-1) (-1))) hD hS hA [7, 8, 9, 10, 11, 12] rfl
  refine va_calll (va_runV (As := []) (rest := [.long (((((gDD (mGu K (-1) (-1) g) 4 (gDg (fun w => mRe K w (2 * g)) (gDD (mTd K) 3 (gDg (mCo K g r) 1279 6) r) (2 * g)) g) * 31) + (mSe K (-1) (-1) g).toInt64) * 31) + (mAll K (-1) (-1) g).toInt64)]) ⟨hx, hb, hml, hown, hts⟩ (c_X1_digest l dC dI aM kM f1 f2 of ro fa th g r (-1) (-1) K H.size (by first | assumption | omega) (by first | assumption | omega) (by first | assumption | omega)) (cwV 0 hts gL_law_X1_digest rfl rfl rfl (by decide +kernel) ⟨Nat.le_of_ble_eq_true rfl, Nat.le_of_ble_eq_true rfl⟩) ⟨gcPM_blind, va_recv hK hP (ci := 1) (q0 := 7) rfl rfl, fun U hU hW => ⟨rfl, by rw [hU], by rw [hU]; exact hPc, va_K.moved hW.alike hKc, hDc.weaken (fun _ _ _ _ => trivial)⟩⟩ rfl rfl hl.1 rfl (lv_room (Nat.le_of_ble_eq_true rfl)) dL_law_942 ⟨show 14 + jj + 0 + 0 ≤ 1046 by omega, show 1295 + 6 * jj + 0 + 0 ≤ 9535 by omega⟩) hS (fun q _ h => hFc q h) hFc (fun r2 u t H locs ht hvm hw hB hz1 hk1 hS => ?_)
  obtain ⟨ro23, fa24⟩ := u
  obtain ⟨hP1, hD1⟩ := hB
  rw [ht] at hP1
  obtain ⟨hP, hD⟩ := va_join (wr := [(aG 0, .inr (0, [.ref (aG 1), .ref (aG 2), .ref (aG 3), .ref (aG 4), .ref (aG 5), .ref (aG 6), .int (nI g), .int (nI r), .int inf, .int (nI ct)])), (aG 1, .inl (kG 1, 30, .inl f1)), (aG 2, .inl (kG 2, 30, .inl f2)), (aG 3, .inl (kG 3, 20, .inl dr)), (aG 4, .inl (kG 4, 20, .inl cl)), (aG 5, .inl (kG 5, 20, .inl tr)), (aG 6, .inl (kG 6, 1024, .inl se)), (oa, .inl (ok, 1, .inr (.inl ou)))]) (w1 := (gmW aM kM f1 f2 of ro23 fa24 0 (nI g) (nI r) (-1) (-1))) hP hD [7, 8, 9, 10, 11, 12] [0, 1, 2, 3, 4, 5, 6, 13] rfl rfl (by decide) (by decide) hk1 hFc hP1 hD1
  have hP : va_P (dC, dI) vwCl (gcW aG kG f1 f2 dr cl tr se (nI g) (nI r) inf (nI ct) ++ (gmW aM kM f1 f2 of ro23 fa24 0 (nI g) (nI r) (-1) (-1) ++ ([(oa, .inl (ok, 1, .inr (.inl ou)))]))) H := hP.sub [0, 1, 2, 3, 4, 5, 6, 8, 9, 10, 11, 12, 13, 7] rfl
  have hD : va_D (fun q : Nat => s.heap.size ≤ q) (gcW aG kG f1 f2 dr cl tr se (nI g) (nI r) inf (nI ct) ++ (gmW aM kM f1 f2 of ro23 fa24 0 (nI g) (nI r) (-1) (-1) ++ ([(oa, .inl (ok, 1, .inr (.inl ou)))]))) := hD.sub [0, 1, 2, 3, 4, 5, 6, 8, 9, 10, 11, 12, 13, 7] (by decide) rfl
  have hw : r2 = ((((gDD (mGu K (-1) (-1) g) 4 (gDg (fun w => mRe K w (2 * g)) (gDD (mTd K) 3 (gDg (mCo K g r) 1279 6) r) (2 * g)) g) * 31) + (mSe K (-1) (-1) g).toInt64) * 31) + (mAll K (-1) (-1) g).toInt64 := hw
  subst hw
  clear hw
  clear hz1 hk1 ht hvm hP1 hD1 hFc hDc
  clear hPc hKc
  refine W.lcmp hx hb dL_law_945 ?_
  refine gc_topi (y := 0) ((lg_cmp_eq _ _).mpr rfl) ?_
  refine lv_if_eq (tgt := 951) hx hb dL_law_946 (by decide) (fun c_946 => ?_) (fun c_946 => ?_)
  · skip
    refine lv_iinc (v := nI (3 * (jj + 1))) (lv' := [(4, .int (nI (3 * (jj + 1)))), (0, .ref b), (1, .ref (aG 0)), (2, .ref (aM 0)), (3, .ref oa)]) hx hb dL_law_951 hl (k := 0) rfl (nI_3 jj) (by decide) rfl (fun ls hl => ?_)
    refine lv_goto (tgt := 23) hx hb dL_law_954 (by decide) ?_
    refine W.widen (k := 14 + (jj + 1)) (n := 1295 + 6 * (jj + 1)) (by omega) (by omega) ?_
    exact ih d H _ ls hd ⟨K, g, r, f1, f2, dr, cl, tr, se, inf, ct, of, ro23, fa24, 0, ou, hI, hP, hD, hS, lv_sub hl [0, 1, 2, 3, 4] rfl⟩
  · skip
    exact absurd (by decide) c_946
set_option maxHeartbeats 4000000 in
set_option maxRecDepth 100000 in
theorem law_19 {p : Program} {e : Env} {s : State} {m : MethodId} {below : List Frame} {meth : Method} {c : Code} (l : Launch) (hgl : l.stackTraces = false) {b L : Nat} {xs : Nat → Int32} (hL : L ≤ 1536) (C0 : lw_At p s m meth c b L xs) {dC : Nat → ClassId} {dI : Nat → Nat → Nat} {aG : Nat → Nat} {kG : Nat → ClassId} {aM : Nat → Nat} {kM : Nat → ClassId} {oa : Nat} {ok : ClassId} (hK : va_K (dC, dI) vwCl (gcT kG ++ (gmT kM ++ ([(ok, .long)]))) s) (hXA : gcXA (fun q : Nat => s.heap.size ≤ q) s) {jj : Nat} (hj : 3 * jj + 3 ≤ L) {d : Drawn} (hd : s.drawn.sameBut d lw_cs) {K : Bk} {g r : Nat} {f1 f2 dr cl tr se : Nat → Int32} {inf : Int32} {ct : Nat} {of ro fa : Nat → Int32} {th : Int32} {ou : Nat → Int64} (hI : Inv K g r f1 f2 inf dr cl se ct of) {H : Heap} {locs : List Loc} {ls : Array Slot} (hP : va_P (dC, dI) vwCl (gcW aG kG f1 f2 dr cl tr se (nI g) (nI r) inf (nI ct) ++ (gmW aM kM f1 f2 of ro fa th (nI g) (nI r) (-1) (-1) ++ ([(oa, .inl (ok, 1, .inr (.inl ou)))]))) H) (hD : va_D (fun q : Nat => s.heap.size ≤ q) (gcW aG kG f1 f2 dr cl tr se (nI g) (nI r) inf (nI ct) ++ (gmW aM kM f1 f2 of ro fa th (nI g) (nI r) (-1) (-1) ++ ([(oa, .inl (ok, 1, .inr (.inl ou)))])))) (hS : va_S (fun q : Nat => s.heap.size ≤ q) s.heap H locs) (hl : lv_has ls 9 [(4, .int (nI (3 * jj))), (0, .ref b), (1, .ref (aG 0)), (2, .ref (aM 0)), (3, .ref oa)]) (ih : ∀ (d1 : Drawn) (H1 : Heap) (locs1 : List Loc) (ls1 : Array Slot), s.drawn.sameBut d1 lw_cs → LSt dC dI s b aG kG aM kM oa ok (jj + 1) H1 locs1 ls1 → W p l e room_1 (s.setDrawn d1) m #[Value.ref b] below meth c H1 locs1 (14 + (jj + 1)) (1295 + 6 * (jj + 1)) (lw_Z below #[Value.ref b] s) (F0 m 23 ls1 []))  : W p l e room_1 (s.setDrawn d) m #[Value.ref b] below meth c H locs (14 + jj) (1295 + 6 * jj) (lw_Z below #[Value.ref b] s) (F0 m 951 ls []) := by
  obtain ⟨hx, hb, hr, hml, hown, hts0, hX, hbl, hlocks, hgv⟩ := C0
  have hown : s.vm.findClass RL = some m.cls := hown
  have hts1 : ∀ w ∈ wsL_law, w.before #[Value.ref b] s = true := fun w h => hts0 w (wsL_law_in w h)
  have hts := dr_words hts1 d
  have hA : ∀ q : Nat, s.heap.size ≤ q → (fun q : Nat => s.heap.size ≤ q) q := fun _ h => h
  have hbA : ¬ (fun q : Nat => s.heap.size ≤ q) b := Nat.not_le.mpr hbl
  obtain ⟨hg10, hr30, hOK, hz, hBk, hof, hDr, hCl, s0, hse, hct⟩ := id hI
  have hKd : va_K (dC, dI) vwCl (gcT kG ++ (gmT kM ++ ([(ok, .long)]))) (s.setDrawn d) := hK
  have hXd : va_X b L xs (s.setDrawn d) s.heap := hX
  have hKg := gOK_Kg hOK
  have hKr : K.1 ≤ 30 := by rw [hOK.1]; exact hr30
  have hLF : LF K g se ct := by rw [hse, hct]; exact LF_of hg10 hKg hCl s0
  have hc1024 : ct ≤ 1024 := hLF.2
  have hft : gFt cl g = decide (0 < ct) := by rw [hct]; exact ft_pos hg10 hKg hCl s0
  refine lv_iinc (v := nI (3 * (jj + 1))) (lv' := [(4, .int (nI (3 * (jj + 1)))), (0, .ref b), (1, .ref (aG 0)), (2, .ref (aM 0)), (3, .ref oa)]) hx hb dL_law_951 hl (k := 0) rfl (nI_3 jj) (by decide) rfl (fun ls hl => ?_)
  refine lv_goto (tgt := 23) hx hb dL_law_954 (by decide) ?_
  refine W.widen (k := 14 + (jj + 1)) (n := 1295 + 6 * (jj + 1)) (by omega) (by omega) ?_
  exact ih d H _ ls hd ⟨K, g, r, f1, f2, dr, cl, tr, se, inf, ct, of, ro, fa, th, ou, hI, hP, hD, hS, lv_sub hl [0, 1, 2, 3, 4] rfl⟩
