set_option maxHeartbeats 4000000 in
set_option maxRecDepth 100000 in
theorem law_7 {p : Program} {e : Env} {s : State} {m : MethodId} {below : List Frame} {meth : Method} {c : Code} (l : Launch) (hgl : l.stackTraces = false) {b L : Nat} {xs : Nat → Int32} (hL : L ≤ 1536) (C0 : lw_At p s m meth c b L xs) {dC : Nat → ClassId} {dI : Nat → Nat → Nat} {aG : Nat → Nat} {kG : Nat → ClassId} {aM : Nat → Nat} {kM : Nat → ClassId} {oa : Nat} {ok : ClassId} (hK : va_K (dC, dI) vwCl (gcT kG ++ (gmT kM ++ ([(ok, .long)]))) s) (hXA : gcXA (fun q : Nat => s.heap.size ≤ q) s) {jj : Nat} (hj : 3 * jj + 3 ≤ L) {d : Drawn} (hd : s.drawn.sameBut d lw_cs) {K : Bk} {g r : Nat} {f1 f2 dr cl tr se : Nat → Int32} {inf : Int32} {ct : Nat} {of ro fa : Nat → Int32} {th : Int32} {ou : Nat → Int64} (hI : Inv K g r f1 f2 inf dr cl se ct of) {H : Heap} {locs : List Loc} {ls : Array Slot} (hP : va_P (dC, dI) vwCl (gcW aG kG f1 f2 dr cl tr se (nI g) (nI r) inf (nI ct) ++ (gmW aM kM f1 f2 of ro fa th (nI g) (nI r) (-1) (-1) ++ ([(oa, .inl (ok, 1, .inr (.inl ou)))]))) H) (hD : va_D (fun q : Nat => s.heap.size ≤ q) (gcW aG kG f1 f2 dr cl tr se (nI g) (nI r) inf (nI ct) ++ (gmW aM kM f1 f2 of ro fa th (nI g) (nI r) (-1) (-1) ++ ([(oa, .inl (ok, 1, .inr (.inl ou)))])))) (hS : va_S (fun q : Nat => s.heap.size ≤ q) s.heap H locs) (hl : lv_has ls 9 [(4, .int (nI (3 * jj))), (0, .ref b), (1, .ref (aG 0)), (2, .ref (aM 0)), (3, .ref oa)]) (ih : ∀ (d1 : Drawn) (H1 : Heap) (locs1 : List Loc) (ls1 : Array Slot), s.drawn.sameBut d1 lw_cs → LSt dC dI s b aG kG aM kM oa ok (jj + 1) H1 locs1 ls1 → W p l e room_1 (s.setDrawn d1) m #[Value.ref b] below meth c H1 locs1 (14 + (jj + 1)) (1295 + 6 * (jj + 1)) (lw_Z below #[Value.ref b] s) (F0 m 23 ls1 [])) {x w : Nat} (hx2 : x < g) (hw : w < 4) (h1 : xs (3 * jj + 1) = nI x) (h2 : xs (3 * jj + 2) = nI w) : W p l e room_1 (s.setDrawn d) m #[Value.ref b] below meth c H locs (14 + jj) (1295 + 6 * jj) (lw_Z below #[Value.ref b] s) (F0 m 570 ls []) := by
  obtain ⟨hx, hb, hr, hml, hown, hts0, hX, hbl, hlocks, hgv⟩ := C0
  have hown : s.vm.findClass RL = some m.cls := hown
  have hts1 : ∀ w ∈ wsL_law, w.before #[Value.ref b] s = true := fun w h => hts0 w (wsL_law_in w h)
  have hts := dr_words hts1 d
  have hA : ∀ q : Nat, s.heap.size ≤ q → (fun q : Nat => s.heap.size ≤ q) q := fun _ h => h
  have hbA : ¬ (fun q : Nat => s.heap.size ≤ q) b := Nat.not_le.mpr hbl
  obtain ⟨hg10, hr30, hOK, hz, hBk, hof, hDr, hCl, s0, hse, hct⟩ := id hI
  have hKd : va_K (dC, dI) vwCl (gcT kG ++ (gmT kM ++ ([(ok, .long)]))) (s.setDrawn d) := hK
  have hXd : va_X b L xs (s.setDrawn d) s.heap := hX
  have hKg := gOK_Kg hOK
  have hKr : K.1 ≤ 30 := by rw [hOK.1]; exact hr30
  have hLF : LF K g se ct := by rw [hse, hct]; exact LF_of hg10 hKg hCl s0
  have hc1024 : ct ≤ 1024 := hLF.2
  have hft : gFt cl g = decide (0 < ct) := by rw [hct]; exact ft_pos hg10 hKg hCl s0
  refine lv_aload_n hx hb dL_law_570 rfl (lv_at hl 2 rfl) ?_
  refine lv_aload_n hx hb dL_law_571 rfl (lv_at hl 1 rfl) ?_
  refine lv_iload hx hb dL_law_572 (lv_at hl 0 rfl) ?_
  refine lv_iconst (v := 1) hx hb dL_law_574 (by decide) ?_
  refine lv_iadd hx hb dL_law_575 ?_
  refine gc_topi (y := nI (3 * jj + 1)) (nI_add (3 * jj) 1) ?_
  refine va_sld hx hb hXd hbl hbA hS (vp_in_nI (n := (3 * jj + 1)) (by omega) (by omega)) dL_law_576 ?_
  rw [nI_clamp (n := (3 * jj + 1)) (by omega)]
  refine gc_topi (y := nI x) (h1) ?_
  refine lv_aload_n hx hb dL_law_577 rfl (lv_at hl 1 rfl) ?_
  refine lv_iload hx hb dL_law_578 (lv_at hl 0 rfl) ?_
  refine lv_iconst (v := 2) hx hb dL_law_580 (by decide) ?_
  refine lv_iadd hx hb dL_law_581 ?_
  refine gc_topi (y := nI (3 * jj + 2)) (nI_add (3 * jj) 2) ?_
  refine va_sld hx hb hXd hbl hbA hS (vp_in_nI (n := (3 * jj + 2)) (by omega) (by omega)) dL_law_582 ?_
  rw [nI_clamp (n := (3 * jj + 2)) (by omega)]
  refine gc_topi (y := nI w) (h2) ?_
  refine lv_aload_n hx hb dL_law_583 rfl (lv_at hl 4 rfl) ?_
  have hPc : va_P (dC, dI) vwCl (gcW aG kG f1 f2 dr cl tr se (nI g) (nI r) inf (nI ct) ++ ([(oa, .inl (ok, 1, .inr (.inl ou)))])) _ := hP.sub [0, 1, 2, 3, 4, 5, 6, 13] rfl
  have hKc : va_K (dC, dI) vwCl (gcT kG ++ ([(ok, .long)])) s := hK.sub [0, 1, 2, 3, 4, 5, 11] rfl
  have hDc : va_D (fun q : Nat => s.heap.size ≤ q) (gcW aG kG f1 f2 dr cl tr se (nI g) (nI r) inf (nI ct) ++ ([(oa, .inl (ok, 1, .inr (.inl ou)))])) := hD.sub [0, 1, 2, 3, 4, 5, 6, 13] (by decide) rfl
  have hFc := va_free (wc := (gcW aG kG f1 f2 dr cl tr se (nI g) (nI r) inf (nI ct) ++ ([(oa, .inl (ok, 1, .inr (.inl ou)))]))) hD hS hA [0, 1, 2, 3, 4, 5, 6, 13] rfl
  refine va_calli (vx_runSW (As := [.ref (aG 0), .int (nI x), .int (nI w), .ref oa]) (rest := []) ⟨hx, hb, hml, hown, hts⟩ (w_guest l dC dI aG kG f1 f2 dr cl tr se g r inf ct oa ok ou x w H.size (by first | assumption | omega) (by first | assumption | omega) (by first | assumption | omega) (by first | assumption | omega) (by first | assumption | omega)) (vx_cwSW 4 hts gL_law_L_guest rfl rfl rfl (by decide +kernel) ⟨Nat.le_of_ble_eq_true rfl, Nat.le_of_ble_eq_true rfl⟩) ⟨gcPM_blind, fun U hU hW => ⟨rfl, by rw [hU], by rw [hU]; exact hPc, va_K.moved hW.alike hKc, hDc.weaken (fun _ _ _ _ => trivial)⟩⟩ rfl rfl hl.1 rfl (lv_room (Nat.le_of_ble_eq_true rfl)) dL_law_584 ⟨show 14 + jj + 0 ≤ 1046 by omega, show 1295 + 6 * jj + 0 ≤ 9535 by omega⟩) hS (fun q _ h => hFc q h) hFc (fun r1 u t H locs ht hvm hw hB hz1 hk1 hS => ?_)
  obtain ⟨hP1, hD1⟩ := hB
  rw [ht] at hP1
  obtain ⟨hP, hD⟩ := va_join (wr := [(aM 0, .inr (1, [.int th, .int (nI g), .int (nI r), .ref (aM 1), .ref (aM 2), .ref (aM 3), .int (-1), .int (-1), .ref (aM 4), .ref (aM 5)])), (aM 1, .inl (kM 1, 30, .inl f1)), (aM 2, .inl (kM 2, 30, .inl f2)), (aM 3, .inl (kM 3, 30, .inl of)), (aM 4, .inl (kM 4, 20, .inl ro)), (aM 5, .inl (kM 5, 20, .inl fa))]) (w1 := (gcW aG kG f1 f2 dr cl tr se (nI g) (nI r) inf (nI ct) ++ ([(oa, .inl (ok, 1, .inr (.inl (vp_updL ou 0 ((gGu cl g x w).toInt64)))))]))) hP hD [0, 1, 2, 3, 4, 5, 6, 13] [7, 8, 9, 10, 11, 12] rfl rfl (by decide) (by decide) hk1 hFc hP1 hD1
  have hP : va_P (dC, dI) vwCl (gcW aG kG f1 f2 dr cl tr se (nI g) (nI r) inf (nI ct) ++ (gmW aM kM f1 f2 of ro fa th (nI g) (nI r) (-1) (-1) ++ ([(oa, .inl (ok, 1, .inr (.inl (vp_updL ou 0 ((gGu cl g x w).toInt64)))))]))) H := hP.sub [6, 7, 8, 9, 10, 11, 12, 0, 1, 2, 3, 4, 5, 13] rfl
  have hD : va_D (fun q : Nat => s.heap.size ≤ q) (gcW aG kG f1 f2 dr cl tr se (nI g) (nI r) inf (nI ct) ++ (gmW aM kM f1 f2 of ro fa th (nI g) (nI r) (-1) (-1) ++ ([(oa, .inl (ok, 1, .inr (.inl (vp_updL ou 0 ((gGu cl g x w).toInt64)))))]))) := hD.sub [6, 7, 8, 9, 10, 11, 12, 0, 1, 2, 3, 4, 5, 13] (by decide) rfl
  have hw : r1 = 0 := hw
  subst hw
  clear hw
  clear hz1 hk1 ht hvm hP1 hD1 hFc hDc
  clear hPc hKc
  refine lv_istore (lv' := [(5, .int 0), (4, .int (nI (3 * jj))), (0, .ref b), (1, .ref (aG 0)), (2, .ref (aM 0)), (3, .ref oa)]) hx hb dL_law_587 hl (by decide) rfl (fun ls hl => ?_)
  refine lv_aload_n hx hb dL_law_589 rfl (lv_at hl 4 rfl) ?_
  refine lv_aload_n hx hb dL_law_590 rfl (lv_at hl 2 rfl) ?_
  refine lv_iload hx hb dL_law_591 (lv_at hl 1 rfl) ?_
  refine lv_iconst (v := 1) hx hb dL_law_593 (by decide) ?_
  refine lv_iadd hx hb dL_law_594 ?_
  refine gc_topi (y := nI (3 * jj + 1)) (nI_add (3 * jj) 1) ?_
  refine va_sld hx hb hXd hbl hbA hS (vp_in_nI (n := (3 * jj + 1)) (by omega) (by omega)) dL_law_595 ?_
  rw [nI_clamp (n := (3 * jj + 1)) (by omega)]
  refine gc_topi (y := nI x) (h1) ?_
  refine lv_aload_n hx hb dL_law_596 rfl (lv_at hl 2 rfl) ?_
  refine lv_iload hx hb dL_law_597 (lv_at hl 1 rfl) ?_
  refine lv_iconst (v := 2) hx hb dL_law_599 (by decide) ?_
  refine lv_iadd hx hb dL_law_600 ?_
  refine gc_topi (y := nI (3 * jj + 2)) (nI_add (3 * jj) 2) ?_
  refine va_sld hx hb hXd hbl hbA hS (vp_in_nI (n := (3 * jj + 2)) (by omega) (by omega)) dL_law_601 ?_
  rw [nI_clamp (n := (3 * jj + 2)) (by omega)]
  refine gc_topi (y := nI w) (h2) ?_
  have hPc : va_P (dC, dI) vwCl (gmW aM kM f1 f2 of ro fa th (nI g) (nI r) (-1) (-1)) _ := hP.sub [7, 8, 9, 10, 11, 12] rfl
  have hKc : va_K (dC, dI) vwCl (gmT kM) s := hK.sub [6, 7, 8, 9, 10] rfl
  have hDc : va_D (fun q : Nat => s.heap.size ≤ q) (gmW aM kM f1 f2 of ro fa th (nI g) (nI r) (-1) (-1)) := hD.sub [7, 8, 9, 10, 11, 12] (by decide) rfl
  have hFc := va_free (wc := (gmW aM kM f1 f2 of ro fa th (nI g) (nI r) (-1) (-1))) hD hS hA [7, 8, 9, 10, 11, 12] rfl
  refine va_calli (va_runV (As := [.int (nI x), .int (nI w)]) (rest := []) ⟨hx, hb, hml, hown, hts⟩ (c_X1_guest l dC dI aM kM f1 f2 of ro fa th g r (-1) (-1) K x w H.size (by first | assumption | omega) (by first | assumption | omega) (by first | assumption | omega) (by first | assumption | omega) (by first | assumption | omega)) (cwV 2 hts gL_law_X1_guest rfl rfl rfl (by decide +kernel) ⟨Nat.le_of_ble_eq_true rfl, Nat.le_of_ble_eq_true rfl⟩) ⟨gcPM_blind, va_recv hK hP (ci := 1) (q0 := 7) rfl rfl, fun U hU hW => ⟨rfl, by rw [hU], by rw [hU]; exact hPc, va_K.moved hW.alike hKc, hDc.weaken (fun _ _ _ _ => trivial)⟩⟩ rfl rfl hl.1 rfl (lv_room (Nat.le_of_ble_eq_true rfl)) dL_law_602 ⟨show 14 + jj + 0 + 0 ≤ 1046 by omega, show 1295 + 6 * jj + 0 + 0 ≤ 9535 by omega⟩) hS (fun q _ h => hFc q h) hFc (fun r2 u t H locs ht hvm hw hB hz1 hk1 hS => ?_)
  obtain ⟨ro23, fa24⟩ := u
  obtain ⟨hP1, hD1⟩ := hB
  rw [ht] at hP1
  obtain ⟨hP, hD⟩ := va_join (wr := [(aG 0, .inr (0, [.ref (aG 1), .ref (aG 2), .ref (aG 3), .ref (aG 4), .ref (aG 5), .ref (aG 6), .int (nI g), .int (nI r), .int inf, .int (nI ct)])), (aG 1, .inl (kG 1, 30, .inl f1)), (aG 2, .inl (kG 2, 30, .inl f2)), (aG 3, .inl (kG 3, 20, .inl dr)), (aG 4, .inl (kG 4, 20, .inl cl)), (aG 5, .inl (kG 5, 20, .inl tr)), (aG 6, .inl (kG 6, 1024, .inl se)), (oa, .inl (ok, 1, .inr (.inl (vp_updL ou 0 ((gGu cl g x w).toInt64)))))]) (w1 := (gmW aM kM f1 f2 of ro23 fa24 0 (nI g) (nI r) (-1) (-1))) hP hD [7, 8, 9, 10, 11, 12] [0, 1, 2, 3, 4, 5, 6, 13] rfl rfl (by decide) (by decide) hk1 hFc hP1 hD1
  have hP : va_P (dC, dI) vwCl (gcW aG kG f1 f2 dr cl tr se (nI g) (nI r) inf (nI ct) ++ (gmW aM kM f1 f2 of ro23 fa24 0 (nI g) (nI r) (-1) (-1) ++ ([(oa, .inl (ok, 1, .inr (.inl (vp_updL ou 0 ((gGu cl g x w).toInt64)))))]))) H := hP.sub [0, 1, 2, 3, 4, 5, 6, 8, 9, 10, 11, 12, 13, 7] rfl
  have hD : va_D (fun q : Nat => s.heap.size ≤ q) (gcW aG kG f1 f2 dr cl tr se (nI g) (nI r) inf (nI ct) ++ (gmW aM kM f1 f2 of ro23 fa24 0 (nI g) (nI r) (-1) (-1) ++ ([(oa, .inl (ok, 1, .inr (.inl (vp_updL ou 0 ((gGu cl g x w).toInt64)))))]))) := hD.sub [0, 1, 2, 3, 4, 5, 6, 8, 9, 10, 11, 12, 13, 7] (by decide) rfl
  have hw : r2 = mGu K (-1) (-1) g x w := hw
  subst hw
  clear hw
  clear hz1 hk1 ht hvm hP1 hD1 hFc hDc
  clear hPc hKc
  refine lv_istore (lv' := [(6, .int (mGu K (-1) (-1) g x w)), (5, .int 0), (4, .int (nI (3 * jj))), (0, .ref b), (1, .ref (aG 0)), (2, .ref (aM 0)), (3, .ref oa)]) hx hb dL_law_605 hl (by decide) rfl (fun ls hl => ?_)
  refine lv_aload_n hx hb dL_law_607 rfl (lv_at hl 5 rfl) ?_
  have hPc : va_P (dC, dI) vwCl (gmW aM kM f1 f2 of ro23 fa24 0 (nI g) (nI r) (-1) (-1)) _ := hP.sub [7, 8, 9, 10, 11, 12] rfl
  have hKc : va_K (dC, dI) vwCl (gmT kM) s := hK.sub [6, 7, 8, 9, 10] rfl
  refine va_calli (va_runV (As := []) (rest := []) ⟨hx, hb, hml, hown, hts⟩ (c_X1_thrown l dC dI aM kM f1 f2 of ro23 fa24 0 g r (-1) (-1)) (cwV 0 hts gL_law_X1_thrown rfl rfl rfl (by decide +kernel) ⟨Nat.le_of_ble_eq_true rfl, Nat.le_of_ble_eq_true rfl⟩) ⟨gcPR_blind, va_recv hK hP (ci := 1) (q0 := 7) rfl rfl, fun U hU hW => ⟨rfl, by rw [hU]; exact hPc, va_K.moved hW.alike hKc⟩⟩ rfl rfl hl.1 rfl (lv_room (Nat.le_of_ble_eq_true rfl)) dL_law_608 ⟨show 14 + jj + 0 + 0 + 0 ≤ 1046 by omega, show 1295 + 6 * jj + 0 + 0 + 0 ≤ 9535 by omega⟩) hS (fun q _ h => h.elim) (fun q h => h.elim) (fun r5 u t H locs ht hvm hw hB hz1 hk1 hS => ?_)
  have hP := gc_keep hP hk1
  have hw : r5 = 0 := hw
  subst hw
  clear hw
  clear hB hz1 hk1 ht hvm
  clear hPc hKc
  refine lv_iload hx hb dL_law_611 (lv_at hl 1 rfl) ?_
  refine lv_icmp_eq (tgt := 618) hx hb dL_law_613 (by decide) (fun c_613 => ?_) (fun c_613 => absurd rfl c_613)
  refine lv_iload hx hb dL_law_618 (lv_at hl 1 rfl) ?_
  refine lv_if_ne (tgt := 635) hx hb dL_law_620 (by decide) (fun c_620 => ?_) (fun c_620 => ?_)
  · skip
    exact absurd (by decide) c_620
  · skip
    refine lv_aload_n hx hb dL_law_623 rfl (lv_at hl 6 rfl) ?_
    refine lv_iconst (v := 0) hx hb dL_law_624 (by decide) ?_
    refine va_lald hx hb hKd hP 13 11 rfl rfl gc_in01 dL_law_625 ?_
    refine gc_topl (y := ((gGu cl g x w).toInt64)) (by rw [sb_cl0]; exact pk_uLs) ?_
    refine gc_topl (y := (mGu K (-1) (-1) g x w).toInt64) (by rw [guest_eq hg10 hKg hKr hCl hx2 hw]) ?_
    refine lv_iload hx hb dL_law_626 (lv_at hl 0 rfl) ?_
    refine lv_i2l hx hb dL_law_628 rfl ?_
    refine W.lcmp hx hb dL_law_629 ?_
    refine gc_topi (y := 0) ((lg_cmp_eq _ _).mpr rfl) ?_
    refine lv_if_eq (tgt := 635) hx hb dL_law_630 (by decide) (fun c_630 => ?_) (fun c_630 => ?_)
    · skip
      refine lv_goto (tgt := 951) hx hb dL_law_635 (by decide) ?_
      refine lv_iinc (v := nI (3 * (jj + 1))) (lv' := [(4, .int (nI (3 * (jj + 1)))), (6, .int (mGu K (-1) (-1) g x w)), (5, .int 0), (0, .ref b), (1, .ref (aG 0)), (2, .ref (aM 0)), (3, .ref oa)]) hx hb dL_law_951 hl (k := 2) rfl (nI_3 jj) (by decide) rfl (fun ls hl => ?_)
      refine lv_goto (tgt := 23) hx hb dL_law_954 (by decide) ?_
      refine W.widen (k := 14 + (jj + 1)) (n := 1295 + 6 * (jj + 1)) (by omega) (by omega) ?_
      exact ih d H _ ls hd ⟨K, g, r, f1, f2, dr, cl, tr, se, inf, ct, of, ro23, fa24, 0, (vp_updL ou 0 ((gGu cl g x w).toInt64)), hI, hP, hD, hS, lv_sub hl [0, 3, 4, 5, 6] rfl⟩
    · skip
      exact absurd (by decide) c_630
set_option maxHeartbeats 4000000 in
set_option maxRecDepth 100000 in
theorem law_7x {p : Program} {e : Env} {s : State} {m : MethodId} {below : List Frame} {meth : Method} {c : Code} (l : Launch) (hgl : l.stackTraces = false) {b L : Nat} {xs : Nat → Int32} (hL : L ≤ 1536) (C0 : lw_At p s m meth c b L xs) {dC : Nat → ClassId} {dI : Nat → Nat → Nat} {aG : Nat → Nat} {kG : Nat → ClassId} {aM : Nat → Nat} {kM : Nat → ClassId} {oa : Nat} {ok : ClassId} (hK : va_K (dC, dI) vwCl (gcT kG ++ (gmT kM ++ ([(ok, .long)]))) s) (hXA : gcXA (fun q : Nat => s.heap.size ≤ q) s) {jj : Nat} (hj : 3 * jj + 3 ≤ L) {d : Drawn} (hd : s.drawn.sameBut d lw_cs) {K : Bk} {g r : Nat} {f1 f2 dr cl tr se : Nat → Int32} {inf : Int32} {ct : Nat} {of ro fa : Nat → Int32} {th : Int32} {ou : Nat → Int64} (hI : Inv K g r f1 f2 inf dr cl se ct of) {H : Heap} {locs : List Loc} {ls : Array Slot} (hP : va_P (dC, dI) vwCl (gcW aG kG f1 f2 dr cl tr se (nI g) (nI r) inf (nI ct) ++ (gmW aM kM f1 f2 of ro fa th (nI g) (nI r) (-1) (-1) ++ ([(oa, .inl (ok, 1, .inr (.inl ou)))]))) H) (hD : va_D (fun q : Nat => s.heap.size ≤ q) (gcW aG kG f1 f2 dr cl tr se (nI g) (nI r) inf (nI ct) ++ (gmW aM kM f1 f2 of ro fa th (nI g) (nI r) (-1) (-1) ++ ([(oa, .inl (ok, 1, .inr (.inl ou)))])))) (hS : va_S (fun q : Nat => s.heap.size ≤ q) s.heap H locs) (hl : lv_has ls 9 [(4, .int (nI (3 * jj))), (0, .ref b), (1, .ref (aG 0)), (2, .ref (aM 0)), (3, .ref oa)]) (ih : ∀ (d1 : Drawn) (H1 : Heap) (locs1 : List Loc) (ls1 : Array Slot), s.drawn.sameBut d1 lw_cs → LSt dC dI s b aG kG aM kM oa ok (jj + 1) H1 locs1 ls1 → W p l e room_1 (s.setDrawn d1) m #[Value.ref b] below meth c H1 locs1 (14 + (jj + 1)) (1295 + 6 * (jj + 1)) (lw_Z below #[Value.ref b] s) (F0 m 23 ls1 [])) (hno : ∀ q : Nat, q < g → xs (3 * jj + 1) ≠ nI q) : W p l e room_1 (s.setDrawn d) m #[Value.ref b] below meth c H locs (14 + jj) (1295 + 6 * jj) (lw_Z below #[Value.ref b] s) (F0 m 570 ls []) := by
  obtain ⟨hx, hb, hr, hml, hown, hts0, hX, hbl, hlocks, hgv⟩ := C0
  have hown : s.vm.findClass RL = some m.cls := hown
  have hts1 : ∀ w ∈ wsL_law, w.before #[Value.ref b] s = true := fun w h => hts0 w (wsL_law_in w h)
  have hts := dr_words hts1 d
  have hA : ∀ q : Nat, s.heap.size ≤ q → (fun q : Nat => s.heap.size ≤ q) q := fun _ h => h
  have hbA : ¬ (fun q : Nat => s.heap.size ≤ q) b := Nat.not_le.mpr hbl
  obtain ⟨hg10, hr30, hOK, hz, hBk, hof, hDr, hCl, s0, hse, hct⟩ := id hI
  have hKd : va_K (dC, dI) vwCl (gcT kG ++ (gmT kM ++ ([(ok, .long)]))) (s.setDrawn d) := hK
  have hXd : va_X b L xs (s.setDrawn d) s.heap := hX
  have hKg := gOK_Kg hOK
  have hKr : K.1 ≤ 30 := by rw [hOK.1]; exact hr30
  have hLF : LF K g se ct := by rw [hse, hct]; exact LF_of hg10 hKg hCl s0
  have hc1024 : ct ≤ 1024 := hLF.2
  have hft : gFt cl g = decide (0 < ct) := by rw [hct]; exact ft_pos hg10 hKg hCl s0
  refine lv_aload_n hx hb dL_law_570 rfl (lv_at hl 2 rfl) ?_
  refine lv_aload_n hx hb dL_law_571 rfl (lv_at hl 1 rfl) ?_
  refine lv_iload hx hb dL_law_572 (lv_at hl 0 rfl) ?_
  refine lv_iconst (v := 1) hx hb dL_law_574 (by decide) ?_
  refine lv_iadd hx hb dL_law_575 ?_
  refine gc_topi (y := nI (3 * jj + 1)) (nI_add (3 * jj) 1) ?_
  refine va_sld hx hb hXd hbl hbA hS (vp_in_nI (n := (3 * jj + 1)) (by omega) (by omega)) dL_law_576 ?_
  rw [nI_clamp (n := (3 * jj + 1)) (by omega)]
  refine lv_aload_n hx hb dL_law_577 rfl (lv_at hl 1 rfl) ?_
  refine lv_iload hx hb dL_law_578 (lv_at hl 0 rfl) ?_
  refine lv_iconst (v := 2) hx hb dL_law_580 (by decide) ?_
  refine lv_iadd hx hb dL_law_581 ?_
  refine gc_topi (y := nI (3 * jj + 2)) (nI_add (3 * jj) 2) ?_
  refine va_sld hx hb hXd hbl hbA hS (vp_in_nI (n := (3 * jj + 2)) (by omega) (by omega)) dL_law_582 ?_
  rw [nI_clamp (n := (3 * jj + 2)) (by omega)]
  refine lv_aload_n hx hb dL_law_583 rfl (lv_at hl 4 rfl) ?_
  have hPc : va_P (dC, dI) vwCl (gcW aG kG f1 f2 dr cl tr se (nI g) (nI r) inf (nI ct) ++ ([(oa, .inl (ok, 1, .inr (.inl ou)))])) _ := hP.sub [0, 1, 2, 3, 4, 5, 6, 13] rfl
  have hKc : va_K (dC, dI) vwCl (gcT kG ++ ([(ok, .long)])) s := hK.sub [0, 1, 2, 3, 4, 5, 11] rfl
  have hDc : va_D (fun q : Nat => s.heap.size ≤ q) (gcW aG kG f1 f2 dr cl tr se (nI g) (nI r) inf (nI ct) ++ ([(oa, .inl (ok, 1, .inr (.inl ou)))])) := hD.sub [0, 1, 2, 3, 4, 5, 6, 13] (by decide) rfl
  have hFc := va_free (wc := (gcW aG kG f1 f2 dr cl tr se (nI g) (nI r) inf (nI ct) ++ ([(oa, .inl (ok, 1, .inr (.inl ou)))]))) hD hS hA [0, 1, 2, 3, 4, 5, 6, 13] rfl
  refine va_calli (vx_runSW (As := [.ref (aG 0), .int (xs (3 * jj + 1)), .int (xs (3 * jj + 2)), .ref oa]) (rest := []) ⟨hx, hb, hml, hown, hts⟩ (wx_guest_1 l hgl dC dI aG kG f1 f2 dr cl tr se g r inf ct oa ok ou (xs (3 * jj + 1)) (xs (3 * jj + 2)) H.size (by first | assumption | omega) (by first | exact hno | exact Or.inl hno | exact Or.inr hno)) (vx_cwSW 4 hts gL_law_L_guest rfl rfl rfl (by decide +kernel) ⟨Nat.le_of_ble_eq_true rfl, Nat.le_of_ble_eq_true rfl⟩) ⟨gcPN_blind, fun U hU hW => ⟨rfl, by rw [hU], by rw [hU]; exact hPc, va_K.moved hW.alike hKc, hDc.weaken (fun _ _ _ _ => trivial), gcXA_go hXA hS hU hW⟩⟩ rfl rfl hl.1 rfl (lv_room (Nat.le_of_ble_eq_true rfl)) dL_law_584 ⟨show 14 + jj + 1 ≤ 1046 by omega, show 1295 + 6 * jj + 6 ≤ 9535 by omega⟩) hS (fun q _ h => hFc q h) hFc (fun r1 u t H locs ht hvm hw hB hz1 hk1 hS => ?_)
  obtain ⟨hP1, hD1⟩ := hB
  rw [ht] at hP1
  obtain ⟨hP, hD⟩ := va_join (wr := [(aM 0, .inr (1, [.int th, .int (nI g), .int (nI r), .ref (aM 1), .ref (aM 2), .ref (aM 3), .int (-1), .int (-1), .ref (aM 4), .ref (aM 5)])), (aM 1, .inl (kM 1, 30, .inl f1)), (aM 2, .inl (kM 2, 30, .inl f2)), (aM 3, .inl (kM 3, 30, .inl of)), (aM 4, .inl (kM 4, 20, .inl ro)), (aM 5, .inl (kM 5, 20, .inl fa))]) (w1 := (gcW aG kG f1 f2 dr cl tr se (nI g) (nI r) inf (nI ct) ++ ([(oa, .inl (ok, 1, .inr (.inl ou)))]))) hP hD [0, 1, 2, 3, 4, 5, 6, 13] [7, 8, 9, 10, 11, 12] rfl rfl (by decide) (by decide) hk1 hFc hP1 hD1
  have hP : va_P (dC, dI) vwCl (gcW aG kG f1 f2 dr cl tr se (nI g) (nI r) inf (nI ct) ++ (gmW aM kM f1 f2 of ro fa th (nI g) (nI r) (-1) (-1) ++ ([(oa, .inl (ok, 1, .inr (.inl ou)))]))) H := hP.sub [6, 7, 8, 9, 10, 11, 12, 0, 1, 2, 3, 4, 5, 13] rfl
  have hD : va_D (fun q : Nat => s.heap.size ≤ q) (gcW aG kG f1 f2 dr cl tr se (nI g) (nI r) inf (nI ct) ++ (gmW aM kM f1 f2 of ro fa th (nI g) (nI r) (-1) (-1) ++ ([(oa, .inl (ok, 1, .inr (.inl ou)))]))) := hD.sub [6, 7, 8, 9, 10, 11, 12, 0, 1, 2, 3, 4, 5, 13] (by decide) rfl
  have hw : r1 = 1 := hw
  subst hw
  clear hw
  clear hz1 hk1 ht hvm hP1 hD1 hFc hDc
  clear hPc hKc
  refine lv_istore (lv' := [(5, .int 1), (4, .int (nI (3 * jj))), (0, .ref b), (1, .ref (aG 0)), (2, .ref (aM 0)), (3, .ref oa)]) hx hb dL_law_587 hl (by decide) rfl (fun ls hl => ?_)
  refine lv_aload_n hx hb dL_law_589 rfl (lv_at hl 4 rfl) ?_
  refine lv_aload_n hx hb dL_law_590 rfl (lv_at hl 2 rfl) ?_
  refine lv_iload hx hb dL_law_591 (lv_at hl 1 rfl) ?_
  refine lv_iconst (v := 1) hx hb dL_law_593 (by decide) ?_
  refine lv_iadd hx hb dL_law_594 ?_
  refine gc_topi (y := nI (3 * jj + 1)) (nI_add (3 * jj) 1) ?_
  refine va_sld hx hb hXd hbl hbA hS (vp_in_nI (n := (3 * jj + 1)) (by omega) (by omega)) dL_law_595 ?_
  rw [nI_clamp (n := (3 * jj + 1)) (by omega)]
  refine lv_aload_n hx hb dL_law_596 rfl (lv_at hl 2 rfl) ?_
  refine lv_iload hx hb dL_law_597 (lv_at hl 1 rfl) ?_
  refine lv_iconst (v := 2) hx hb dL_law_599 (by decide) ?_
  refine lv_iadd hx hb dL_law_600 ?_
  refine gc_topi (y := nI (3 * jj + 2)) (nI_add (3 * jj) 2) ?_
  refine va_sld hx hb hXd hbl hbA hS (vp_in_nI (n := (3 * jj + 2)) (by omega) (by omega)) dL_law_601 ?_
  rw [nI_clamp (n := (3 * jj + 2)) (by omega)]
  have hPc : va_P (dC, dI) vwCl (gmW aM kM f1 f2 of ro fa th (nI g) (nI r) (-1) (-1)) _ := hP.sub [7, 8, 9, 10, 11, 12] rfl
  have hKc : va_K (dC, dI) vwCl (gmT kM) s := hK.sub [6, 7, 8, 9, 10] rfl
  have hDc : va_D (fun q : Nat => s.heap.size ≤ q) (gmW aM kM f1 f2 of ro fa th (nI g) (nI r) (-1) (-1)) := hD.sub [7, 8, 9, 10, 11, 12] (by decide) rfl
  have hFc := va_free (wc := (gmW aM kM f1 f2 of ro fa th (nI g) (nI r) (-1) (-1))) hD hS hA [7, 8, 9, 10, 11, 12] rfl
  refine va_calli (va_runV (As := [.int (xs (3 * jj + 1)), .int (xs (3 * jj + 2))]) (rest := []) ⟨hx, hb, hml, hown, hts⟩ (c_X1_guest_no l dC dI aM kM f1 f2 of ro fa th g r (-1) (-1) (xs (3 * jj + 1)) (xs (3 * jj + 2)) H.size (by first | assumption | omega) (by first | exact hno | exact Or.inl hno | exact Or.inr hno)) (cwV 2 hts gL_law_X1_guest rfl rfl rfl (by decide +kernel) ⟨Nat.le_of_ble_eq_true rfl, Nat.le_of_ble_eq_true rfl⟩) ⟨gcPM_blind, va_recv hK hP (ci := 1) (q0 := 7) rfl rfl, fun U hU hW => ⟨rfl, by rw [hU], by rw [hU]; exact hPc, va_K.moved hW.alike hKc, hDc.weaken (fun _ _ _ _ => trivial)⟩⟩ rfl rfl hl.1 rfl (lv_room (Nat.le_of_ble_eq_true rfl)) dL_law_602 ⟨show 14 + jj + 1 + 0 ≤ 1046 by omega, show 1295 + 6 * jj + 6 + 0 ≤ 9535 by omega⟩) hS (fun q _ h => hFc q h) hFc (fun r2 u t H locs ht hvm hw hB hz1 hk1 hS => ?_)
  obtain ⟨hP1, hD1⟩ := hB
  rw [ht] at hP1
  obtain ⟨hP, hD⟩ := va_join (wr := [(aG 0, .inr (0, [.ref (aG 1), .ref (aG 2), .ref (aG 3), .ref (aG 4), .ref (aG 5), .ref (aG 6), .int (nI g), .int (nI r), .int inf, .int (nI ct)])), (aG 1, .inl (kG 1, 30, .inl f1)), (aG 2, .inl (kG 2, 30, .inl f2)), (aG 3, .inl (kG 3, 20, .inl dr)), (aG 4, .inl (kG 4, 20, .inl cl)), (aG 5, .inl (kG 5, 20, .inl tr)), (aG 6, .inl (kG 6, 1024, .inl se)), (oa, .inl (ok, 1, .inr (.inl ou)))]) (w1 := (gmW aM kM f1 f2 of ro fa 1 (nI g) (nI r) (-1) (-1))) hP hD [7, 8, 9, 10, 11, 12] [0, 1, 2, 3, 4, 5, 6, 13] rfl rfl (by decide) (by decide) hk1 hFc hP1 hD1
  have hP : va_P (dC, dI) vwCl (gcW aG kG f1 f2 dr cl tr se (nI g) (nI r) inf (nI ct) ++ (gmW aM kM f1 f2 of ro fa 1 (nI g) (nI r) (-1) (-1) ++ ([(oa, .inl (ok, 1, .inr (.inl ou)))]))) H := hP.sub [0, 1, 2, 3, 4, 5, 6, 8, 9, 10, 11, 12, 13, 7] rfl
  have hD : va_D (fun q : Nat => s.heap.size ≤ q) (gcW aG kG f1 f2 dr cl tr se (nI g) (nI r) inf (nI ct) ++ (gmW aM kM f1 f2 of ro fa 1 (nI g) (nI r) (-1) (-1) ++ ([(oa, .inl (ok, 1, .inr (.inl ou)))]))) := hD.sub [0, 1, 2, 3, 4, 5, 6, 8, 9, 10, 11, 12, 13, 7] (by decide) rfl
  have hw_602 : True := hw
  clear hz1 hk1 ht hvm hP1 hD1 hFc hDc
  clear hPc hKc
  refine lv_istore (lv' := [(6, .int r2), (5, .int 1), (4, .int (nI (3 * jj))), (0, .ref b), (1, .ref (aG 0)), (2, .ref (aM 0)), (3, .ref oa)]) hx hb dL_law_605 hl (by decide) rfl (fun ls hl => ?_)
  refine lv_aload_n hx hb dL_law_607 rfl (lv_at hl 5 rfl) ?_
  have hPc : va_P (dC, dI) vwCl (gmW aM kM f1 f2 of ro fa 1 (nI g) (nI r) (-1) (-1)) _ := hP.sub [7, 8, 9, 10, 11, 12] rfl
  have hKc : va_K (dC, dI) vwCl (gmT kM) s := hK.sub [6, 7, 8, 9, 10] rfl
  refine va_calli (va_runV (As := []) (rest := []) ⟨hx, hb, hml, hown, hts⟩ (c_X1_thrown l dC dI aM kM f1 f2 of ro fa 1 g r (-1) (-1)) (cwV 0 hts gL_law_X1_thrown rfl rfl rfl (by decide +kernel) ⟨Nat.le_of_ble_eq_true rfl, Nat.le_of_ble_eq_true rfl⟩) ⟨gcPR_blind, va_recv hK hP (ci := 1) (q0 := 7) rfl rfl, fun U hU hW => ⟨rfl, by rw [hU]; exact hPc, va_K.moved hW.alike hKc⟩⟩ rfl rfl hl.1 rfl (lv_room (Nat.le_of_ble_eq_true rfl)) dL_law_608 ⟨show 14 + jj + 1 + 0 + 0 ≤ 1046 by omega, show 1295 + 6 * jj + 6 + 0 + 0 ≤ 9535 by omega⟩) hS (fun q _ h => h.elim) (fun q h => h.elim) (fun r3 u t H locs ht hvm hw hB hz1 hk1 hS => ?_)
  have hP := gc_keep hP hk1
  have hw : r3 = 1 := hw
  subst hw
  clear hw
  clear hB hz1 hk1 ht hvm
  clear hPc hKc
  refine lv_iload hx hb dL_law_611 (lv_at hl 1 rfl) ?_
  refine lv_icmp_eq (tgt := 618) hx hb dL_law_613 (by decide) (fun c_613 => ?_) (fun c_613 => absurd rfl c_613)
  refine lv_iload hx hb dL_law_618 (lv_at hl 1 rfl) ?_
  refine lv_if_ne (tgt := 635) hx hb dL_law_620 (by decide) (fun c_620 => ?_) (fun c_620 => ?_)
  · skip
    refine lv_goto (tgt := 951) hx hb dL_law_635 (by decide) ?_
    refine lv_iinc (v := nI (3 * (jj + 1))) (lv' := [(4, .int (nI (3 * (jj + 1)))), (6, .int r2), (5, .int 1), (0, .ref b), (1, .ref (aG 0)), (2, .ref (aM 0)), (3, .ref oa)]) hx hb dL_law_951 hl (k := 2) rfl (nI_3 jj) (by decide) rfl (fun ls hl => ?_)
    refine lv_goto (tgt := 23) hx hb dL_law_954 (by decide) ?_
    refine W.widen (k := 14 + (jj + 1)) (n := 1295 + 6 * (jj + 1)) (by omega) (by omega) ?_
    exact ih d H _ ls hd ⟨K, g, r, f1, f2, dr, cl, tr, se, inf, ct, of, ro, fa, 1, ou, hI, hP, hD, hS, lv_sub hl [0, 3, 4, 5, 6] rfl⟩
  · skip
    exact absurd c_620 (by decide)
set_option maxHeartbeats 4000000 in
set_option maxRecDepth 100000 in
theorem law_7y {p : Program} {e : Env} {s : State} {m : MethodId} {below : List Frame} {meth : Method} {c : Code} (l : Launch) (hgl : l.stackTraces = false) {b L : Nat} {xs : Nat → Int32} (hL : L ≤ 1536) (C0 : lw_At p s m meth c b L xs) {dC : Nat → ClassId} {dI : Nat → Nat → Nat} {aG : Nat → Nat} {kG : Nat → ClassId} {aM : Nat → Nat} {kM : Nat → ClassId} {oa : Nat} {ok : ClassId} (hK : va_K (dC, dI) vwCl (gcT kG ++ (gmT kM ++ ([(ok, .long)]))) s) (hXA : gcXA (fun q : Nat => s.heap.size ≤ q) s) {jj : Nat} (hj : 3 * jj + 3 ≤ L) {d : Drawn} (hd : s.drawn.sameBut d lw_cs) {K : Bk} {g r : Nat} {f1 f2 dr cl tr se : Nat → Int32} {inf : Int32} {ct : Nat} {of ro fa : Nat → Int32} {th : Int32} {ou : Nat → Int64} (hI : Inv K g r f1 f2 inf dr cl se ct of) {H : Heap} {locs : List Loc} {ls : Array Slot} (hP : va_P (dC, dI) vwCl (gcW aG kG f1 f2 dr cl tr se (nI g) (nI r) inf (nI ct) ++ (gmW aM kM f1 f2 of ro fa th (nI g) (nI r) (-1) (-1) ++ ([(oa, .inl (ok, 1, .inr (.inl ou)))]))) H) (hD : va_D (fun q : Nat => s.heap.size ≤ q) (gcW aG kG f1 f2 dr cl tr se (nI g) (nI r) inf (nI ct) ++ (gmW aM kM f1 f2 of ro fa th (nI g) (nI r) (-1) (-1) ++ ([(oa, .inl (ok, 1, .inr (.inl ou)))])))) (hS : va_S (fun q : Nat => s.heap.size ≤ q) s.heap H locs) (hl : lv_has ls 9 [(4, .int (nI (3 * jj))), (0, .ref b), (1, .ref (aG 0)), (2, .ref (aM 0)), (3, .ref oa)]) (ih : ∀ (d1 : Drawn) (H1 : Heap) (locs1 : List Loc) (ls1 : Array Slot), s.drawn.sameBut d1 lw_cs → LSt dC dI s b aG kG aM kM oa ok (jj + 1) H1 locs1 ls1 → W p l e room_1 (s.setDrawn d1) m #[Value.ref b] below meth c H1 locs1 (14 + (jj + 1)) (1295 + 6 * (jj + 1)) (lw_Z below #[Value.ref b] s) (F0 m 23 ls1 [])) {x : Nat} (hx2 : x < g) (h1 : xs (3 * jj + 1) = nI x) (hno : ∀ q : Nat, q < 4 → xs (3 * jj + 2) ≠ nI q) : W p l e room_1 (s.setDrawn d) m #[Value.ref b] below meth c H locs (14 + jj) (1295 + 6 * jj) (lw_Z below #[Value.ref b] s) (F0 m 570 ls []) := by
  obtain ⟨hx, hb, hr, hml, hown, hts0, hX, hbl, hlocks, hgv⟩ := C0
  have hown : s.vm.findClass RL = some m.cls := hown
  have hts1 : ∀ w ∈ wsL_law, w.before #[Value.ref b] s = true := fun w h => hts0 w (wsL_law_in w h)
  have hts := dr_words hts1 d
  have hA : ∀ q : Nat, s.heap.size ≤ q → (fun q : Nat => s.heap.size ≤ q) q := fun _ h => h
  have hbA : ¬ (fun q : Nat => s.heap.size ≤ q) b := Nat.not_le.mpr hbl
  obtain ⟨hg10, hr30, hOK, hz, hBk, hof, hDr, hCl, s0, hse, hct⟩ := id hI
  have hKd : va_K (dC, dI) vwCl (gcT kG ++ (gmT kM ++ ([(ok, .long)]))) (s.setDrawn d) := hK
  have hXd : va_X b L xs (s.setDrawn d) s.heap := hX
  have hKg := gOK_Kg hOK
  have hKr : K.1 ≤ 30 := by rw [hOK.1]; exact hr30
  have hLF : LF K g se ct := by rw [hse, hct]; exact LF_of hg10 hKg hCl s0
  have hc1024 : ct ≤ 1024 := hLF.2
  have hft : gFt cl g = decide (0 < ct) := by rw [hct]; exact ft_pos hg10 hKg hCl s0
  refine lv_aload_n hx hb dL_law_570 rfl (lv_at hl 2 rfl) ?_
  refine lv_aload_n hx hb dL_law_571 rfl (lv_at hl 1 rfl) ?_
  refine lv_iload hx hb dL_law_572 (lv_at hl 0 rfl) ?_
  refine lv_iconst (v := 1) hx hb dL_law_574 (by decide) ?_
  refine lv_iadd hx hb dL_law_575 ?_
  refine gc_topi (y := nI (3 * jj + 1)) (nI_add (3 * jj) 1) ?_
  refine va_sld hx hb hXd hbl hbA hS (vp_in_nI (n := (3 * jj + 1)) (by omega) (by omega)) dL_law_576 ?_
  rw [nI_clamp (n := (3 * jj + 1)) (by omega)]
  refine gc_topi (y := nI x) (h1) ?_
  refine lv_aload_n hx hb dL_law_577 rfl (lv_at hl 1 rfl) ?_
  refine lv_iload hx hb dL_law_578 (lv_at hl 0 rfl) ?_
  refine lv_iconst (v := 2) hx hb dL_law_580 (by decide) ?_
  refine lv_iadd hx hb dL_law_581 ?_
  refine gc_topi (y := nI (3 * jj + 2)) (nI_add (3 * jj) 2) ?_
  refine va_sld hx hb hXd hbl hbA hS (vp_in_nI (n := (3 * jj + 2)) (by omega) (by omega)) dL_law_582 ?_
  rw [nI_clamp (n := (3 * jj + 2)) (by omega)]
  refine lv_aload_n hx hb dL_law_583 rfl (lv_at hl 4 rfl) ?_
  have hPc : va_P (dC, dI) vwCl (gcW aG kG f1 f2 dr cl tr se (nI g) (nI r) inf (nI ct) ++ ([(oa, .inl (ok, 1, .inr (.inl ou)))])) _ := hP.sub [0, 1, 2, 3, 4, 5, 6, 13] rfl
  have hKc : va_K (dC, dI) vwCl (gcT kG ++ ([(ok, .long)])) s := hK.sub [0, 1, 2, 3, 4, 5, 11] rfl
  have hDc : va_D (fun q : Nat => s.heap.size ≤ q) (gcW aG kG f1 f2 dr cl tr se (nI g) (nI r) inf (nI ct) ++ ([(oa, .inl (ok, 1, .inr (.inl ou)))])) := hD.sub [0, 1, 2, 3, 4, 5, 6, 13] (by decide) rfl
  have hFc := va_free (wc := (gcW aG kG f1 f2 dr cl tr se (nI g) (nI r) inf (nI ct) ++ ([(oa, .inl (ok, 1, .inr (.inl ou)))]))) hD hS hA [0, 1, 2, 3, 4, 5, 6, 13] rfl
  refine va_calli (vx_runSW (As := [.ref (aG 0), .int (nI x), .int (xs (3 * jj + 2)), .ref oa]) (rest := []) ⟨hx, hb, hml, hown, hts⟩ (wx_guest_2 l hgl dC dI aG kG f1 f2 dr cl tr se g r inf ct oa ok ou x (xs (3 * jj + 2)) H.size (by first | assumption | omega) (by first | assumption | omega) (by first | exact hno | exact Or.inl hno | exact Or.inr hno)) (vx_cwSW 4 hts gL_law_L_guest rfl rfl rfl (by decide +kernel) ⟨Nat.le_of_ble_eq_true rfl, Nat.le_of_ble_eq_true rfl⟩) ⟨gcPN_blind, fun U hU hW => ⟨rfl, by rw [hU], by rw [hU]; exact hPc, va_K.moved hW.alike hKc, hDc.weaken (fun _ _ _ _ => trivial), gcXA_go hXA hS hU hW⟩⟩ rfl rfl hl.1 rfl (lv_room (Nat.le_of_ble_eq_true rfl)) dL_law_584 ⟨show 14 + jj + 1 ≤ 1046 by omega, show 1295 + 6 * jj + 6 ≤ 9535 by omega⟩) hS (fun q _ h => hFc q h) hFc (fun r1 u t H locs ht hvm hw hB hz1 hk1 hS => ?_)
  obtain ⟨hP1, hD1⟩ := hB
  rw [ht] at hP1
  obtain ⟨hP, hD⟩ := va_join (wr := [(aM 0, .inr (1, [.int th, .int (nI g), .int (nI r), .ref (aM 1), .ref (aM 2), .ref (aM 3), .int (-1), .int (-1), .ref (aM 4), .ref (aM 5)])), (aM 1, .inl (kM 1, 30, .inl f1)), (aM 2, .inl (kM 2, 30, .inl f2)), (aM 3, .inl (kM 3, 30, .inl of)), (aM 4, .inl (kM 4, 20, .inl ro)), (aM 5, .inl (kM 5, 20, .inl fa))]) (w1 := (gcW aG kG f1 f2 dr cl tr se (nI g) (nI r) inf (nI ct) ++ ([(oa, .inl (ok, 1, .inr (.inl ou)))]))) hP hD [0, 1, 2, 3, 4, 5, 6, 13] [7, 8, 9, 10, 11, 12] rfl rfl (by decide) (by decide) hk1 hFc hP1 hD1
  have hP : va_P (dC, dI) vwCl (gcW aG kG f1 f2 dr cl tr se (nI g) (nI r) inf (nI ct) ++ (gmW aM kM f1 f2 of ro fa th (nI g) (nI r) (-1) (-1) ++ ([(oa, .inl (ok, 1, .inr (.inl ou)))]))) H := hP.sub [6, 7, 8, 9, 10, 11, 12, 0, 1, 2, 3, 4, 5, 13] rfl
  have hD : va_D (fun q : Nat => s.heap.size ≤ q) (gcW aG kG f1 f2 dr cl tr se (nI g) (nI r) inf (nI ct) ++ (gmW aM kM f1 f2 of ro fa th (nI g) (nI r) (-1) (-1) ++ ([(oa, .inl (ok, 1, .inr (.inl ou)))]))) := hD.sub [6, 7, 8, 9, 10, 11, 12, 0, 1, 2, 3, 4, 5, 13] (by decide) rfl
  have hw : r1 = 1 := hw
  subst hw
  clear hw
  clear hz1 hk1 ht hvm hP1 hD1 hFc hDc
  clear hPc hKc
  refine lv_istore (lv' := [(5, .int 1), (4, .int (nI (3 * jj))), (0, .ref b), (1, .ref (aG 0)), (2, .ref (aM 0)), (3, .ref oa)]) hx hb dL_law_587 hl (by decide) rfl (fun ls hl => ?_)
  refine lv_aload_n hx hb dL_law_589 rfl (lv_at hl 4 rfl) ?_
  refine lv_aload_n hx hb dL_law_590 rfl (lv_at hl 2 rfl) ?_
  refine lv_iload hx hb dL_law_591 (lv_at hl 1 rfl) ?_
  refine lv_iconst (v := 1) hx hb dL_law_593 (by decide) ?_
  refine lv_iadd hx hb dL_law_594 ?_
  refine gc_topi (y := nI (3 * jj + 1)) (nI_add (3 * jj) 1) ?_
  refine va_sld hx hb hXd hbl hbA hS (vp_in_nI (n := (3 * jj + 1)) (by omega) (by omega)) dL_law_595 ?_
  rw [nI_clamp (n := (3 * jj + 1)) (by omega)]
  refine gc_topi (y := nI x) (h1) ?_
  refine lv_aload_n hx hb dL_law_596 rfl (lv_at hl 2 rfl) ?_
  refine lv_iload hx hb dL_law_597 (lv_at hl 1 rfl) ?_
  refine lv_iconst (v := 2) hx hb dL_law_599 (by decide) ?_
  refine lv_iadd hx hb dL_law_600 ?_
  refine gc_topi (y := nI (3 * jj + 2)) (nI_add (3 * jj) 2) ?_
  refine va_sld hx hb hXd hbl hbA hS (vp_in_nI (n := (3 * jj + 2)) (by omega) (by omega)) dL_law_601 ?_
  rw [nI_clamp (n := (3 * jj + 2)) (by omega)]
  have hPc : va_P (dC, dI) vwCl (gmW aM kM f1 f2 of ro fa th (nI g) (nI r) (-1) (-1)) _ := hP.sub [7, 8, 9, 10, 11, 12] rfl
  have hKc : va_K (dC, dI) vwCl (gmT kM) s := hK.sub [6, 7, 8, 9, 10] rfl
  have hDc : va_D (fun q : Nat => s.heap.size ≤ q) (gmW aM kM f1 f2 of ro fa th (nI g) (nI r) (-1) (-1)) := hD.sub [7, 8, 9, 10, 11, 12] (by decide) rfl
  have hFc := va_free (wc := (gmW aM kM f1 f2 of ro fa th (nI g) (nI r) (-1) (-1))) hD hS hA [7, 8, 9, 10, 11, 12] rfl
  refine va_calli (va_runV (As := [.int (nI x), .int (xs (3 * jj + 2))]) (rest := []) ⟨hx, hb, hml, hown, hts⟩ (c_X1_guest_no l dC dI aM kM f1 f2 of ro fa th g r (-1) (-1) (nI x) (xs (3 * jj + 2)) H.size (by first | assumption | omega) (by first | exact hno | exact Or.inl hno | exact Or.inr hno)) (cwV 2 hts gL_law_X1_guest rfl rfl rfl (by decide +kernel) ⟨Nat.le_of_ble_eq_true rfl, Nat.le_of_ble_eq_true rfl⟩) ⟨gcPM_blind, va_recv hK hP (ci := 1) (q0 := 7) rfl rfl, fun U hU hW => ⟨rfl, by rw [hU], by rw [hU]; exact hPc, va_K.moved hW.alike hKc, hDc.weaken (fun _ _ _ _ => trivial)⟩⟩ rfl rfl hl.1 rfl (lv_room (Nat.le_of_ble_eq_true rfl)) dL_law_602 ⟨show 14 + jj + 1 + 0 ≤ 1046 by omega, show 1295 + 6 * jj + 6 + 0 ≤ 9535 by omega⟩) hS (fun q _ h => hFc q h) hFc (fun r2 u t H locs ht hvm hw hB hz1 hk1 hS => ?_)
  obtain ⟨hP1, hD1⟩ := hB
  rw [ht] at hP1
  obtain ⟨hP, hD⟩ := va_join (wr := [(aG 0, .inr (0, [.ref (aG 1), .ref (aG 2), .ref (aG 3), .ref (aG 4), .ref (aG 5), .ref (aG 6), .int (nI g), .int (nI r), .int inf, .int (nI ct)])), (aG 1, .inl (kG 1, 30, .inl f1)), (aG 2, .inl (kG 2, 30, .inl f2)), (aG 3, .inl (kG 3, 20, .inl dr)), (aG 4, .inl (kG 4, 20, .inl cl)), (aG 5, .inl (kG 5, 20, .inl tr)), (aG 6, .inl (kG 6, 1024, .inl se)), (oa, .inl (ok, 1, .inr (.inl ou)))]) (w1 := (gmW aM kM f1 f2 of ro fa 1 (nI g) (nI r) (-1) (-1))) hP hD [7, 8, 9, 10, 11, 12] [0, 1, 2, 3, 4, 5, 6, 13] rfl rfl (by decide) (by decide) hk1 hFc hP1 hD1
  have hP : va_P (dC, dI) vwCl (gcW aG kG f1 f2 dr cl tr se (nI g) (nI r) inf (nI ct) ++ (gmW aM kM f1 f2 of ro fa 1 (nI g) (nI r) (-1) (-1) ++ ([(oa, .inl (ok, 1, .inr (.inl ou)))]))) H := hP.sub [0, 1, 2, 3, 4, 5, 6, 8, 9, 10, 11, 12, 13, 7] rfl
  have hD : va_D (fun q : Nat => s.heap.size ≤ q) (gcW aG kG f1 f2 dr cl tr se (nI g) (nI r) inf (nI ct) ++ (gmW aM kM f1 f2 of ro fa 1 (nI g) (nI r) (-1) (-1) ++ ([(oa, .inl (ok, 1, .inr (.inl ou)))]))) := hD.sub [0, 1, 2, 3, 4, 5, 6, 8, 9, 10, 11, 12, 13, 7] (by decide) rfl
  have hw_602 : True := hw
  clear hz1 hk1 ht hvm hP1 hD1 hFc hDc
  clear hPc hKc
  refine lv_istore (lv' := [(6, .int r2), (5, .int 1), (4, .int (nI (3 * jj))), (0, .ref b), (1, .ref (aG 0)), (2, .ref (aM 0)), (3, .ref oa)]) hx hb dL_law_605 hl (by decide) rfl (fun ls hl => ?_)
  refine lv_aload_n hx hb dL_law_607 rfl (lv_at hl 5 rfl) ?_
  have hPc : va_P (dC, dI) vwCl (gmW aM kM f1 f2 of ro fa 1 (nI g) (nI r) (-1) (-1)) _ := hP.sub [7, 8, 9, 10, 11, 12] rfl
  have hKc : va_K (dC, dI) vwCl (gmT kM) s := hK.sub [6, 7, 8, 9, 10] rfl
  refine va_calli (va_runV (As := []) (rest := []) ⟨hx, hb, hml, hown, hts⟩ (c_X1_thrown l dC dI aM kM f1 f2 of ro fa 1 g r (-1) (-1)) (cwV 0 hts gL_law_X1_thrown rfl rfl rfl (by decide +kernel) ⟨Nat.le_of_ble_eq_true rfl, Nat.le_of_ble_eq_true rfl⟩) ⟨gcPR_blind, va_recv hK hP (ci := 1) (q0 := 7) rfl rfl, fun U hU hW => ⟨rfl, by rw [hU]; exact hPc, va_K.moved hW.alike hKc⟩⟩ rfl rfl hl.1 rfl (lv_room (Nat.le_of_ble_eq_true rfl)) dL_law_608 ⟨show 14 + jj + 1 + 0 + 0 ≤ 1046 by omega, show 1295 + 6 * jj + 6 + 0 + 0 ≤ 9535 by omega⟩) hS (fun q _ h => h.elim) (fun q h => h.elim) (fun r3 u t H locs ht hvm hw hB hz1 hk1 hS => ?_)
  have hP := gc_keep hP hk1
  have hw : r3 = 1 := hw
  subst hw
  clear hw
  clear hB hz1 hk1 ht hvm
  clear hPc hKc
  refine lv_iload hx hb dL_law_611 (lv_at hl 1 rfl) ?_
  refine lv_icmp_eq (tgt := 618) hx hb dL_law_613 (by decide) (fun c_613 => ?_) (fun c_613 => absurd rfl c_613)
  refine lv_iload hx hb dL_law_618 (lv_at hl 1 rfl) ?_
  refine lv_if_ne (tgt := 635) hx hb dL_law_620 (by decide) (fun c_620 => ?_) (fun c_620 => ?_)
  · skip
    refine lv_goto (tgt := 951) hx hb dL_law_635 (by decide) ?_
    refine lv_iinc (v := nI (3 * (jj + 1))) (lv' := [(4, .int (nI (3 * (jj + 1)))), (6, .int r2), (5, .int 1), (0, .ref b), (1, .ref (aG 0)), (2, .ref (aM 0)), (3, .ref oa)]) hx hb dL_law_951 hl (k := 2) rfl (nI_3 jj) (by decide) rfl (fun ls hl => ?_)
    refine lv_goto (tgt := 23) hx hb dL_law_954 (by decide) ?_
    refine W.widen (k := 14 + (jj + 1)) (n := 1295 + 6 * (jj + 1)) (by omega) (by omega) ?_
    exact ih d H _ ls hd ⟨K, g, r, f1, f2, dr, cl, tr, se, inf, ct, of, ro, fa, 1, ou, hI, hP, hD, hS, lv_sub hl [0, 3, 4, 5, 6] rfl⟩
  · skip
    exact absurd c_620 (by decide)
set_option maxHeartbeats 4000000 in
set_option maxRecDepth 100000 in
theorem law_8 {p : Program} {e : Env} {s : State} {m : MethodId} {below : List Frame} {meth : Method} {c : Code} (l : Launch) (hgl : l.stackTraces = false) {b L : Nat} {xs : Nat → Int32} (hL : L ≤ 1536) (C0 : lw_At p s m meth c b L xs) {dC : Nat → ClassId} {dI : Nat → Nat → Nat} {aG : Nat → Nat} {kG : Nat → ClassId} {aM : Nat → Nat} {kM : Nat → ClassId} {oa : Nat} {ok : ClassId} (hK : va_K (dC, dI) vwCl (gcT kG ++ (gmT kM ++ ([(ok, .long)]))) s) (hXA : gcXA (fun q : Nat => s.heap.size ≤ q) s) {jj : Nat} (hj : 3 * jj + 3 ≤ L) {d : Drawn} (hd : s.drawn.sameBut d lw_cs) {K : Bk} {g r : Nat} {f1 f2 dr cl tr se : Nat → Int32} {inf : Int32} {ct : Nat} {of ro fa : Nat → Int32} {th : Int32} {ou : Nat → Int64} (hI : Inv K g r f1 f2 inf dr cl se ct of) {H : Heap} {locs : List Loc} {ls : Array Slot} (hP : va_P (dC, dI) vwCl (gcW aG kG f1 f2 dr cl tr se (nI g) (nI r) inf (nI ct) ++ (gmW aM kM f1 f2 of ro fa th (nI g) (nI r) (-1) (-1) ++ ([(oa, .inl (ok, 1, .inr (.inl ou)))]))) H) (hD : va_D (fun q : Nat => s.heap.size ≤ q) (gcW aG kG f1 f2 dr cl tr se (nI g) (nI r) inf (nI ct) ++ (gmW aM kM f1 f2 of ro fa th (nI g) (nI r) (-1) (-1) ++ ([(oa, .inl (ok, 1, .inr (.inl ou)))])))) (hS : va_S (fun q : Nat => s.heap.size ≤ q) s.heap H locs) (hl : lv_has ls 9 [(4, .int (nI (3 * jj))), (0, .ref b), (1, .ref (aG 0)), (2, .ref (aM 0)), (3, .ref oa)]) (ih : ∀ (d1 : Drawn) (H1 : Heap) (locs1 : List Loc) (ls1 : Array Slot), s.drawn.sameBut d1 lw_cs → LSt dC dI s b aG kG aM kM oa ok (jj + 1) H1 locs1 ls1 → W p l e room_1 (s.setDrawn d1) m #[Value.ref b] below meth c H1 locs1 (14 + (jj + 1)) (1295 + 6 * (jj + 1)) (lw_Z below #[Value.ref b] s) (F0 m 23 ls1 []))  : W p l e room_1 (s.setDrawn d) m #[Value.ref b] below meth c H locs (14 + jj) (1295 + 6 * jj) (lw_Z below #[Value.ref b] s) (F0 m 638 ls []) := by
  obtain ⟨hx, hb, hr, hml, hown, hts0, hX, hbl, hlocks, hgv⟩ := C0
  have hown : s.vm.findClass RL = some m.cls := hown
  have hts1 : ∀ w ∈ wsL_law, w.before #[Value.ref b] s = true := fun w h => hts0 w (wsL_law_in w h)
  have hts := dr_words hts1 d
  have hA : ∀ q : Nat, s.heap.size ≤ q → (fun q : Nat => s.heap.size ≤ q) q := fun _ h => h
  have hbA : ¬ (fun q : Nat => s.heap.size ≤ q) b := Nat.not_le.mpr hbl
  obtain ⟨hg10, hr30, hOK, hz, hBk, hof, hDr, hCl, s0, hse, hct⟩ := id hI
  have hKd : va_K (dC, dI) vwCl (gcT kG ++ (gmT kM ++ ([(ok, .long)]))) (s.setDrawn d) := hK
  have hXd : va_X b L xs (s.setDrawn d) s.heap := hX
  have hKg := gOK_Kg hOK
  have hKr : K.1 ≤ 30 := by rw [hOK.1]; exact hr30
  have hLF : LF K g se ct := by rw [hse, hct]; exact LF_of hg10 hKg hCl s0
  have hc1024 : ct ≤ 1024 := hLF.2
  have hft : gFt cl g = decide (0 < ct) := by rw [hct]; exact ft_pos hg10 hKg hCl s0
  refine lv_aload_n hx hb dL_law_638 rfl (lv_at hl 2 rfl) ?_
  have hPc : va_P (dC, dI) vwCl (gcW aG kG f1 f2 dr cl tr se (nI g) (nI r) inf (nI ct)) _ := hP.sub [0, 1, 2, 3, 4, 5, 6] rfl
  have hKc : va_K (dC, dI) vwCl (gcT kG) s := hK.sub [0, 1, 2, 3, 4, 5] rfl
  refine va_calli (va_runV (As := []) (rest := []) ⟨hx, hb, hml, hown, hts⟩ (c_X0_fits l dC dI aG kG f1 f2 dr cl tr se g r inf ct (by first | assumption | omega) (by first | assumption | omega)) (cwV 0 hts gL_law_X0_fits rfl rfl rfl (by decide +kernel) ⟨Nat.le_of_ble_eq_true rfl, Nat.le_of_ble_eq_true rfl⟩) ⟨gcPR_blind, va_recv hK hP (ci := 0) (q0 := 0) rfl rfl, fun U hU hW => ⟨rfl, by rw [hU]; exact hPc, va_K.moved hW.alike hKc⟩⟩ rfl rfl hl.1 rfl (lv_room (Nat.le_of_ble_eq_true rfl)) dL_law_639 ⟨show 14 + jj + 0 ≤ 1046 by omega, show 1295 + 6 * jj + 0 ≤ 9535 by omega⟩) hS (fun q _ h => h.elim) (fun q h => h.elim) (fun r1 u t H locs ht hvm hw hB hz1 hk1 hS => ?_)
  have hP := gc_keep hP hk1
  have hw : r1 = gB (gFt cl g) := hw
  subst hw
  clear hw
  clear hB hz1 hk1 ht hvm
  clear hPc hKc
  refine gc_topi (y := gB (mPo (mAll K (-1) (-1) g))) (by rw [fits_eq hg10 hKg hKr hCl]) ?_
  refine lv_aload_n hx hb dL_law_642 rfl (lv_at hl 3 rfl) ?_
  have hPc : va_P (dC, dI) vwCl (gmW aM kM f1 f2 of ro fa th (nI g) (nI r) (-1) (-1)) _ := hP.sub [7, 8, 9, 10, 11, 12] rfl
  have hKc : va_K (dC, dI) vwCl (gmT kM) s := hK.sub [6, 7, 8, 9, 10] rfl
  have hDc : va_D (fun q : Nat => s.heap.size ≤ q) (gmW aM kM f1 f2 of ro fa th (nI g) (nI r) (-1) (-1)) := hD.sub [7, 8, 9, 10, 11, 12] (by decide) rfl
  have hFc := va_free (wc := (gmW aM kM f1 f2 of ro fa th (nI g) (nI r) (-1) (-1))) hD hS hA [7, 8, 9, 10, 11, 12] rfl
  refine va_calli (va_runV (As := []) (rest := [.int (gB (mPo (mAll K (-1) (-1) g)))]) ⟨hx, hb, hml, hown, hts⟩ (c_X1_fits l dC dI aM kM f1 f2 of ro fa th g r (-1) (-1) K H.size (by first | assumption | omega) (by first | assumption | omega) (by first | assumption | omega)) (cwV 0 hts gL_law_X1_fits rfl rfl rfl (by decide +kernel) ⟨Nat.le_of_ble_eq_true rfl, Nat.le_of_ble_eq_true rfl⟩) ⟨gcPM_blind, va_recv hK hP (ci := 1) (q0 := 7) rfl rfl, fun U hU hW => ⟨rfl, by rw [hU], by rw [hU]; exact hPc, va_K.moved hW.alike hKc, hDc.weaken (fun _ _ _ _ => trivial)⟩⟩ rfl rfl hl.1 rfl (lv_room (Nat.le_of_ble_eq_true rfl)) dL_law_643 ⟨show 14 + jj + 0 + 0 ≤ 1046 by omega, show 1295 + 6 * jj + 0 + 0 ≤ 9535 by omega⟩) hS (fun q _ h => hFc q h) hFc (fun r2 u t H locs ht hvm hw hB hz1 hk1 hS => ?_)
  obtain ⟨hP1, hD1⟩ := hB
  rw [ht] at hP1
  obtain ⟨hP, hD⟩ := va_join (wr := [(aG 0, .inr (0, [.ref (aG 1), .ref (aG 2), .ref (aG 3), .ref (aG 4), .ref (aG 5), .ref (aG 6), .int (nI g), .int (nI r), .int inf, .int (nI ct)])), (aG 1, .inl (kG 1, 30, .inl f1)), (aG 2, .inl (kG 2, 30, .inl f2)), (aG 3, .inl (kG 3, 20, .inl dr)), (aG 4, .inl (kG 4, 20, .inl cl)), (aG 5, .inl (kG 5, 20, .inl tr)), (aG 6, .inl (kG 6, 1024, .inl se)), (oa, .inl (ok, 1, .inr (.inl ou)))]) (w1 := (gmW aM kM f1 f2 of ro fa 0 (nI g) (nI r) (-1) (-1))) hP hD [7, 8, 9, 10, 11, 12] [0, 1, 2, 3, 4, 5, 6, 13] rfl rfl (by decide) (by decide) hk1 hFc hP1 hD1
  have hP : va_P (dC, dI) vwCl (gcW aG kG f1 f2 dr cl tr se (nI g) (nI r) inf (nI ct) ++ (gmW aM kM f1 f2 of ro fa 0 (nI g) (nI r) (-1) (-1) ++ ([(oa, .inl (ok, 1, .inr (.inl ou)))]))) H := hP.sub [0, 1, 2, 3, 4, 5, 6, 8, 9, 10, 11, 12, 13, 7] rfl
  have hD : va_D (fun q : Nat => s.heap.size ≤ q) (gcW aG kG f1 f2 dr cl tr se (nI g) (nI r) inf (nI ct) ++ (gmW aM kM f1 f2 of ro fa 0 (nI g) (nI r) (-1) (-1) ++ ([(oa, .inl (ok, 1, .inr (.inl ou)))]))) := hD.sub [0, 1, 2, 3, 4, 5, 6, 8, 9, 10, 11, 12, 13, 7] (by decide) rfl
  have hw : r2 = gB (mPo (mAll K (-1) (-1) g)) := hw
  subst hw
  clear hw
  clear hz1 hk1 ht hvm hP1 hD1 hFc hDc
  clear hPc hKc
  refine lv_icmp_eq (tgt := 951) hx hb dL_law_646 (by decide) (fun c_646 => ?_) (fun c_646 => absurd rfl c_646)
  refine lv_iinc (v := nI (3 * (jj + 1))) (lv' := [(4, .int (nI (3 * (jj + 1)))), (0, .ref b), (1, .ref (aG 0)), (2, .ref (aM 0)), (3, .ref oa)]) hx hb dL_law_951 hl (k := 0) rfl (nI_3 jj) (by decide) rfl (fun ls hl => ?_)
  refine lv_goto (tgt := 23) hx hb dL_law_954 (by decide) ?_
  refine W.widen (k := 14 + (jj + 1)) (n := 1295 + 6 * (jj + 1)) (by omega) (by omega) ?_
  exact ih d H _ ls hd ⟨K, g, r, f1, f2, dr, cl, tr, se, inf, ct, of, ro, fa, 0, ou, hI, hP, hD, hS, lv_sub hl [0, 1, 2, 3, 4] rfl⟩
set_option maxHeartbeats 4000000 in
set_option maxRecDepth 100000 in
theorem law_9 {p : Program} {e : Env} {s : State} {m : MethodId} {below : List Frame} {meth : Method} {c : Code} (l : Launch) (hgl : l.stackTraces = false) {b L : Nat} {xs : Nat → Int32} (hL : L ≤ 1536) (C0 : lw_At p s m meth c b L xs) {dC : Nat → ClassId} {dI : Nat → Nat → Nat} {aG : Nat → Nat} {kG : Nat → ClassId} {aM : Nat → Nat} {kM : Nat → ClassId} {oa : Nat} {ok : ClassId} (hK : va_K (dC, dI) vwCl (gcT kG ++ (gmT kM ++ ([(ok, .long)]))) s) (hXA : gcXA (fun q : Nat => s.heap.size ≤ q) s) {jj : Nat} (hj : 3 * jj + 3 ≤ L) {d : Drawn} (hd : s.drawn.sameBut d lw_cs) {K : Bk} {g r : Nat} {f1 f2 dr cl tr se : Nat → Int32} {inf : Int32} {ct : Nat} {of ro fa : Nat → Int32} {th : Int32} {ou : Nat → Int64} (hI : Inv K g r f1 f2 inf dr cl se ct of) {H : Heap} {locs : List Loc} {ls : Array Slot} (hP : va_P (dC, dI) vwCl (gcW aG kG f1 f2 dr cl tr se (nI g) (nI r) inf (nI ct) ++ (gmW aM kM f1 f2 of ro fa th (nI g) (nI r) (-1) (-1) ++ ([(oa, .inl (ok, 1, .inr (.inl ou)))]))) H) (hD : va_D (fun q : Nat => s.heap.size ≤ q) (gcW aG kG f1 f2 dr cl tr se (nI g) (nI r) inf (nI ct) ++ (gmW aM kM f1 f2 of ro fa th (nI g) (nI r) (-1) (-1) ++ ([(oa, .inl (ok, 1, .inr (.inl ou)))])))) (hS : va_S (fun q : Nat => s.heap.size ≤ q) s.heap H locs) (hl : lv_has ls 9 [(4, .int (nI (3 * jj))), (0, .ref b), (1, .ref (aG 0)), (2, .ref (aM 0)), (3, .ref oa)]) (ih : ∀ (d1 : Drawn) (H1 : Heap) (locs1 : List Loc) (ls1 : Array Slot), s.drawn.sameBut d1 lw_cs → LSt dC dI s b aG kG aM kM oa ok (jj + 1) H1 locs1 ls1 → W p l e room_1 (s.setDrawn d1) m #[Value.ref b] below meth c H1 locs1 (14 + (jj + 1)) (1295 + 6 * (jj + 1)) (lw_Z below #[Value.ref b] s) (F0 m 23 ls1 []))  : W p l e room_1 (s.setDrawn d) m #[Value.ref b] below meth c H locs (14 + jj) (1295 + 6 * jj) (lw_Z below #[Value.ref b] s) (F0 m 651 ls []) := by
  obtain ⟨hx, hb, hr, hml, hown, hts0, hX, hbl, hlocks, hgv⟩ := C0
  have hown : s.vm.findClass RL = some m.cls := hown
  have hts1 : ∀ w ∈ wsL_law, w.before #[Value.ref b] s = true := fun w h => hts0 w (wsL_law_in w h)
  have hts := dr_words hts1 d
  have hA : ∀ q : Nat, s.heap.size ≤ q → (fun q : Nat => s.heap.size ≤ q) q := fun _ h => h
  have hbA : ¬ (fun q : Nat => s.heap.size ≤ q) b := Nat.not_le.mpr hbl
  obtain ⟨hg10, hr30, hOK, hz, hBk, hof, hDr, hCl, s0, hse, hct⟩ := id hI
  have hKd : va_K (dC, dI) vwCl (gcT kG ++ (gmT kM ++ ([(ok, .long)]))) (s.setDrawn d) := hK
  have hXd : va_X b L xs (s.setDrawn d) s.heap := hX
  have hKg := gOK_Kg hOK
  have hKr : K.1 ≤ 30 := by rw [hOK.1]; exact hr30
  have hLF : LF K g se ct := by rw [hse, hct]; exact LF_of hg10 hKg hCl s0
  have hc1024 : ct ≤ 1024 := hLF.2
  have hft : gFt cl g = decide (0 < ct) := by rw [hct]; exact ft_pos hg10 hKg hCl s0
  refine lv_aload_n hx hb dL_law_651 rfl (lv_at hl 2 rfl) ?_
  have hPc : va_P (dC, dI) vwCl (gcW aG kG f1 f2 dr cl tr se (nI g) (nI r) inf (nI ct)) _ := hP.sub [0, 1, 2, 3, 4, 5, 6] rfl
  have hKc : va_K (dC, dI) vwCl (gcT kG) s := hK.sub [0, 1, 2, 3, 4, 5] rfl
  refine va_calli (va_runV (As := []) (rest := []) ⟨hx, hb, hml, hown, hts⟩ (c_X0_seat l dC dI aG kG f1 f2 dr cl tr se g r inf ct (by first | assumption | omega) (by first | assumption | omega)) (cwV 0 hts gL_law_X0_seat rfl rfl rfl (by decide +kernel) ⟨Nat.le_of_ble_eq_true rfl, Nat.le_of_ble_eq_true rfl⟩) ⟨gcPR_blind, va_recv hK hP (ci := 0) (q0 := 0) rfl rfl, fun U hU hW => ⟨rfl, by rw [hU]; exact hPc, va_K.moved hW.alike hKc⟩⟩ rfl rfl hl.1 rfl (lv_room (Nat.le_of_ble_eq_true rfl)) dL_law_652 ⟨show 14 + jj + 0 ≤ 1046 by omega, show 1295 + 6 * jj + 0 ≤ 9535 by omega⟩) hS (fun q _ h => h.elim) (fun q h => h.elim) (fun r1 u t H locs ht hvm hw hB hz1 hk1 hS => ?_)
  have hP := gc_keep hP hk1
  have hw : r1 = (if ct = 0 then -1 else gGC (gAt 1024 se 0) g) := hw
  subst hw
  clear hw
  clear hB hz1 hk1 ht hvm
  clear hPc hKc
  refine gc_topi (y := mSe K (-1) (-1) g) (by rw [hse, hct]; exact seat_eq hg10 hKg hKr hCl s0) ?_
  refine lv_aload_n hx hb dL_law_655 rfl (lv_at hl 3 rfl) ?_
  have hPc : va_P (dC, dI) vwCl (gmW aM kM f1 f2 of ro fa th (nI g) (nI r) (-1) (-1)) _ := hP.sub [7, 8, 9, 10, 11, 12] rfl
  have hKc : va_K (dC, dI) vwCl (gmT kM) s := hK.sub [6, 7, 8, 9, 10] rfl
  have hDc : va_D (fun q : Nat => s.heap.size ≤ q) (gmW aM kM f1 f2 of ro fa th (nI g) (nI r) (-1) (-1)) := hD.sub [7, 8, 9, 10, 11, 12] (by decide) rfl
  have hFc := va_free (wc := (gmW aM kM f1 f2 of ro fa th (nI g) (nI r) (-1) (-1))) hD hS hA [7, 8, 9, 10, 11, 12] rfl
  refine va_calli (va_runV (As := []) (rest := [.int (mSe K (-1) (-1) g)]) ⟨hx, hb, hml, hown, hts⟩ (c_X1_seat l dC dI aM kM f1 f2 of ro fa th g r (-1) (-1) K H.size (by first | assumption | omega) (by first | assumption | omega) (by first | assumption | omega)) (cwV 0 hts gL_law_X1_seat rfl rfl rfl (by decide +kernel) ⟨Nat.le_of_ble_eq_true rfl, Nat.le_of_ble_eq_true rfl⟩) ⟨gcPM_blind, va_recv hK hP (ci := 1) (q0 := 7) rfl rfl, fun U hU hW => ⟨rfl, by rw [hU], by rw [hU]; exact hPc, va_K.moved hW.alike hKc, hDc.weaken (fun _ _ _ _ => trivial)⟩⟩ rfl rfl hl.1 rfl (lv_room (Nat.le_of_ble_eq_true rfl)) dL_law_656 ⟨show 14 + jj + 0 + 0 ≤ 1046 by omega, show 1295 + 6 * jj + 0 + 0 ≤ 9535 by omega⟩) hS (fun q _ h => hFc q h) hFc (fun r2 u t H locs ht hvm hw hB hz1 hk1 hS => ?_)
  obtain ⟨hP1, hD1⟩ := hB
  rw [ht] at hP1
  obtain ⟨hP, hD⟩ := va_join (wr := [(aG 0, .inr (0, [.ref (aG 1), .ref (aG 2), .ref (aG 3), .ref (aG 4), .ref (aG 5), .ref (aG 6), .int (nI g), .int (nI r), .int inf, .int (nI ct)])), (aG 1, .inl (kG 1, 30, .inl f1)), (aG 2, .inl (kG 2, 30, .inl f2)), (aG 3, .inl (kG 3, 20, .inl dr)), (aG 4, .inl (kG 4, 20, .inl cl)), (aG 5, .inl (kG 5, 20, .inl tr)), (aG 6, .inl (kG 6, 1024, .inl se)), (oa, .inl (ok, 1, .inr (.inl ou)))]) (w1 := (gmW aM kM f1 f2 of ro fa 0 (nI g) (nI r) (-1) (-1))) hP hD [7, 8, 9, 10, 11, 12] [0, 1, 2, 3, 4, 5, 6, 13] rfl rfl (by decide) (by decide) hk1 hFc hP1 hD1
  have hP : va_P (dC, dI) vwCl (gcW aG kG f1 f2 dr cl tr se (nI g) (nI r) inf (nI ct) ++ (gmW aM kM f1 f2 of ro fa 0 (nI g) (nI r) (-1) (-1) ++ ([(oa, .inl (ok, 1, .inr (.inl ou)))]))) H := hP.sub [0, 1, 2, 3, 4, 5, 6, 8, 9, 10, 11, 12, 13, 7] rfl
  have hD : va_D (fun q : Nat => s.heap.size ≤ q) (gcW aG kG f1 f2 dr cl tr se (nI g) (nI r) inf (nI ct) ++ (gmW aM kM f1 f2 of ro fa 0 (nI g) (nI r) (-1) (-1) ++ ([(oa, .inl (ok, 1, .inr (.inl ou)))]))) := hD.sub [0, 1, 2, 3, 4, 5, 6, 8, 9, 10, 11, 12, 13, 7] (by decide) rfl
  have hw : r2 = mSe K (-1) (-1) g := hw
  subst hw
  clear hw
  clear hz1 hk1 ht hvm hP1 hD1 hFc hDc
  clear hPc hKc
  refine lv_icmp_eq (tgt := 951) hx hb dL_law_659 (by decide) (fun c_659 => ?_) (fun c_659 => absurd rfl c_659)
  refine lv_iinc (v := nI (3 * (jj + 1))) (lv' := [(4, .int (nI (3 * (jj + 1)))), (0, .ref b), (1, .ref (aG 0)), (2, .ref (aM 0)), (3, .ref oa)]) hx hb dL_law_951 hl (k := 0) rfl (nI_3 jj) (by decide) rfl (fun ls hl => ?_)
  refine lv_goto (tgt := 23) hx hb dL_law_954 (by decide) ?_
  refine W.widen (k := 14 + (jj + 1)) (n := 1295 + 6 * (jj + 1)) (by omega) (by omega) ?_
  exact ih d H _ ls hd ⟨K, g, r, f1, f2, dr, cl, tr, se, inf, ct, of, ro, fa, 0, ou, hI, hP, hD, hS, lv_sub hl [0, 1, 2, 3, 4] rfl⟩
set_option maxHeartbeats 4000000 in
set_option maxRecDepth 100000 in
theorem law_10 {p : Program} {e : Env} {s : State} {m : MethodId} {below : List Frame} {meth : Method} {c : Code} (l : Launch) (hgl : l.stackTraces = false) {b L : Nat} {xs : Nat → Int32} (hL : L ≤ 1536) (C0 : lw_At p s m meth c b L xs) {dC : Nat → ClassId} {dI : Nat → Nat → Nat} {aG : Nat → Nat} {kG : Nat → ClassId} {aM : Nat → Nat} {kM : Nat → ClassId} {oa : Nat} {ok : ClassId} (hK : va_K (dC, dI) vwCl (gcT kG ++ (gmT kM ++ ([(ok, .long)]))) s) (hXA : gcXA (fun q : Nat => s.heap.size ≤ q) s) {jj : Nat} (hj : 3 * jj + 3 ≤ L) {d : Drawn} (hd : s.drawn.sameBut d lw_cs) {K : Bk} {g r : Nat} {f1 f2 dr cl tr se : Nat → Int32} {inf : Int32} {ct : Nat} {of ro fa : Nat → Int32} {th : Int32} {ou : Nat → Int64} (hI : Inv K g r f1 f2 inf dr cl se ct of) {H : Heap} {locs : List Loc} {ls : Array Slot} (hP : va_P (dC, dI) vwCl (gcW aG kG f1 f2 dr cl tr se (nI g) (nI r) inf (nI ct) ++ (gmW aM kM f1 f2 of ro fa th (nI g) (nI r) (-1) (-1) ++ ([(oa, .inl (ok, 1, .inr (.inl ou)))]))) H) (hD : va_D (fun q : Nat => s.heap.size ≤ q) (gcW aG kG f1 f2 dr cl tr se (nI g) (nI r) inf (nI ct) ++ (gmW aM kM f1 f2 of ro fa th (nI g) (nI r) (-1) (-1) ++ ([(oa, .inl (ok, 1, .inr (.inl ou)))])))) (hS : va_S (fun q : Nat => s.heap.size ≤ q) s.heap H locs) (hl : lv_has ls 9 [(4, .int (nI (3 * jj))), (0, .ref b), (1, .ref (aG 0)), (2, .ref (aM 0)), (3, .ref oa)]) (ih : ∀ (d1 : Drawn) (H1 : Heap) (locs1 : List Loc) (ls1 : Array Slot), s.drawn.sameBut d1 lw_cs → LSt dC dI s b aG kG aM kM oa ok (jj + 1) H1 locs1 ls1 → W p l e room_1 (s.setDrawn d1) m #[Value.ref b] below meth c H1 locs1 (14 + (jj + 1)) (1295 + 6 * (jj + 1)) (lw_Z below #[Value.ref b] s) (F0 m 23 ls1 []))  : W p l e room_1 (s.setDrawn d) m #[Value.ref b] below meth c H locs (14 + jj) (1295 + 6 * jj) (lw_Z below #[Value.ref b] s) (F0 m 664 ls []) := by
  obtain ⟨hx, hb, hr, hml, hown, hts0, hX, hbl, hlocks, hgv⟩ := C0
  have hown : s.vm.findClass RL = some m.cls := hown
  have hts1 : ∀ w ∈ wsL_law, w.before #[Value.ref b] s = true := fun w h => hts0 w (wsL_law_in w h)
  have hts := dr_words hts1 d
  have hA : ∀ q : Nat, s.heap.size ≤ q → (fun q : Nat => s.heap.size ≤ q) q := fun _ h => h
  have hbA : ¬ (fun q : Nat => s.heap.size ≤ q) b := Nat.not_le.mpr hbl
  obtain ⟨hg10, hr30, hOK, hz, hBk, hof, hDr, hCl, s0, hse, hct⟩ := id hI
  have hKd : va_K (dC, dI) vwCl (gcT kG ++ (gmT kM ++ ([(ok, .long)]))) (s.setDrawn d) := hK
  have hXd : va_X b L xs (s.setDrawn d) s.heap := hX
  have hKg := gOK_Kg hOK
  have hKr : K.1 ≤ 30 := by rw [hOK.1]; exact hr30
  have hLF : LF K g se ct := by rw [hse, hct]; exact LF_of hg10 hKg hCl s0
  have hc1024 : ct ≤ 1024 := hLF.2
  have hft : gFt cl g = decide (0 < ct) := by rw [hct]; exact ft_pos hg10 hKg hCl s0
  refine lv_aload_n hx hb dL_law_664 rfl (lv_at hl 2 rfl) ?_
  have hPc : va_P (dC, dI) vwCl (gcW aG kG f1 f2 dr cl tr se (nI g) (nI r) inf (nI ct)) _ := hP.sub [0, 1, 2, 3, 4, 5, 6] rfl
  have hKc : va_K (dC, dI) vwCl (gcT kG) s := hK.sub [0, 1, 2, 3, 4, 5] rfl
  refine va_calli (va_runV (As := []) (rest := []) ⟨hx, hb, hml, hown, hts⟩ (c_X0_seatings l dC dI aG kG f1 f2 dr cl tr se g r inf ct) (cwV 0 hts gL_law_X0_seatings rfl rfl rfl (by decide +kernel) ⟨Nat.le_of_ble_eq_true rfl, Nat.le_of_ble_eq_true rfl⟩) ⟨gcPR_blind, va_recv hK hP (ci := 0) (q0 := 0) rfl rfl, fun U hU hW => ⟨rfl, by rw [hU]; exact hPc, va_K.moved hW.alike hKc⟩⟩ rfl rfl hl.1 rfl (lv_room (Nat.le_of_ble_eq_true rfl)) dL_law_665 ⟨show 14 + jj + 0 ≤ 1046 by omega, show 1295 + 6 * jj + 0 ≤ 9535 by omega⟩) hS (fun q _ h => h.elim) (fun q h => h.elim) (fun r1 u t H locs ht hvm hw hB hz1 hk1 hS => ?_)
  have hP := gc_keep hP hk1
  have hw : r1 = nI ct := hw
  subst hw
  clear hw
  clear hB hz1 hk1 ht hvm
  clear hPc hKc
  refine gc_topi (y := mAll K (-1) (-1) g) (all_eq hg10 hKg hKr hLF) ?_
  refine lv_aload_n hx hb dL_law_668 rfl (lv_at hl 3 rfl) ?_
  have hPc : va_P (dC, dI) vwCl (gmW aM kM f1 f2 of ro fa th (nI g) (nI r) (-1) (-1)) _ := hP.sub [7, 8, 9, 10, 11, 12] rfl
  have hKc : va_K (dC, dI) vwCl (gmT kM) s := hK.sub [6, 7, 8, 9, 10] rfl
  have hDc : va_D (fun q : Nat => s.heap.size ≤ q) (gmW aM kM f1 f2 of ro fa th (nI g) (nI r) (-1) (-1)) := hD.sub [7, 8, 9, 10, 11, 12] (by decide) rfl
  have hFc := va_free (wc := (gmW aM kM f1 f2 of ro fa th (nI g) (nI r) (-1) (-1))) hD hS hA [7, 8, 9, 10, 11, 12] rfl
  refine va_calli (va_runV (As := []) (rest := [.int (mAll K (-1) (-1) g)]) ⟨hx, hb, hml, hown, hts⟩ (c_X1_seatings l dC dI aM kM f1 f2 of ro fa th g r (-1) (-1) K H.size (by first | assumption | omega) (by first | assumption | omega) (by first | assumption | omega)) (cwV 0 hts gL_law_X1_seatings rfl rfl rfl (by decide +kernel) ⟨Nat.le_of_ble_eq_true rfl, Nat.le_of_ble_eq_true rfl⟩) ⟨gcPM_blind, va_recv hK hP (ci := 1) (q0 := 7) rfl rfl, fun U hU hW => ⟨rfl, by rw [hU], by rw [hU]; exact hPc, va_K.moved hW.alike hKc, hDc.weaken (fun _ _ _ _ => trivial)⟩⟩ rfl rfl hl.1 rfl (lv_room (Nat.le_of_ble_eq_true rfl)) dL_law_669 ⟨show 14 + jj + 0 + 0 ≤ 1046 by omega, show 1295 + 6 * jj + 0 + 0 ≤ 9535 by omega⟩) hS (fun q _ h => hFc q h) hFc (fun r2 u t H locs ht hvm hw hB hz1 hk1 hS => ?_)
  obtain ⟨hP1, hD1⟩ := hB
  rw [ht] at hP1
  obtain ⟨hP, hD⟩ := va_join (wr := [(aG 0, .inr (0, [.ref (aG 1), .ref (aG 2), .ref (aG 3), .ref (aG 4), .ref (aG 5), .ref (aG 6), .int (nI g), .int (nI r), .int inf, .int (nI ct)])), (aG 1, .inl (kG 1, 30, .inl f1)), (aG 2, .inl (kG 2, 30, .inl f2)), (aG 3, .inl (kG 3, 20, .inl dr)), (aG 4, .inl (kG 4, 20, .inl cl)), (aG 5, .inl (kG 5, 20, .inl tr)), (aG 6, .inl (kG 6, 1024, .inl se)), (oa, .inl (ok, 1, .inr (.inl ou)))]) (w1 := (gmW aM kM f1 f2 of ro fa 0 (nI g) (nI r) (-1) (-1))) hP hD [7, 8, 9, 10, 11, 12] [0, 1, 2, 3, 4, 5, 6, 13] rfl rfl (by decide) (by decide) hk1 hFc hP1 hD1
  have hP : va_P (dC, dI) vwCl (gcW aG kG f1 f2 dr cl tr se (nI g) (nI r) inf (nI ct) ++ (gmW aM kM f1 f2 of ro fa 0 (nI g) (nI r) (-1) (-1) ++ ([(oa, .inl (ok, 1, .inr (.inl ou)))]))) H := hP.sub [0, 1, 2, 3, 4, 5, 6, 8, 9, 10, 11, 12, 13, 7] rfl
  have hD : va_D (fun q : Nat => s.heap.size ≤ q) (gcW aG kG f1 f2 dr cl tr se (nI g) (nI r) inf (nI ct) ++ (gmW aM kM f1 f2 of ro fa 0 (nI g) (nI r) (-1) (-1) ++ ([(oa, .inl (ok, 1, .inr (.inl ou)))]))) := hD.sub [0, 1, 2, 3, 4, 5, 6, 8, 9, 10, 11, 12, 13, 7] (by decide) rfl
  have hw : r2 = mAll K (-1) (-1) g := hw
  subst hw
  clear hw
  clear hz1 hk1 ht hvm hP1 hD1 hFc hDc
  clear hPc hKc
  refine lv_icmp_eq (tgt := 951) hx hb dL_law_672 (by decide) (fun c_672 => ?_) (fun c_672 => absurd rfl c_672)
  refine lv_iinc (v := nI (3 * (jj + 1))) (lv' := [(4, .int (nI (3 * (jj + 1)))), (0, .ref b), (1, .ref (aG 0)), (2, .ref (aM 0)), (3, .ref oa)]) hx hb dL_law_951 hl (k := 0) rfl (nI_3 jj) (by decide) rfl (fun ls hl => ?_)
  refine lv_goto (tgt := 23) hx hb dL_law_954 (by decide) ?_
  refine W.widen (k := 14 + (jj + 1)) (n := 1295 + 6 * (jj + 1)) (by omega) (by omega) ?_
  exact ih d H _ ls hd ⟨K, g, r, f1, f2, dr, cl, tr, se, inf, ct, of, ro, fa, 0, ou, hI, hP, hD, hS, lv_sub hl [0, 1, 2, 3, 4] rfl⟩
set_option maxHeartbeats 4000000 in
set_option maxRecDepth 100000 in
theorem law_11 {p : Program} {e : Env} {s : State} {m : MethodId} {below : List Frame} {meth : Method} {c : Code} (l : Launch) (hgl : l.stackTraces = false) {b L : Nat} {xs : Nat → Int32} (hL : L ≤ 1536) (C0 : lw_At p s m meth c b L xs) {dC : Nat → ClassId} {dI : Nat → Nat → Nat} {aG : Nat → Nat} {kG : Nat → ClassId} {aM : Nat → Nat} {kM : Nat → ClassId} {oa : Nat} {ok : ClassId} (hK : va_K (dC, dI) vwCl (gcT kG ++ (gmT kM ++ ([(ok, .long)]))) s) (hXA : gcXA (fun q : Nat => s.heap.size ≤ q) s) {jj : Nat} (hj : 3 * jj + 3 ≤ L) {d : Drawn} (hd : s.drawn.sameBut d lw_cs) {K : Bk} {g r : Nat} {f1 f2 dr cl tr se : Nat → Int32} {inf : Int32} {ct : Nat} {of ro fa : Nat → Int32} {th : Int32} {ou : Nat → Int64} (hI : Inv K g r f1 f2 inf dr cl se ct of) {H : Heap} {locs : List Loc} {ls : Array Slot} (hP : va_P (dC, dI) vwCl (gcW aG kG f1 f2 dr cl tr se (nI g) (nI r) inf (nI ct) ++ (gmW aM kM f1 f2 of ro fa th (nI g) (nI r) (-1) (-1) ++ ([(oa, .inl (ok, 1, .inr (.inl ou)))]))) H) (hD : va_D (fun q : Nat => s.heap.size ≤ q) (gcW aG kG f1 f2 dr cl tr se (nI g) (nI r) inf (nI ct) ++ (gmW aM kM f1 f2 of ro fa th (nI g) (nI r) (-1) (-1) ++ ([(oa, .inl (ok, 1, .inr (.inl ou)))])))) (hS : va_S (fun q : Nat => s.heap.size ≤ q) s.heap H locs) (hl : lv_has ls 9 [(4, .int (nI (3 * jj))), (0, .ref b), (1, .ref (aG 0)), (2, .ref (aM 0)), (3, .ref oa)]) (ih : ∀ (d1 : Drawn) (H1 : Heap) (locs1 : List Loc) (ls1 : Array Slot), s.drawn.sameBut d1 lw_cs → LSt dC dI s b aG kG aM kM oa ok (jj + 1) H1 locs1 ls1 → W p l e room_1 (s.setDrawn d1) m #[Value.ref b] below meth c H1 locs1 (14 + (jj + 1)) (1295 + 6 * (jj + 1)) (lw_Z below #[Value.ref b] s) (F0 m 23 ls1 []))  : W p l e room_1 (s.setDrawn d) m #[Value.ref b] below meth c H locs (14 + jj) (1295 + 6 * jj) (lw_Z below #[Value.ref b] s) (F0 m 677 ls []) := by
  obtain ⟨hx, hb, hr, hml, hown, hts0, hX, hbl, hlocks, hgv⟩ := C0
  have hown : s.vm.findClass RL = some m.cls := hown
  have hts1 : ∀ w ∈ wsL_law, w.before #[Value.ref b] s = true := fun w h => hts0 w (wsL_law_in w h)
  have hts := dr_words hts1 d
  have hA : ∀ q : Nat, s.heap.size ≤ q → (fun q : Nat => s.heap.size ≤ q) q := fun _ h => h
  have hbA : ¬ (fun q : Nat => s.heap.size ≤ q) b := Nat.not_le.mpr hbl
  obtain ⟨hg10, hr30, hOK, hz, hBk, hof, hDr, hCl, s0, hse, hct⟩ := id hI
  have hKd : va_K (dC, dI) vwCl (gcT kG ++ (gmT kM ++ ([(ok, .long)]))) (s.setDrawn d) := hK
  have hXd : va_X b L xs (s.setDrawn d) s.heap := hX
  have hKg := gOK_Kg hOK
  have hKr : K.1 ≤ 30 := by rw [hOK.1]; exact hr30
  have hLF : LF K g se ct := by rw [hse, hct]; exact LF_of hg10 hKg hCl s0
  have hc1024 : ct ≤ 1024 := hLF.2
  have hft : gFt cl g = decide (0 < ct) := by rw [hct]; exact ft_pos hg10 hKg hCl s0
  refine lv_aload_n hx hb dL_law_677 rfl (lv_at hl 2 rfl) ?_
  have hPc : va_P (dC, dI) vwCl (gcW aG kG f1 f2 dr cl tr se (nI g) (nI r) inf (nI ct)) _ := hP.sub [0, 1, 2, 3, 4, 5, 6] rfl
  have hKc : va_K (dC, dI) vwCl (gcT kG) s := hK.sub [0, 1, 2, 3, 4, 5] rfl
  refine va_calli (va_runV (As := []) (rest := []) ⟨hx, hb, hml, hown, hts⟩ (c_X0_fewest l dC dI aG kG f1 f2 dr cl tr se g r inf ct (by first | assumption | omega)) (cwV 0 hts gL_law_X0_fewest rfl rfl rfl (by decide +kernel) ⟨Nat.le_of_ble_eq_true rfl, Nat.le_of_ble_eq_true rfl⟩) ⟨gcPR_blind, va_recv hK hP (ci := 0) (q0 := 0) rfl rfl, fun U hU hW => ⟨rfl, by rw [hU]; exact hPc, va_K.moved hW.alike hKc⟩⟩ rfl rfl hl.1 rfl (lv_room (Nat.le_of_ble_eq_true rfl)) dL_law_678 ⟨show 14 + jj + 0 ≤ 1046 by omega, show 1295 + 6 * jj + 0 ≤ 9535 by omega⟩) hS (fun q _ h => h.elim) (fun q h => h.elim) (fun r1 u t H locs ht hvm hw hB hz1 hk1 hS => ?_)
  have hP := gc_keep hP hk1
  have hw : r1 = gFe se ct := hw
  subst hw
  clear hw
  clear hB hz1 hk1 ht hvm
  clear hPc hKc
  refine gc_topi (y := mFe K (-1) (-1) (2 ^ g)) (few_eq hg10 hKg hKr hLF) ?_
  refine lv_aload_n hx hb dL_law_681 rfl (lv_at hl 3 rfl) ?_
  have hPc : va_P (dC, dI) vwCl (gmW aM kM f1 f2 of ro fa th (nI g) (nI r) (-1) (-1)) _ := hP.sub [7, 8, 9, 10, 11, 12] rfl
  have hKc : va_K (dC, dI) vwCl (gmT kM) s := hK.sub [6, 7, 8, 9, 10] rfl
  have hDc : va_D (fun q : Nat => s.heap.size ≤ q) (gmW aM kM f1 f2 of ro fa th (nI g) (nI r) (-1) (-1)) := hD.sub [7, 8, 9, 10, 11, 12] (by decide) rfl
  have hFc := va_free (wc := (gmW aM kM f1 f2 of ro fa th (nI g) (nI r) (-1) (-1))) hD hS hA [7, 8, 9, 10, 11, 12] rfl
  refine va_calli (va_runV (As := []) (rest := [.int (mFe K (-1) (-1) (2 ^ g))]) ⟨hx, hb, hml, hown, hts⟩ (c_X1_fewest l dC dI aM kM f1 f2 of ro fa th g r (-1) (-1) K H.size (by first | assumption | omega) (by first | assumption | omega) (by first | assumption | omega)) (cwV 0 hts gL_law_X1_fewest rfl rfl rfl (by decide +kernel) ⟨Nat.le_of_ble_eq_true rfl, Nat.le_of_ble_eq_true rfl⟩) ⟨gcPM_blind, va_recv hK hP (ci := 1) (q0 := 7) rfl rfl, fun U hU hW => ⟨rfl, by rw [hU], by rw [hU]; exact hPc, va_K.moved hW.alike hKc, hDc.weaken (fun _ _ _ _ => trivial)⟩⟩ rfl rfl hl.1 rfl (lv_room (Nat.le_of_ble_eq_true rfl)) dL_law_682 ⟨show 14 + jj + 0 + 0 ≤ 1046 by omega, show 1295 + 6 * jj + 0 + 0 ≤ 9535 by omega⟩) hS (fun q _ h => hFc q h) hFc (fun r2 u t H locs ht hvm hw hB hz1 hk1 hS => ?_)
  obtain ⟨hP1, hD1⟩ := hB
  rw [ht] at hP1
  obtain ⟨hP, hD⟩ := va_join (wr := [(aG 0, .inr (0, [.ref (aG 1), .ref (aG 2), .ref (aG 3), .ref (aG 4), .ref (aG 5), .ref (aG 6), .int (nI g), .int (nI r), .int inf, .int (nI ct)])), (aG 1, .inl (kG 1, 30, .inl f1)), (aG 2, .inl (kG 2, 30, .inl f2)), (aG 3, .inl (kG 3, 20, .inl dr)), (aG 4, .inl (kG 4, 20, .inl cl)), (aG 5, .inl (kG 5, 20, .inl tr)), (aG 6, .inl (kG 6, 1024, .inl se)), (oa, .inl (ok, 1, .inr (.inl ou)))]) (w1 := (gmW aM kM f1 f2 of ro fa 0 (nI g) (nI r) (-1) (-1))) hP hD [7, 8, 9, 10, 11, 12] [0, 1, 2, 3, 4, 5, 6, 13] rfl rfl (by decide) (by decide) hk1 hFc hP1 hD1
  have hP : va_P (dC, dI) vwCl (gcW aG kG f1 f2 dr cl tr se (nI g) (nI r) inf (nI ct) ++ (gmW aM kM f1 f2 of ro fa 0 (nI g) (nI r) (-1) (-1) ++ ([(oa, .inl (ok, 1, .inr (.inl ou)))]))) H := hP.sub [0, 1, 2, 3, 4, 5, 6, 8, 9, 10, 11, 12, 13, 7] rfl
  have hD : va_D (fun q : Nat => s.heap.size ≤ q) (gcW aG kG f1 f2 dr cl tr se (nI g) (nI r) inf (nI ct) ++ (gmW aM kM f1 f2 of ro fa 0 (nI g) (nI r) (-1) (-1) ++ ([(oa, .inl (ok, 1, .inr (.inl ou)))]))) := hD.sub [0, 1, 2, 3, 4, 5, 6, 8, 9, 10, 11, 12, 13, 7] (by decide) rfl
  have hw : r2 = mFe K (-1) (-1) (2 ^ g) := hw
  subst hw
  clear hw
  clear hz1 hk1 ht hvm hP1 hD1 hFc hDc
  clear hPc hKc
  refine lv_icmp_eq (tgt := 951) hx hb dL_law_685 (by decide) (fun c_685 => ?_) (fun c_685 => absurd rfl c_685)
  refine lv_iinc (v := nI (3 * (jj + 1))) (lv' := [(4, .int (nI (3 * (jj + 1)))), (0, .ref b), (1, .ref (aG 0)), (2, .ref (aM 0)), (3, .ref oa)]) hx hb dL_law_951 hl (k := 0) rfl (nI_3 jj) (by decide) rfl (fun ls hl => ?_)
  refine lv_goto (tgt := 23) hx hb dL_law_954 (by decide) ?_
  refine W.widen (k := 14 + (jj + 1)) (n := 1295 + 6 * (jj + 1)) (by omega) (by omega) ?_
  exact ih d H _ ls hd ⟨K, g, r, f1, f2, dr, cl, tr, se, inf, ct, of, ro, fa, 0, ou, hI, hP, hD, hS, lv_sub hl [0, 1, 2, 3, 4] rfl⟩
set_option maxHeartbeats 4000000 in
set_option maxRecDepth 100000 in
theorem law_12 {p : Program} {e : Env} {s : State} {m : MethodId} {below : List Frame} {meth : Method} {c : Code} (l : Launch) (hgl : l.stackTraces = false) {b L : Nat} {xs : Nat → Int32} (hL : L ≤ 1536) (C0 : lw_At p s m meth c b L xs) {dC : Nat → ClassId} {dI : Nat → Nat → Nat} {aG : Nat → Nat} {kG : Nat → ClassId} {aM : Nat → Nat} {kM : Nat → ClassId} {oa : Nat} {ok : ClassId} (hK : va_K (dC, dI) vwCl (gcT kG ++ (gmT kM ++ ([(ok, .long)]))) s) (hXA : gcXA (fun q : Nat => s.heap.size ≤ q) s) {jj : Nat} (hj : 3 * jj + 3 ≤ L) {d : Drawn} (hd : s.drawn.sameBut d lw_cs) {K : Bk} {g r : Nat} {f1 f2 dr cl tr se : Nat → Int32} {inf : Int32} {ct : Nat} {of ro fa : Nat → Int32} {th : Int32} {ou : Nat → Int64} (hI : Inv K g r f1 f2 inf dr cl se ct of) {H : Heap} {locs : List Loc} {ls : Array Slot} (hP : va_P (dC, dI) vwCl (gcW aG kG f1 f2 dr cl tr se (nI g) (nI r) inf (nI ct) ++ (gmW aM kM f1 f2 of ro fa th (nI g) (nI r) (-1) (-1) ++ ([(oa, .inl (ok, 1, .inr (.inl ou)))]))) H) (hD : va_D (fun q : Nat => s.heap.size ≤ q) (gcW aG kG f1 f2 dr cl tr se (nI g) (nI r) inf (nI ct) ++ (gmW aM kM f1 f2 of ro fa th (nI g) (nI r) (-1) (-1) ++ ([(oa, .inl (ok, 1, .inr (.inl ou)))])))) (hS : va_S (fun q : Nat => s.heap.size ≤ q) s.heap H locs) (hl : lv_has ls 9 [(4, .int (nI (3 * jj))), (0, .ref b), (1, .ref (aG 0)), (2, .ref (aM 0)), (3, .ref oa)]) (ih : ∀ (d1 : Drawn) (H1 : Heap) (locs1 : List Loc) (ls1 : Array Slot), s.drawn.sameBut d1 lw_cs → LSt dC dI s b aG kG aM kM oa ok (jj + 1) H1 locs1 ls1 → W p l e room_1 (s.setDrawn d1) m #[Value.ref b] below meth c H1 locs1 (14 + (jj + 1)) (1295 + 6 * (jj + 1)) (lw_Z below #[Value.ref b] s) (F0 m 23 ls1 []))  : W p l e room_1 (s.setDrawn d) m #[Value.ref b] below meth c H locs (14 + jj) (1295 + 6 * jj) (lw_Z below #[Value.ref b] s) (F0 m 690 ls []) := by
  obtain ⟨hx, hb, hr, hml, hown, hts0, hX, hbl, hlocks, hgv⟩ := C0
  have hown : s.vm.findClass RL = some m.cls := hown
  have hts1 : ∀ w ∈ wsL_law, w.before #[Value.ref b] s = true := fun w h => hts0 w (wsL_law_in w h)
  have hts := dr_words hts1 d
  have hA : ∀ q : Nat, s.heap.size ≤ q → (fun q : Nat => s.heap.size ≤ q) q := fun _ h => h
  have hbA : ¬ (fun q : Nat => s.heap.size ≤ q) b := Nat.not_le.mpr hbl
  obtain ⟨hg10, hr30, hOK, hz, hBk, hof, hDr, hCl, s0, hse, hct⟩ := id hI
  have hKd : va_K (dC, dI) vwCl (gcT kG ++ (gmT kM ++ ([(ok, .long)]))) (s.setDrawn d) := hK
  have hXd : va_X b L xs (s.setDrawn d) s.heap := hX
  have hKg := gOK_Kg hOK
  have hKr : K.1 ≤ 30 := by rw [hOK.1]; exact hr30
  have hLF : LF K g se ct := by rw [hse, hct]; exact LF_of hg10 hKg hCl s0
  have hc1024 : ct ≤ 1024 := hLF.2
  have hft : gFt cl g = decide (0 < ct) := by rw [hct]; exact ft_pos hg10 hKg hCl s0
  refine lv_aload_n hx hb dL_law_690 rfl (lv_at hl 2 rfl) ?_
  have hPc : va_P (dC, dI) vwCl (gcW aG kG f1 f2 dr cl tr se (nI g) (nI r) inf (nI ct)) _ := hP.sub [0, 1, 2, 3, 4, 5, 6] rfl
  have hKc : va_K (dC, dI) vwCl (gcT kG) s := hK.sub [0, 1, 2, 3, 4, 5] rfl
  refine va_calli (va_runV (As := []) (rest := []) ⟨hx, hb, hml, hown, hts⟩ (c_X0_most l dC dI aG kG f1 f2 dr cl tr se g r inf ct (by first | assumption | omega)) (cwV 0 hts gL_law_X0_most rfl rfl rfl (by decide +kernel) ⟨Nat.le_of_ble_eq_true rfl, Nat.le_of_ble_eq_true rfl⟩) ⟨gcPR_blind, va_recv hK hP (ci := 0) (q0 := 0) rfl rfl, fun U hU hW => ⟨rfl, by rw [hU]; exact hPc, va_K.moved hW.alike hKc⟩⟩ rfl rfl hl.1 rfl (lv_room (Nat.le_of_ble_eq_true rfl)) dL_law_691 ⟨show 14 + jj + 0 ≤ 1046 by omega, show 1295 + 6 * jj + 0 ≤ 9535 by omega⟩) hS (fun q _ h => h.elim) (fun q h => h.elim) (fun r1 u t H locs ht hvm hw hB hz1 hk1 hS => ?_)
  have hP := gc_keep hP hk1
  have hw : r1 = gMo se ct := hw
  subst hw
  clear hw
  clear hB hz1 hk1 ht hvm
  clear hPc hKc
  refine gc_topi (y := mMo K (-1) (-1) (2 ^ g)) (most_eq hg10 hKg hKr hLF) ?_
  refine lv_aload_n hx hb dL_law_694 rfl (lv_at hl 3 rfl) ?_
  have hPc : va_P (dC, dI) vwCl (gmW aM kM f1 f2 of ro fa th (nI g) (nI r) (-1) (-1)) _ := hP.sub [7, 8, 9, 10, 11, 12] rfl
  have hKc : va_K (dC, dI) vwCl (gmT kM) s := hK.sub [6, 7, 8, 9, 10] rfl
  have hDc : va_D (fun q : Nat => s.heap.size ≤ q) (gmW aM kM f1 f2 of ro fa th (nI g) (nI r) (-1) (-1)) := hD.sub [7, 8, 9, 10, 11, 12] (by decide) rfl
  have hFc := va_free (wc := (gmW aM kM f1 f2 of ro fa th (nI g) (nI r) (-1) (-1))) hD hS hA [7, 8, 9, 10, 11, 12] rfl
  refine va_calli (va_runV (As := []) (rest := [.int (mMo K (-1) (-1) (2 ^ g))]) ⟨hx, hb, hml, hown, hts⟩ (c_X1_most l dC dI aM kM f1 f2 of ro fa th g r (-1) (-1) K H.size (by first | assumption | omega) (by first | assumption | omega) (by first | assumption | omega)) (cwV 0 hts gL_law_X1_most rfl rfl rfl (by decide +kernel) ⟨Nat.le_of_ble_eq_true rfl, Nat.le_of_ble_eq_true rfl⟩) ⟨gcPM_blind, va_recv hK hP (ci := 1) (q0 := 7) rfl rfl, fun U hU hW => ⟨rfl, by rw [hU], by rw [hU]; exact hPc, va_K.moved hW.alike hKc, hDc.weaken (fun _ _ _ _ => trivial)⟩⟩ rfl rfl hl.1 rfl (lv_room (Nat.le_of_ble_eq_true rfl)) dL_law_695 ⟨show 14 + jj + 0 + 0 ≤ 1046 by omega, show 1295 + 6 * jj + 0 + 0 ≤ 9535 by omega⟩) hS (fun q _ h => hFc q h) hFc (fun r2 u t H locs ht hvm hw hB hz1 hk1 hS => ?_)
  obtain ⟨hP1, hD1⟩ := hB
  rw [ht] at hP1
  obtain ⟨hP, hD⟩ := va_join (wr := [(aG 0, .inr (0, [.ref (aG 1), .ref (aG 2), .ref (aG 3), .ref (aG 4), .ref (aG 5), .ref (aG 6), .int (nI g), .int (nI r), .int inf, .int (nI ct)])), (aG 1, .inl (kG 1, 30, .inl f1)), (aG 2, .inl (kG 2, 30, .inl f2)), (aG 3, .inl (kG 3, 20, .inl dr)), (aG 4, .inl (kG 4, 20, .inl cl)), (aG 5, .inl (kG 5, 20, .inl tr)), (aG 6, .inl (kG 6, 1024, .inl se)), (oa, .inl (ok, 1, .inr (.inl ou)))]) (w1 := (gmW aM kM f1 f2 of ro fa 0 (nI g) (nI r) (-1) (-1))) hP hD [7, 8, 9, 10, 11, 12] [0, 1, 2, 3, 4, 5, 6, 13] rfl rfl (by decide) (by decide) hk1 hFc hP1 hD1
  have hP : va_P (dC, dI) vwCl (gcW aG kG f1 f2 dr cl tr se (nI g) (nI r) inf (nI ct) ++ (gmW aM kM f1 f2 of ro fa 0 (nI g) (nI r) (-1) (-1) ++ ([(oa, .inl (ok, 1, .inr (.inl ou)))]))) H := hP.sub [0, 1, 2, 3, 4, 5, 6, 8, 9, 10, 11, 12, 13, 7] rfl
  have hD : va_D (fun q : Nat => s.heap.size ≤ q) (gcW aG kG f1 f2 dr cl tr se (nI g) (nI r) inf (nI ct) ++ (gmW aM kM f1 f2 of ro fa 0 (nI g) (nI r) (-1) (-1) ++ ([(oa, .inl (ok, 1, .inr (.inl ou)))]))) := hD.sub [0, 1, 2, 3, 4, 5, 6, 8, 9, 10, 11, 12, 13, 7] (by decide) rfl
  have hw : r2 = mMo K (-1) (-1) (2 ^ g) := hw
  subst hw
  clear hw
  clear hz1 hk1 ht hvm hP1 hD1 hFc hDc
  clear hPc hKc
  refine lv_icmp_eq (tgt := 951) hx hb dL_law_698 (by decide) (fun c_698 => ?_) (fun c_698 => absurd rfl c_698)
  refine lv_iinc (v := nI (3 * (jj + 1))) (lv' := [(4, .int (nI (3 * (jj + 1)))), (0, .ref b), (1, .ref (aG 0)), (2, .ref (aM 0)), (3, .ref oa)]) hx hb dL_law_951 hl (k := 0) rfl (nI_3 jj) (by decide) rfl (fun ls hl => ?_)
  refine lv_goto (tgt := 23) hx hb dL_law_954 (by decide) ?_
  refine W.widen (k := 14 + (jj + 1)) (n := 1295 + 6 * (jj + 1)) (by omega) (by omega) ?_
  exact ih d H _ ls hd ⟨K, g, r, f1, f2, dr, cl, tr, se, inf, ct, of, ro, fa, 0, ou, hI, hP, hD, hS, lv_sub hl [0, 1, 2, 3, 4] rfl⟩
set_option maxHeartbeats 4000000 in
set_option maxRecDepth 100000 in
theorem law_13 {p : Program} {e : Env} {s : State} {m : MethodId} {below : List Frame} {meth : Method} {c : Code} (l : Launch) (hgl : l.stackTraces = false) {b L : Nat} {xs : Nat → Int32} (hL : L ≤ 1536) (C0 : lw_At p s m meth c b L xs) {dC : Nat → ClassId} {dI : Nat → Nat → Nat} {aG : Nat → Nat} {kG : Nat → ClassId} {aM : Nat → Nat} {kM : Nat → ClassId} {oa : Nat} {ok : ClassId} (hK : va_K (dC, dI) vwCl (gcT kG ++ (gmT kM ++ ([(ok, .long)]))) s) (hXA : gcXA (fun q : Nat => s.heap.size ≤ q) s) {jj : Nat} (hj : 3 * jj + 3 ≤ L) {d : Drawn} (hd : s.drawn.sameBut d lw_cs) {K : Bk} {g r : Nat} {f1 f2 dr cl tr se : Nat → Int32} {inf : Int32} {ct : Nat} {of ro fa : Nat → Int32} {th : Int32} {ou : Nat → Int64} (hI : Inv K g r f1 f2 inf dr cl se ct of) {H : Heap} {locs : List Loc} {ls : Array Slot} (hP : va_P (dC, dI) vwCl (gcW aG kG f1 f2 dr cl tr se (nI g) (nI r) inf (nI ct) ++ (gmW aM kM f1 f2 of ro fa th (nI g) (nI r) (-1) (-1) ++ ([(oa, .inl (ok, 1, .inr (.inl ou)))]))) H) (hD : va_D (fun q : Nat => s.heap.size ≤ q) (gcW aG kG f1 f2 dr cl tr se (nI g) (nI r) inf (nI ct) ++ (gmW aM kM f1 f2 of ro fa th (nI g) (nI r) (-1) (-1) ++ ([(oa, .inl (ok, 1, .inr (.inl ou)))])))) (hS : va_S (fun q : Nat => s.heap.size ≤ q) s.heap H locs) (hl : lv_has ls 9 [(4, .int (nI (3 * jj))), (0, .ref b), (1, .ref (aG 0)), (2, .ref (aM 0)), (3, .ref oa)]) (ih : ∀ (d1 : Drawn) (H1 : Heap) (locs1 : List Loc) (ls1 : Array Slot), s.drawn.sameBut d1 lw_cs → LSt dC dI s b aG kG aM kM oa ok (jj + 1) H1 locs1 ls1 → W p l e room_1 (s.setDrawn d1) m #[Value.ref b] below meth c H1 locs1 (14 + (jj + 1)) (1295 + 6 * (jj + 1)) (lw_Z below #[Value.ref b] s) (F0 m 23 ls1 [])) {S : Nat} (hSg : S < 2 ^ g) (h1 : xs (3 * jj + 1) = nI S) : W p l e room_1 (s.setDrawn d) m #[Value.ref b] below meth c H locs (14 + jj) (1295 + 6 * jj) (lw_Z below #[Value.ref b] s) (F0 m 703 ls []) := by
  obtain ⟨hx, hb, hr, hml, hown, hts0, hX, hbl, hlocks, hgv⟩ := C0
  have hown : s.vm.findClass RL = some m.cls := hown
  have hts1 : ∀ w ∈ wsL_law, w.before #[Value.ref b] s = true := fun w h => hts0 w (wsL_law_in w h)
  have hts := dr_words hts1 d
  have hA : ∀ q : Nat, s.heap.size ≤ q → (fun q : Nat => s.heap.size ≤ q) q := fun _ h => h
  have hbA : ¬ (fun q : Nat => s.heap.size ≤ q) b := Nat.not_le.mpr hbl
  obtain ⟨hg10, hr30, hOK, hz, hBk, hof, hDr, hCl, s0, hse, hct⟩ := id hI
  have hKd : va_K (dC, dI) vwCl (gcT kG ++ (gmT kM ++ ([(ok, .long)]))) (s.setDrawn d) := hK
  have hXd : va_X b L xs (s.setDrawn d) s.heap := hX
  have hKg := gOK_Kg hOK
  have hKr : K.1 ≤ 30 := by rw [hOK.1]; exact hr30
  have hLF : LF K g se ct := by rw [hse, hct]; exact LF_of hg10 hKg hCl s0
  have hc1024 : ct ≤ 1024 := hLF.2
  have hft : gFt cl g = decide (0 < ct) := by rw [hct]; exact ft_pos hg10 hKg hCl s0
  refine lv_aload_n hx hb dL_law_703 rfl (lv_at hl 2 rfl) ?_
  refine lv_aload_n hx hb dL_law_704 rfl (lv_at hl 1 rfl) ?_
  refine lv_iload hx hb dL_law_705 (lv_at hl 0 rfl) ?_
  refine lv_iconst (v := 1) hx hb dL_law_707 (by decide) ?_
  refine lv_iadd hx hb dL_law_708 ?_
  refine gc_topi (y := nI (3 * jj + 1)) (nI_add (3 * jj) 1) ?_
  refine va_sld hx hb hXd hbl hbA hS (vp_in_nI (n := (3 * jj + 1)) (by omega) (by omega)) dL_law_709 ?_
  rw [nI_clamp (n := (3 * jj + 1)) (by omega)]
  refine gc_topi (y := nI S) (h1) ?_
  refine lv_aload_n hx hb dL_law_710 rfl (lv_at hl 4 rfl) ?_
  have hPc : va_P (dC, dI) vwCl (gcW aG kG f1 f2 dr cl tr se (nI g) (nI r) inf (nI ct) ++ ([(oa, .inl (ok, 1, .inr (.inl ou)))])) _ := hP.sub [0, 1, 2, 3, 4, 5, 6, 13] rfl
  have hKc : va_K (dC, dI) vwCl (gcT kG ++ ([(ok, .long)])) s := hK.sub [0, 1, 2, 3, 4, 5, 11] rfl
  have hDc : va_D (fun q : Nat => s.heap.size ≤ q) (gcW aG kG f1 f2 dr cl tr se (nI g) (nI r) inf (nI ct) ++ ([(oa, .inl (ok, 1, .inr (.inl ou)))])) := hD.sub [0, 1, 2, 3, 4, 5, 6, 13] (by decide) rfl
  have hFc := va_free (wc := (gcW aG kG f1 f2 dr cl tr se (nI g) (nI r) inf (nI ct) ++ ([(oa, .inl (ok, 1, .inr (.inl ou)))]))) hD hS hA [0, 1, 2, 3, 4, 5, 6, 13] rfl
  refine va_calli (vx_runSW (As := [.ref (aG 0), .int (nI S), .ref oa]) (rest := []) ⟨hx, hb, hml, hown, hts⟩ (w_broken l dC dI aG kG f1 f2 dr cl tr se g r inf ct oa ok ou S H.size (by first | assumption | omega) (by first | assumption | omega) (by first | assumption | omega)) (vx_cwSW 3 hts gL_law_L_broken rfl rfl rfl (by decide +kernel) ⟨Nat.le_of_ble_eq_true rfl, Nat.le_of_ble_eq_true rfl⟩) ⟨gcPM_blind, fun U hU hW => ⟨rfl, by rw [hU], by rw [hU]; exact hPc, va_K.moved hW.alike hKc, hDc.weaken (fun _ _ _ _ => trivial)⟩⟩ rfl rfl hl.1 rfl (lv_room (Nat.le_of_ble_eq_true rfl)) dL_law_711 ⟨show 14 + jj + 0 ≤ 1046 by omega, show 1295 + 6 * jj + 0 ≤ 9535 by omega⟩) hS (fun q _ h => hFc q h) hFc (fun r1 u t H locs ht hvm hw hB hz1 hk1 hS => ?_)
  obtain ⟨hP1, hD1⟩ := hB
  rw [ht] at hP1
  obtain ⟨hP, hD⟩ := va_join (wr := [(aM 0, .inr (1, [.int th, .int (nI g), .int (nI r), .ref (aM 1), .ref (aM 2), .ref (aM 3), .int (-1), .int (-1), .ref (aM 4), .ref (aM 5)])), (aM 1, .inl (kM 1, 30, .inl f1)), (aM 2, .inl (kM 2, 30, .inl f2)), (aM 3, .inl (kM 3, 30, .inl of)), (aM 4, .inl (kM 4, 20, .inl ro)), (aM 5, .inl (kM 5, 20, .inl fa))]) (w1 := (gcW aG kG f1 f2 dr cl tr se (nI g) (nI r) inf (nI ct) ++ ([(oa, .inl (ok, 1, .inr (.inl (vp_updL ou 0 ((gFst (gBr f1 f2 inf (nI S)) r).toInt64)))))]))) hP hD [0, 1, 2, 3, 4, 5, 6, 13] [7, 8, 9, 10, 11, 12] rfl rfl (by decide) (by decide) hk1 hFc hP1 hD1
  have hP : va_P (dC, dI) vwCl (gcW aG kG f1 f2 dr cl tr se (nI g) (nI r) inf (nI ct) ++ (gmW aM kM f1 f2 of ro fa th (nI g) (nI r) (-1) (-1) ++ ([(oa, .inl (ok, 1, .inr (.inl (vp_updL ou 0 ((gFst (gBr f1 f2 inf (nI S)) r).toInt64)))))]))) H := hP.sub [6, 7, 8, 9, 10, 11, 12, 0, 1, 2, 3, 4, 5, 13] rfl
  have hD : va_D (fun q : Nat => s.heap.size ≤ q) (gcW aG kG f1 f2 dr cl tr se (nI g) (nI r) inf (nI ct) ++ (gmW aM kM f1 f2 of ro fa th (nI g) (nI r) (-1) (-1) ++ ([(oa, .inl (ok, 1, .inr (.inl (vp_updL ou 0 ((gFst (gBr f1 f2 inf (nI S)) r).toInt64)))))]))) := hD.sub [6, 7, 8, 9, 10, 11, 12, 0, 1, 2, 3, 4, 5, 13] (by decide) rfl
  have hw : r1 = 0 := hw
  subst hw
  clear hw
  clear hz1 hk1 ht hvm hP1 hD1 hFc hDc
  clear hPc hKc
  refine lv_istore (lv' := [(5, .int 0), (4, .int (nI (3 * jj))), (0, .ref b), (1, .ref (aG 0)), (2, .ref (aM 0)), (3, .ref oa)]) hx hb dL_law_714 hl (by decide) rfl (fun ls hl => ?_)
  refine lv_aload_n hx hb dL_law_716 rfl (lv_at hl 4 rfl) ?_
  refine lv_aload_n hx hb dL_law_717 rfl (lv_at hl 2 rfl) ?_
  refine lv_iload hx hb dL_law_718 (lv_at hl 1 rfl) ?_
  refine lv_iconst (v := 1) hx hb dL_law_720 (by decide) ?_
  refine lv_iadd hx hb dL_law_721 ?_
  refine gc_topi (y := nI (3 * jj + 1)) (nI_add (3 * jj) 1) ?_
  refine va_sld hx hb hXd hbl hbA hS (vp_in_nI (n := (3 * jj + 1)) (by omega) (by omega)) dL_law_722 ?_
  rw [nI_clamp (n := (3 * jj + 1)) (by omega)]
  refine gc_topi (y := nI S) (h1) ?_
  have hPc : va_P (dC, dI) vwCl (gmW aM kM f1 f2 of ro fa th (nI g) (nI r) (-1) (-1)) _ := hP.sub [7, 8, 9, 10, 11, 12] rfl
  have hKc : va_K (dC, dI) vwCl (gmT kM) s := hK.sub [6, 7, 8, 9, 10] rfl
  have hDc : va_D (fun q : Nat => s.heap.size ≤ q) (gmW aM kM f1 f2 of ro fa th (nI g) (nI r) (-1) (-1)) := hD.sub [7, 8, 9, 10, 11, 12] (by decide) rfl
  have hFc := va_free (wc := (gmW aM kM f1 f2 of ro fa th (nI g) (nI r) (-1) (-1))) hD hS hA [7, 8, 9, 10, 11, 12] rfl
  refine va_calli (va_runV (As := [.int (nI S)]) (rest := []) ⟨hx, hb, hml, hown, hts⟩ (c_X1_broken l dC dI aM kM f1 f2 of ro fa th g r (-1) (-1) K S H.size (by first | assumption | omega) (by first | assumption | omega) (by first | assumption | omega) (by first | assumption | omega)) (cwV 1 hts gL_law_X1_broken rfl rfl rfl (by decide +kernel) ⟨Nat.le_of_ble_eq_true rfl, Nat.le_of_ble_eq_true rfl⟩) ⟨gcPM_blind, va_recv hK hP (ci := 1) (q0 := 7) rfl rfl, fun U hU hW => ⟨rfl, by rw [hU], by rw [hU]; exact hPc, va_K.moved hW.alike hKc, hDc.weaken (fun _ _ _ _ => trivial)⟩⟩ rfl rfl hl.1 rfl (lv_room (Nat.le_of_ble_eq_true rfl)) dL_law_723 ⟨show 14 + jj + 0 + 0 ≤ 1046 by omega, show 1295 + 6 * jj + 0 + 0 ≤ 9535 by omega⟩) hS (fun q _ h => hFc q h) hFc (fun r2 u t H locs ht hvm hw hB hz1 hk1 hS => ?_)
  obtain ⟨hP1, hD1⟩ := hB
  rw [ht] at hP1
  obtain ⟨hP, hD⟩ := va_join (wr := [(aG 0, .inr (0, [.ref (aG 1), .ref (aG 2), .ref (aG 3), .ref (aG 4), .ref (aG 5), .ref (aG 6), .int (nI g), .int (nI r), .int inf, .int (nI ct)])), (aG 1, .inl (kG 1, 30, .inl f1)), (aG 2, .inl (kG 2, 30, .inl f2)), (aG 3, .inl (kG 3, 20, .inl dr)), (aG 4, .inl (kG 4, 20, .inl cl)), (aG 5, .inl (kG 5, 20, .inl tr)), (aG 6, .inl (kG 6, 1024, .inl se)), (oa, .inl (ok, 1, .inr (.inl (vp_updL ou 0 ((gFst (gBr f1 f2 inf (nI S)) r).toInt64)))))]) (w1 := (gmW aM kM f1 f2 of ro fa 0 (nI g) (nI r) (-1) (-1))) hP hD [7, 8, 9, 10, 11, 12] [0, 1, 2, 3, 4, 5, 6, 13] rfl rfl (by decide) (by decide) hk1 hFc hP1 hD1
  have hP : va_P (dC, dI) vwCl (gcW aG kG f1 f2 dr cl tr se (nI g) (nI r) inf (nI ct) ++ (gmW aM kM f1 f2 of ro fa 0 (nI g) (nI r) (-1) (-1) ++ ([(oa, .inl (ok, 1, .inr (.inl (vp_updL ou 0 ((gFst (gBr f1 f2 inf (nI S)) r).toInt64)))))]))) H := hP.sub [0, 1, 2, 3, 4, 5, 6, 8, 9, 10, 11, 12, 13, 7] rfl
  have hD : va_D (fun q : Nat => s.heap.size ≤ q) (gcW aG kG f1 f2 dr cl tr se (nI g) (nI r) inf (nI ct) ++ (gmW aM kM f1 f2 of ro fa 0 (nI g) (nI r) (-1) (-1) ++ ([(oa, .inl (ok, 1, .inr (.inl (vp_updL ou 0 ((gFst (gBr f1 f2 inf (nI S)) r).toInt64)))))]))) := hD.sub [0, 1, 2, 3, 4, 5, 6, 8, 9, 10, 11, 12, 13, 7] (by decide) rfl
  have hw : r2 = mBB K (-1) (-1) (nI S) := hw
  subst hw
  clear hw
  clear hz1 hk1 ht hvm hP1 hD1 hFc hDc
  clear hPc hKc
  refine lv_istore (lv' := [(6, .int (mBB K (-1) (-1) (nI S))), (5, .int 0), (4, .int (nI (3 * jj))), (0, .ref b), (1, .ref (aG 0)), (2, .ref (aM 0)), (3, .ref oa)]) hx hb dL_law_726 hl (by decide) rfl (fun ls hl => ?_)
  refine lv_aload_n hx hb dL_law_728 rfl (lv_at hl 5 rfl) ?_
  have hPc : va_P (dC, dI) vwCl (gmW aM kM f1 f2 of ro fa 0 (nI g) (nI r) (-1) (-1)) _ := hP.sub [7, 8, 9, 10, 11, 12] rfl
  have hKc : va_K (dC, dI) vwCl (gmT kM) s := hK.sub [6, 7, 8, 9, 10] rfl
  refine va_calli (va_runV (As := []) (rest := []) ⟨hx, hb, hml, hown, hts⟩ (c_X1_thrown l dC dI aM kM f1 f2 of ro fa 0 g r (-1) (-1)) (cwV 0 hts gL_law_X1_thrown rfl rfl rfl (by decide +kernel) ⟨Nat.le_of_ble_eq_true rfl, Nat.le_of_ble_eq_true rfl⟩) ⟨gcPR_blind, va_recv hK hP (ci := 1) (q0 := 7) rfl rfl, fun U hU hW => ⟨rfl, by rw [hU]; exact hPc, va_K.moved hW.alike hKc⟩⟩ rfl rfl hl.1 rfl (lv_room (Nat.le_of_ble_eq_true rfl)) dL_law_729 ⟨show 14 + jj + 0 + 0 + 0 ≤ 1046 by omega, show 1295 + 6 * jj + 0 + 0 + 0 ≤ 9535 by omega⟩) hS (fun q _ h => h.elim) (fun q h => h.elim) (fun r3 u t H locs ht hvm hw hB hz1 hk1 hS => ?_)
  have hP := gc_keep hP hk1
  have hw : r3 = 0 := hw
  subst hw
  clear hw
  clear hB hz1 hk1 ht hvm
  clear hPc hKc
  refine lv_iload hx hb dL_law_732 (lv_at hl 1 rfl) ?_
  refine lv_icmp_eq (tgt := 739) hx hb dL_law_734 (by decide) (fun c_734 => ?_) (fun c_734 => absurd rfl c_734)
  refine lv_iload hx hb dL_law_739 (lv_at hl 1 rfl) ?_
  refine lv_if_ne (tgt := 756) hx hb dL_law_741 (by decide) (fun c_741 => ?_) (fun c_741 => ?_)
  · skip
    exact absurd (by decide) c_741
  · skip
    refine lv_aload_n hx hb dL_law_744 rfl (lv_at hl 6 rfl) ?_
    refine lv_iconst (v := 0) hx hb dL_law_745 (by decide) ?_
    refine va_lald hx hb hKd hP 13 11 rfl rfl gc_in01 dL_law_746 ?_
    refine gc_topl (y := ((gFst (gBr f1 f2 inf (nI S)) r).toInt64)) (by rw [sb_cl0]; exact pk_uLs) ?_
    refine gc_topl (y := (mBB K (-1) (-1) (nI S)).toInt64) (by rw [broken_eq hOK hg10 hr30 (Nat.lt_of_lt_of_le hSg (pow_le10 hg10))]) ?_
    refine lv_iload hx hb dL_law_747 (lv_at hl 0 rfl) ?_
    refine lv_i2l hx hb dL_law_749 rfl ?_
    refine W.lcmp hx hb dL_law_750 ?_
    refine gc_topi (y := 0) ((lg_cmp_eq _ _).mpr rfl) ?_
    refine lv_if_eq (tgt := 756) hx hb dL_law_751 (by decide) (fun c_751 => ?_) (fun c_751 => ?_)
    · skip
      refine lv_goto (tgt := 951) hx hb dL_law_756 (by decide) ?_
      refine lv_iinc (v := nI (3 * (jj + 1))) (lv' := [(4, .int (nI (3 * (jj + 1)))), (6, .int (mBB K (-1) (-1) (nI S))), (5, .int 0), (0, .ref b), (1, .ref (aG 0)), (2, .ref (aM 0)), (3, .ref oa)]) hx hb dL_law_951 hl (k := 2) rfl (nI_3 jj) (by decide) rfl (fun ls hl => ?_)
      refine lv_goto (tgt := 23) hx hb dL_law_954 (by decide) ?_
      refine W.widen (k := 14 + (jj + 1)) (n := 1295 + 6 * (jj + 1)) (by omega) (by omega) ?_
      exact ih d H _ ls hd ⟨K, g, r, f1, f2, dr, cl, tr, se, inf, ct, of, ro, fa, 0, (vp_updL ou 0 ((gFst (gBr f1 f2 inf (nI S)) r).toInt64)), hI, hP, hD, hS, lv_sub hl [0, 3, 4, 5, 6] rfl⟩
    · skip
      exact absurd (by decide) c_751
