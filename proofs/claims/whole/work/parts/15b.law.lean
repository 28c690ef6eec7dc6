set_option maxHeartbeats 4000000 in
set_option maxRecDepth 100000 in
theorem law_3 {p : Program} {e : Env} {s : State} {m : MethodId} {below : List Frame} {meth : Method} {c : Code} (l : Launch) (hgl : l.stackTraces = false) {b L : Nat} {xs : Nat → Int32} (hL : L ≤ 1536) (C0 : lw_At p s m meth c b L xs) {dC : Nat → ClassId} {dI : Nat → Nat → Nat} {aG : Nat → Nat} {kG : Nat → ClassId} {aM : Nat → Nat} {kM : Nat → ClassId} {oa : Nat} {ok : ClassId} (hK : va_K (dC, dI) vwCl (gcT kG ++ (gmT kM ++ ([(ok, .long)]))) s) (hXA : gcXA (fun q : Nat => s.heap.size ≤ q) s) {jj : Nat} (hj : 3 * jj + 3 ≤ L) {d : Drawn} (hd : s.drawn.sameBut d lw_cs) {K : Bk} {g r : Nat} {f1 f2 dr cl tr se : Nat → Int32} {inf : Int32} {ct : Nat} {of ro fa : Nat → Int32} {th : Int32} {ou : Nat → Int64} (hI : Inv K g r f1 f2 inf dr cl se ct of) {H : Heap} {locs : List Loc} {ls : Array Slot} (hP : va_P (dC, dI) vwCl (gcW aG kG f1 f2 dr cl tr se (nI g) (nI r) inf (nI ct) ++ (gmW aM kM f1 f2 of ro fa th (nI g) (nI r) (-1) (-1) ++ ([(oa, .inl (ok, 1, .inr (.inl ou)))]))) H) (hD : va_D (fun q : Nat => s.heap.size ≤ q) (gcW aG kG f1 f2 dr cl tr se (nI g) (nI r) inf (nI ct) ++ (gmW aM kM f1 f2 of ro fa th (nI g) (nI r) (-1) (-1) ++ ([(oa, .inl (ok, 1, .inr (.inl ou)))])))) (hS : va_S (fun q : Nat => s.heap.size ≤ q) s.heap H locs) (hl : lv_has ls 9 [(4, .int (nI (3 * jj))), (0, .ref b), (1, .ref (aG 0)), (2, .ref (aM 0)), (3, .ref oa)]) (ih : ∀ (d1 : Drawn) (H1 : Heap) (locs1 : List Loc) (ls1 : Array Slot), s.drawn.sameBut d1 lw_cs → LSt dC dI s b aG kG aM kM oa ok (jj + 1) H1 locs1 ls1 → W p l e room_1 (s.setDrawn d1) m #[Value.ref b] below meth c H1 locs1 (14 + (jj + 1)) (1295 + 6 * (jj + 1)) (lw_Z below #[Value.ref b] s) (F0 m 23 ls1 [])) {x w : Nat} (hx2 : x < r) (hw : w < 3) (h1 : xs (3 * jj + 1) = nI x) (h2 : xs (3 * jj + 2) = nI w) : W p l e room_1 (s.setDrawn d) m #[Value.ref b] below meth c H locs (14 + jj) (1295 + 6 * jj) (lw_Z below #[Value.ref b] s) (F0 m 303 ls []) := by
  obtain ⟨hx, hb, hr, hml, hown, hts0, hX, hbl, hlocks, hgv⟩ := C0
  have hown : s.vm.findClass RL = some m.cls := hown
  have hts1 : ∀ w ∈ wsL_law, w.before #[Value.ref b] s = true := fun w h => hts0 w (wsL_law_in w h)
  have hts := dr_words hts1 d
  have hA : ∀ q : Nat, s.heap.size ≤ q → (fun q : Nat => s.heap.size ≤ q) q := fun _ h => h
  have hbA : ¬ (fun q : Nat => s.heap.size ≤ q) b := Nat.not_le.mpr hbl
  obtain ⟨hg10, hr30, hOK, hz, hBk, hof, hDr, hCl, s0, hse, hct⟩ := id hI
  have hKd : va_K (dC, dI) vwCl (gcT kG ++ (gmT kM ++ ([(ok, .long)]))) (s.setDrawn d) := hK
  have hXd : va_X b L xs (s.setDrawn d) s.heap := hX
  have hKg := gOK_Kg hOK
  have hKr : K.1 ≤ 30 := by rw [hOK.1]; exact hr30
  have hLF : LF K g se ct := by rw [hse, hct]; exact LF_of hg10 hKg hCl s0
  have hc1024 : ct ≤ 1024 := hLF.2
  have hft : gFt cl g = decide (0 < ct) := by rw [hct]; exact ft_pos hg10 hKg hCl s0
  refine lv_aload_n hx hb dL_law_303 rfl (lv_at hl 2 rfl) ?_
  refine lv_aload_n hx hb dL_law_304 rfl (lv_at hl 1 rfl) ?_
  refine lv_iload hx hb dL_law_305 (lv_at hl 0 rfl) ?_
  refine lv_iconst (v := 1) hx hb dL_law_307 (by decide) ?_
  refine lv_iadd hx hb dL_law_308 ?_
  refine gc_topi (y := nI (3 * jj + 1)) (nI_add (3 * jj) 1) ?_
  refine va_sld hx hb hXd hbl hbA hS (vp_in_nI (n := (3 * jj + 1)) (by omega) (by omega)) dL_law_309 ?_
  rw [nI_clamp (n := (3 * jj + 1)) (by omega)]
  refine gc_topi (y := nI x) (h1) ?_
  refine lv_aload_n hx hb dL_law_310 rfl (lv_at hl 1 rfl) ?_
  refine lv_iload hx hb dL_law_311 (lv_at hl 0 rfl) ?_
  refine lv_iconst (v := 2) hx hb dL_law_313 (by decide) ?_
  refine lv_iadd hx hb dL_law_314 ?_
  refine gc_topi (y := nI (3 * jj + 2)) (nI_add (3 * jj) 2) ?_
  refine va_sld hx hb hXd hbl hbA hS (vp_in_nI (n := (3 * jj + 2)) (by omega) (by omega)) dL_law_315 ?_
  rw [nI_clamp (n := (3 * jj + 2)) (by omega)]
  refine gc_topi (y := nI w) (h2) ?_
  refine lv_aload_n hx hb dL_law_316 rfl (lv_at hl 4 rfl) ?_
  have hPc : va_P (dC, dI) vwCl (gcW aG kG f1 f2 dr cl tr se (nI g) (nI r) inf (nI ct) ++ ([(oa, .inl (ok, 1, .inr (.inl ou)))])) _ := hP.sub [0, 1, 2, 3, 4, 5, 6, 13] rfl
  have hKc : va_K (dC, dI) vwCl (gcT kG ++ ([(ok, .long)])) s := hK.sub [0, 1, 2, 3, 4, 5, 11] rfl
  have hDc : va_D (fun q : Nat => s.heap.size ≤ q) (gcW aG kG f1 f2 dr cl tr se (nI g) (nI r) inf (nI ct) ++ ([(oa, .inl (ok, 1, .inr (.inl ou)))])) := hD.sub [0, 1, 2, 3, 4, 5, 6, 13] (by decide) rfl
  have hFc := va_free (wc := (gcW aG kG f1 f2 dr cl tr se (nI g) (nI r) inf (nI ct) ++ ([(oa, .inl (ok, 1, .inr (.inl ou)))]))) hD hS hA [0, 1, 2, 3, 4, 5, 6, 13] rfl
  refine va_calli (vx_runSW (As := [.ref (aG 0), .int (nI x), .int (nI w), .ref oa]) (rest := []) ⟨hx, hb, hml, hown, hts⟩ (w_told l dC dI aG kG f1 f2 dr cl tr se g r inf ct oa ok ou x w H.size (by first | assumption | omega) (by first | assumption | omega) (by first | assumption | omega)) (vx_cwSW 4 hts gL_law_L_told rfl rfl rfl (by decide +kernel) ⟨Nat.le_of_ble_eq_true rfl, Nat.le_of_ble_eq_true rfl⟩) ⟨gcPM_blind, fun U hU hW => ⟨rfl, by rw [hU], by rw [hU]; exact hPc, va_K.moved hW.alike hKc, hDc.weaken (fun _ _ _ _ => trivial)⟩⟩ rfl rfl hl.1 rfl (lv_room (Nat.le_of_ble_eq_true rfl)) dL_law_317 ⟨show 14 + jj + 0 ≤ 1046 by omega, show 1295 + 6 * jj + 0 ≤ 9535 by omega⟩) hS (fun q _ h => hFc q h) hFc (fun r1 u t H locs ht hvm hw hB hz1 hk1 hS => ?_)
  obtain ⟨hP1, hD1⟩ := hB
  rw [ht] at hP1
  obtain ⟨hP, hD⟩ := va_join (wr := [(aM 0, .inr (1, [.int th, .int (nI g), .int (nI r), .ref (aM 1), .ref (aM 2), .ref (aM 3), .int (-1), .int (-1), .ref (aM 4), .ref (aM 5)])), (aM 1, .inl (kM 1, 30, .inl f1)), (aM 2, .inl (kM 2, 30, .inl f2)), (aM 3, .inl (kM 3, 30, .inl of)), (aM 4, .inl (kM 4, 20, .inl ro)), (aM 5, .inl (kM 5, 20, .inl fa))]) (w1 := (gcW aG kG f1 f2 dr cl tr se (nI g) (nI r) inf (nI ct) ++ ([(oa, .inl (ok, 1, .inr (.inl (vp_updL ou 0 ((gTo f1 f2 inf x w).toInt64)))))]))) hP hD [0, 1, 2, 3, 4, 5, 6, 13] [7, 8, 9, 10, 11, 12] rfl rfl (by decide) (by decide) hk1 hFc hP1 hD1
  have hP : va_P (dC, dI) vwCl (gcW aG kG f1 f2 dr cl tr se (nI g) (nI r) inf (nI ct) ++ (gmW aM kM f1 f2 of ro fa th (nI g) (nI r) (-1) (-1) ++ ([(oa, .inl (ok, 1, .inr (.inl (vp_updL ou 0 ((gTo f1 f2 inf x w).toInt64)))))]))) H := hP.sub [6, 7, 8, 9, 10, 11, 12, 0, 1, 2, 3, 4, 5, 13] rfl
  have hD : va_D (fun q : Nat => s.heap.size ≤ q) (gcW aG kG f1 f2 dr cl tr se (nI g) (nI r) inf (nI ct) ++ (gmW aM kM f1 f2 of ro fa th (nI g) (nI r) (-1) (-1) ++ ([(oa, .inl (ok, 1, .inr (.inl (vp_updL ou 0 ((gTo f1 f2 inf x w).toInt64)))))]))) := hD.sub [6, 7, 8, 9, 10, 11, 12, 0, 1, 2, 3, 4, 5, 13] (by decide) rfl
  have hw : r1 = 0 := hw
  subst hw
  clear hw
  clear hz1 hk1 ht hvm hP1 hD1 hFc hDc
  clear hPc hKc
  refine lv_istore (lv' := [(5, .int 0), (4, .int (nI (3 * jj))), (0, .ref b), (1, .ref (aG 0)), (2, .ref (aM 0)), (3, .ref oa)]) hx hb dL_law_320 hl (by decide) rfl (fun ls hl => ?_)
  refine lv_aload_n hx hb dL_law_322 rfl (lv_at hl 4 rfl) ?_
  refine lv_aload_n hx hb dL_law_323 rfl (lv_at hl 2 rfl) ?_
  refine lv_iload hx hb dL_law_324 (lv_at hl 1 rfl) ?_
  refine lv_iconst (v := 1) hx hb dL_law_326 (by decide) ?_
  refine lv_iadd hx hb dL_law_327 ?_
  refine gc_topi (y := nI (3 * jj + 1)) (nI_add (3 * jj) 1) ?_
  refine va_sld hx hb hXd hbl hbA hS (vp_in_nI (n := (3 * jj + 1)) (by omega) (by omega)) dL_law_328 ?_
  rw [nI_clamp (n := (3 * jj + 1)) (by omega)]
  refine gc_topi (y := nI x) (h1) ?_
  refine lv_aload_n hx hb dL_law_329 rfl (lv_at hl 2 rfl) ?_
  refine lv_iload hx hb dL_law_330 (lv_at hl 1 rfl) ?_
  refine lv_iconst (v := 2) hx hb dL_law_332 (by decide) ?_
  refine lv_iadd hx hb dL_law_333 ?_
  refine gc_topi (y := nI (3 * jj + 2)) (nI_add (3 * jj) 2) ?_
  refine va_sld hx hb hXd hbl hbA hS (vp_in_nI (n := (3 * jj + 2)) (by omega) (by omega)) dL_law_334 ?_
  rw [nI_clamp (n := (3 * jj + 2)) (by omega)]
  refine gc_topi (y := nI w) (h2) ?_
  have hPc : va_P (dC, dI) vwCl (gmW aM kM f1 f2 of ro fa th (nI g) (nI r) (-1) (-1)) _ := hP.sub [7, 8, 9, 10, 11, 12] rfl
  have hKc : va_K (dC, dI) vwCl (gmT kM) s := hK.sub [6, 7, 8, 9, 10] rfl
  have hDc : va_D (fun q : Nat => s.heap.size ≤ q) (gmW aM kM f1 f2 of ro fa th (nI g) (nI r) (-1) (-1)) := hD.sub [7, 8, 9, 10, 11, 12] (by decide) rfl
  have hFc := va_free (wc := (gmW aM kM f1 f2 of ro fa th (nI g) (nI r) (-1) (-1))) hD hS hA [7, 8, 9, 10, 11, 12] rfl
  refine va_calli (va_runV (As := [.int (nI x), .int (nI w)]) (rest := []) ⟨hx, hb, hml, hown, hts⟩ (c_X1_told l dC dI aM kM f1 f2 of ro fa th g r (-1) (-1) K x w H.size (by first | assumption | omega) (by first | assumption | omega) (by first | assumption | omega) (by first | assumption | omega) (by first | assumption | omega)) (cwV 2 hts gL_law_X1_told rfl rfl rfl (by decide +kernel) ⟨Nat.le_of_ble_eq_true rfl, Nat.le_of_ble_eq_true rfl⟩) ⟨gcPM_blind, va_recv hK hP (ci := 1) (q0 := 7) rfl rfl, fun U hU hW => ⟨rfl, by rw [hU], by rw [hU]; exact hPc, va_K.moved hW.alike hKc, hDc.weaken (fun _ _ _ _ => trivial)⟩⟩ rfl rfl hl.1 rfl (lv_room (Nat.le_of_ble_eq_true rfl)) dL_law_335 ⟨show 14 + jj + 0 + 0 ≤ 1046 by omega, show 1295 + 6 * jj + 0 + 0 ≤ 9535 by omega⟩) hS (fun q _ h => hFc q h) hFc (fun r2 u t H locs ht hvm hw hB hz1 hk1 hS => ?_)
  obtain ⟨hP1, hD1⟩ := hB
  rw [ht] at hP1
  obtain ⟨hP, hD⟩ := va_join (wr := [(aG 0, .inr (0, [.ref (aG 1), .ref (aG 2), .ref (aG 3), .ref (aG 4), .ref (aG 5), .ref (aG 6), .int (nI g), .int (nI r), .int inf, .int (nI ct)])), (aG 1, .inl (kG 1, 30, .inl f1)), (aG 2, .inl (kG 2, 30, .inl f2)), (aG 3, .inl (kG 3, 20, .inl dr)), (aG 4, .inl (kG 4, 20, .inl cl)), (aG 5, .inl (kG 5, 20, .inl tr)), (aG 6, .inl (kG 6, 1024, .inl se)), (oa, .inl (ok, 1, .inr (.inl (vp_updL ou 0 ((gTo f1 f2 inf x w).toInt64)))))]) (w1 := (gmW aM kM f1 f2 of ro fa 0 (nI g) (nI r) (-1) (-1))) hP hD [7, 8, 9, 10, 11, 12] [0, 1, 2, 3, 4, 5, 6, 13] rfl rfl (by decide) (by decide) hk1 hFc hP1 hD1
  have hP : va_P (dC, dI) vwCl (gcW aG kG f1 f2 dr cl tr se (nI g) (nI r) inf (nI ct) ++ (gmW aM kM f1 f2 of ro fa 0 (nI g) (nI r) (-1) (-1) ++ ([(oa, .inl (ok, 1, .inr (.inl (vp_updL ou 0 ((gTo f1 f2 inf x w).toInt64)))))]))) H := hP.sub [0, 1, 2, 3, 4, 5, 6, 8, 9, 10, 11, 12, 13, 7] rfl
  have hD : va_D (fun q : Nat => s.heap.size ≤ q) (gcW aG kG f1 f2 dr cl tr se (nI g) (nI r) inf (nI ct) ++ (gmW aM kM f1 f2 of ro fa 0 (nI g) (nI r) (-1) (-1) ++ ([(oa, .inl (ok, 1, .inr (.inl (vp_updL ou 0 ((gTo f1 f2 inf x w).toInt64)))))]))) := hD.sub [0, 1, 2, 3, 4, 5, 6, 8, 9, 10, 11, 12, 13, 7] (by decide) rfl
  have hw : r2 = mTd K x w := hw
  subst hw
  clear hw
  clear hz1 hk1 ht hvm hP1 hD1 hFc hDc
  clear hPc hKc
  refine lv_istore (lv' := [(6, .int (mTd K x w)), (5, .int 0), (4, .int (nI (3 * jj))), (0, .ref b), (1, .ref (aG 0)), (2, .ref (aM 0)), (3, .ref oa)]) hx hb dL_law_338 hl (by decide) rfl (fun ls hl => ?_)
  refine lv_aload_n hx hb dL_law_340 rfl (lv_at hl 5 rfl) ?_
  have hPc : va_P (dC, dI) vwCl (gmW aM kM f1 f2 of ro fa 0 (nI g) (nI r) (-1) (-1)) _ := hP.sub [7, 8, 9, 10, 11, 12] rfl
  have hKc : va_K (dC, dI) vwCl (gmT kM) s := hK.sub [6, 7, 8, 9, 10] rfl
  refine va_calli (va_runV (As := []) (rest := []) ⟨hx, hb, hml, hown, hts⟩ (c_X1_thrown l dC dI aM kM f1 f2 of ro fa 0 g r (-1) (-1)) (cwV 0 hts gL_law_X1_thrown rfl rfl rfl (by decide +kernel) ⟨Nat.le_of_ble_eq_true rfl, Nat.le_of_ble_eq_true rfl⟩) ⟨gcPR_blind, va_recv hK hP (ci := 1) (q0 := 7) rfl rfl, fun U hU hW => ⟨rfl, by rw [hU]; exact hPc, va_K.moved hW.alike hKc⟩⟩ rfl rfl hl.1 rfl (lv_room (Nat.le_of_ble_eq_true rfl)) dL_law_341 ⟨show 14 + jj + 0 + 0 + 0 ≤ 1046 by omega, show 1295 + 6 * jj + 0 + 0 + 0 ≤ 9535 by omega⟩) hS (fun q _ h => h.elim) (fun q h => h.elim) (fun r3 u t H locs ht hvm hw hB hz1 hk1 hS => ?_)
  have hP := gc_keep hP hk1
  have hw : r3 = 0 := hw
  subst hw
  clear hw
  clear hB hz1 hk1 ht hvm
  clear hPc hKc
  refine lv_iload hx hb dL_law_344 (lv_at hl 1 rfl) ?_
  refine lv_icmp_eq (tgt := 351) hx hb dL_law_346 (by decide) (fun c_346 => ?_) (fun c_346 => absurd rfl c_346)
  refine lv_iload hx hb dL_law_351 (lv_at hl 1 rfl) ?_
  refine lv_if_ne (tgt := 368) hx hb dL_law_353 (by decide) (fun c_353 => ?_) (fun c_353 => ?_)
  · skip
    exact absurd (by decide) c_353
  · skip
    refine lv_aload_n hx hb dL_law_356 rfl (lv_at hl 6 rfl) ?_
    refine lv_iconst (v := 0) hx hb dL_law_357 (by decide) ?_
    refine va_lald hx hb hKd hP 13 11 rfl rfl gc_in01 dL_law_358 ?_
    refine gc_topl (y := ((gTo f1 f2 inf x w).toInt64)) (by rw [sb_cl0]; exact pk_uLs) ?_
    refine gc_topl (y := (mTd K x w).toInt64) (by rw [told_eq hOK hr30 hx2 hw]) ?_
    refine lv_iload hx hb dL_law_359 (lv_at hl 0 rfl) ?_
    refine lv_i2l hx hb dL_law_361 rfl ?_
    refine W.lcmp hx hb dL_law_362 ?_
    refine gc_topi (y := 0) ((lg_cmp_eq _ _).mpr rfl) ?_
    refine lv_if_eq (tgt := 368) hx hb dL_law_363 (by decide) (fun c_363 => ?_) (fun c_363 => ?_)
    · skip
      refine lv_goto (tgt := 951) hx hb dL_law_368 (by decide) ?_
      refine lv_iinc (v := nI (3 * (jj + 1))) (lv' := [(4, .int (nI (3 * (jj + 1)))), (6, .int (mTd K x w)), (5, .int 0), (0, .ref b), (1, .ref (aG 0)), (2, .ref (aM 0)), (3, .ref oa)]) hx hb dL_law_951 hl (k := 2) rfl (nI_3 jj) (by decide) rfl (fun ls hl => ?_)
      refine lv_goto (tgt := 23) hx hb dL_law_954 (by decide) ?_
      refine W.widen (k := 14 + (jj + 1)) (n := 1295 + 6 * (jj + 1)) (by omega) (by omega) ?_
      exact ih d H _ ls hd ⟨K, g, r, f1, f2, dr, cl, tr, se, inf, ct, of, ro, fa, 0, (vp_updL ou 0 ((gTo f1 f2 inf x w).toInt64)), hI, hP, hD, hS, lv_sub hl [0, 3, 4, 5, 6] rfl⟩
    · skip
      exact absurd (by decide) c_363
set_option maxHeartbeats 4000000 in
set_option maxRecDepth 100000 in
theorem law_3x {p : Program} {e : Env} {s : State} {m : MethodId} {below : List Frame} {meth : Method} {c : Code} (l : Launch) (hgl : l.stackTraces = false) {b L : Nat} {xs : Nat → Int32} (hL : L ≤ 1536) (C0 : lw_At p s m meth c b L xs) {dC : Nat → ClassId} {dI : Nat → Nat → Nat} {aG : Nat → Nat} {kG : Nat → ClassId} {aM : Nat → Nat} {kM : Nat → ClassId} {oa : Nat} {ok : ClassId} (hK : va_K (dC, dI) vwCl (gcT kG ++ (gmT kM ++ ([(ok, .long)]))) s) (hXA : gcXA (fun q : Nat => s.heap.size ≤ q) s) {jj : Nat} (hj : 3 * jj + 3 ≤ L) {d : Drawn} (hd : s.drawn.sameBut d lw_cs) {K : Bk} {g r : Nat} {f1 f2 dr cl tr se : Nat → Int32} {inf : Int32} {ct : Nat} {of ro fa : Nat → Int32} {th : Int32} {ou : Nat → Int64} (hI : Inv K g r f1 f2 inf dr cl se ct of) {H : Heap} {locs : List Loc} {ls : Array Slot} (hP : va_P (dC, dI) vwCl (gcW aG kG f1 f2 dr cl tr se (nI g) (nI r) inf (nI ct) ++ (gmW aM kM f1 f2 of ro fa th (nI g) (nI r) (-1) (-1) ++ ([(oa, .inl (ok, 1, .inr (.inl ou)))]))) H) (hD : va_D (fun q : Nat => s.heap.size ≤ q) (gcW aG kG f1 f2 dr cl tr se (nI g) (nI r) inf (nI ct) ++ (gmW aM kM f1 f2 of ro fa th (nI g) (nI r) (-1) (-1) ++ ([(oa, .inl (ok, 1, .inr (.inl ou)))])))) (hS : va_S (fun q : Nat => s.heap.size ≤ q) s.heap H locs) (hl : lv_has ls 9 [(4, .int (nI (3 * jj))), (0, .ref b), (1, .ref (aG 0)), (2, .ref (aM 0)), (3, .ref oa)]) (ih : ∀ (d1 : Drawn) (H1 : Heap) (locs1 : List Loc) (ls1 : Array Slot), s.drawn.sameBut d1 lw_cs → LSt dC dI s b aG kG aM kM oa ok (jj + 1) H1 locs1 ls1 → W p l e room_1 (s.setDrawn d1) m #[Value.ref b] below meth c H1 locs1 (14 + (jj + 1)) (1295 + 6 * (jj + 1)) (lw_Z below #[Value.ref b] s) (F0 m 23 ls1 [])) (hno : ∀ q : Nat, q < r → xs (3 * jj + 1) ≠ nI q) : W p l e room_1 (s.setDrawn d) m #[Value.ref b] below meth c H locs (14 + jj) (1295 + 6 * jj) (lw_Z below #[Value.ref b] s) (F0 m 303 ls []) := by
  obtain ⟨hx, hb, hr, hml, hown, hts0, hX, hbl, hlocks, hgv⟩ := C0
  have hown : s.vm.findClass RL = some m.cls := hown
  have hts1 : ∀ w ∈ wsL_law, w.before #[Value.ref b] s = true := fun w h => hts0 w (wsL_law_in w h)
  have hts := dr_words hts1 d
  have hA : ∀ q : Nat, s.heap.size ≤ q → (fun q : Nat => s.heap.size ≤ q) q := fun _ h => h
  have hbA : ¬ (fun q : Nat => s.heap.size ≤ q) b := Nat.not_le.mpr hbl
  obtain ⟨hg10, hr30, hOK, hz, hBk, hof, hDr, hCl, s0, hse, hct⟩ := id hI
  have hKd : va_K (dC, dI) vwCl (gcT kG ++ (gmT kM ++ ([(ok, .long)]))) (s.setDrawn d) := hK
  have hXd : va_X b L xs (s.setDrawn d) s.heap := hX
  have hKg := gOK_Kg hOK
  have hKr : K.1 ≤ 30 := by rw [hOK.1]; exact hr30
  have hLF : LF K g se ct := by rw [hse, hct]; exact LF_of hg10 hKg hCl s0
  have hc1024 : ct ≤ 1024 := hLF.2
  have hft : gFt cl g = decide (0 < ct) := by rw [hct]; exact ft_pos hg10 hKg hCl s0
  refine lv_aload_n hx hb dL_law_303 rfl (lv_at hl 2 rfl) ?_
  refine lv_aload_n hx hb dL_law_304 rfl (lv_at hl 1 rfl) ?_
  refine lv_iload hx hb dL_law_305 (lv_at hl 0 rfl) ?_
  refine lv_iconst (v := 1) hx hb dL_law_307 (by decide) ?_
  refine lv_iadd hx hb dL_law_308 ?_
  refine gc_topi (y := nI (3 * jj + 1)) (nI_add (3 * jj) 1) ?_
  refine va_sld hx hb hXd hbl hbA hS (vp_in_nI (n := (3 * jj + 1)) (by omega) (by omega)) dL_law_309 ?_
  rw [nI_clamp (n := (3 * jj + 1)) (by omega)]
  refine lv_aload_n hx hb dL_law_310 rfl (lv_at hl 1 rfl) ?_
  refine lv_iload hx hb dL_law_311 (lv_at hl 0 rfl) ?_
  refine lv_iconst (v := 2) hx hb dL_law_313 (by decide) ?_
  refine lv_iadd hx hb dL_law_314 ?_
  refine gc_topi (y := nI (3 * jj + 2)) (nI_add (3 * jj) 2) ?_
  refine va_sld hx hb hXd hbl hbA hS (vp_in_nI (n := (3 * jj + 2)) (by omega) (by omega)) dL_law_315 ?_
  rw [nI_clamp (n := (3 * jj + 2)) (by omega)]
  refine lv_aload_n hx hb dL_law_316 rfl (lv_at hl 4 rfl) ?_
  have hPc : va_P (dC, dI) vwCl (gcW aG kG f1 f2 dr cl tr se (nI g) (nI r) inf (nI ct) ++ ([(oa, .inl (ok, 1, .inr (.inl ou)))])) _ := hP.sub [0, 1, 2, 3, 4, 5, 6, 13] rfl
  have hKc : va_K (dC, dI) vwCl (gcT kG ++ ([(ok, .long)])) s := hK.sub [0, 1, 2, 3, 4, 5, 11] rfl
  have hDc : va_D (fun q : Nat => s.heap.size ≤ q) (gcW aG kG f1 f2 dr cl tr se (nI g) (nI r) inf (nI ct) ++ ([(oa, .inl (ok, 1, .inr (.inl ou)))])) := hD.sub [0, 1, 2, 3, 4, 5, 6, 13] (by decide) rfl
  have hFc := va_free (wc := (gcW aG kG f1 f2 dr cl tr se (nI g) (nI r) inf (nI ct) ++ ([(oa, .inl (ok, 1, .inr (.inl ou)))]))) hD hS hA [0, 1, 2, 3, 4, 5, 6, 13] rfl
  refine va_calli (vx_runSW (As := [.ref (aG 0), .int (xs (3 * jj + 1)), .int (xs (3 * jj + 2)), .ref oa]) (rest := []) ⟨hx, hb, hml, hown, hts⟩ (wx_told_1 l hgl dC dI aG kG f1 f2 dr cl tr se g r inf ct oa ok ou (xs (3 * jj + 1)) (xs (3 * jj + 2)) H.size (by first | assumption | omega) (by first | exact hno | exact Or.inl hno | exact Or.inr hno)) (vx_cwSW 4 hts gL_law_L_told rfl rfl rfl (by decide +kernel) ⟨Nat.le_of_ble_eq_true rfl, Nat.le_of_ble_eq_true rfl⟩) ⟨gcPN_blind, fun U hU hW => ⟨rfl, by rw [hU], by rw [hU]; exact hPc, va_K.moved hW.alike hKc, hDc.weaken (fun _ _ _ _ => trivial), gcXA_go hXA hS hU hW⟩⟩ rfl rfl hl.1 rfl (lv_room (Nat.le_of_ble_eq_true rfl)) dL_law_317 ⟨show 14 + jj + 1 ≤ 1046 by omega, show 1295 + 6 * jj + 6 ≤ 9535 by omega⟩) hS (fun q _ h => hFc q h) hFc (fun r1 u t H locs ht hvm hw hB hz1 hk1 hS => ?_)
  obtain ⟨hP1, hD1⟩ := hB
  rw [ht] at hP1
  obtain ⟨hP, hD⟩ := va_join (wr := [(aM 0, .inr (1, [.int th, .int (nI g), .int (nI r), .ref (aM 1), .ref (aM 2), .ref (aM 3), .int (-1), .int (-1), .ref (aM 4), .ref (aM 5)])), (aM 1, .inl (kM 1, 30, .inl f1)), (aM 2, .inl (kM 2, 30, .inl f2)), (aM 3, .inl (kM 3, 30, .inl of)), (aM 4, .inl (kM 4, 20, .inl ro)), (aM 5, .inl (kM 5, 20, .inl fa))]) (w1 := (gcW aG kG f1 f2 dr cl tr se (nI g) (nI r) inf (nI ct) ++ ([(oa, .inl (ok, 1, .inr (.inl ou)))]))) hP hD [0, 1, 2, 3, 4, 5, 6, 13] [7, 8, 9, 10, 11, 12] rfl rfl (by decide) (by decide) hk1 hFc hP1 hD1
  have hP : va_P (dC, dI) vwCl (gcW aG kG f1 f2 dr cl tr se (nI g) (nI r) inf (nI ct) ++ (gmW aM kM f1 f2 of ro fa th (nI g) (nI r) (-1) (-1) ++ ([(oa, .inl (ok, 1, .inr (.inl ou)))]))) H := hP.sub [6, 7, 8, 9, 10, 11, 12, 0, 1, 2, 3, 4, 5, 13] rfl
  have hD : va_D (fun q : Nat => s.heap.size ≤ q) (gcW aG kG f1 f2 dr cl tr se (nI g) (nI r) inf (nI ct) ++ (gmW aM kM f1 f2 of ro fa th (nI g) (nI r) (-1) (-1) ++ ([(oa, .inl (ok, 1, .inr (.inl ou)))]))) := hD.sub [6, 7, 8, 9, 10, 11, 12, 0, 1, 2, 3, 4, 5, 13] (by decide) rfl
  have hw : r1 = 1 := hw
  subst hw
  clear hw
  clear hz1 hk1 ht hvm hP1 hD1 hFc hDc
  clear hPc hKc
  refine lv_istore (lv' := [(5, .int 1), (4, .int (nI (3 * jj))), (0, .ref b), (1, .ref (aG 0)), (2, .ref (aM 0)), (3, .ref oa)]) hx hb dL_law_320 hl (by decide) rfl (fun ls hl => ?_)
  refine lv_aload_n hx hb dL_law_322 rfl (lv_at hl 4 rfl) ?_
  refine lv_aload_n hx hb dL_law_323 rfl (lv_at hl 2 rfl) ?_
  refine lv_iload hx hb dL_law_324 (lv_at hl 1 rfl) ?_
  refine lv_iconst (v := 1) hx hb dL_law_326 (by decide) ?_
  refine lv_iadd hx hb dL_law_327 ?_
  refine gc_topi (y := nI (3 * jj + 1)) (nI_add (3 * jj) 1) ?_
  refine va_sld hx hb hXd hbl hbA hS (vp_in_nI (n := (3 * jj + 1)) (by omega) (by omega)) dL_law_328 ?_
  rw [nI_clamp (n := (3 * jj + 1)) (by omega)]
  refine lv_aload_n hx hb dL_law_329 rfl (lv_at hl 2 rfl) ?_
  refine lv_iload hx hb dL_law_330 (lv_at hl 1 rfl) ?_
  refine lv_iconst (v := 2) hx hb dL_law_332 (by decide) ?_
  refine lv_iadd hx hb dL_law_333 ?_
  refine gc_topi (y := nI (3 * jj + 2)) (nI_add (3 * jj) 2) ?_
  refine va_sld hx hb hXd hbl hbA hS (vp_in_nI (n := (3 * jj + 2)) (by omega) (by omega)) dL_law_334 ?_
  rw [nI_clamp (n := (3 * jj + 2)) (by omega)]
  have hPc : va_P (dC, dI) vwCl (gmW aM kM f1 f2 of ro fa th (nI g) (nI r) (-1) (-1)) _ := hP.sub [7, 8, 9, 10, 11, 12] rfl
  have hKc : va_K (dC, dI) vwCl (gmT kM) s := hK.sub [6, 7, 8, 9, 10] rfl
  have hDc : va_D (fun q : Nat => s.heap.size ≤ q) (gmW aM kM f1 f2 of ro fa th (nI g) (nI r) (-1) (-1)) := hD.sub [7, 8, 9, 10, 11, 12] (by decide) rfl
  have hFc := va_free (wc := (gmW aM kM f1 f2 of ro fa th (nI g) (nI r) (-1) (-1))) hD hS hA [7, 8, 9, 10, 11, 12] rfl
  refine va_calli (va_runV (As := [.int (xs (3 * jj + 1)), .int (xs (3 * jj + 2))]) (rest := []) ⟨hx, hb, hml, hown, hts⟩ (c_X1_told_no l dC dI aM kM f1 f2 of ro fa th g r (-1) (-1) (xs (3 * jj + 1)) (xs (3 * jj + 2)) H.size (by first | assumption | omega) (by first | exact hno | exact Or.inl hno | exact Or.inr hno)) (cwV 2 hts gL_law_X1_told rfl rfl rfl (by decide +kernel) ⟨Nat.le_of_ble_eq_true rfl, Nat.le_of_ble_eq_true rfl⟩) ⟨gcPM_blind, va_recv hK hP (ci := 1) (q0 := 7) rfl rfl, fun U hU hW => ⟨rfl, by rw [hU], by rw [hU]; exact hPc, va_K.moved hW.alike hKc, hDc.weaken (fun _ _ _ _ => trivial)⟩⟩ rfl rfl hl.1 rfl (lv_room (Nat.le_of_ble_eq_true rfl)) dL_law_335 ⟨show 14 + jj + 1 + 0 ≤ 1046 by omega, show 1295 + 6 * jj + 6 + 0 ≤ 9535 by omega⟩) hS (fun q _ h => hFc q h) hFc (fun r2 u t H locs ht hvm hw hB hz1 hk1 hS => ?_)
  obtain ⟨hP1, hD1⟩ := hB
  rw [ht] at hP1
  obtain ⟨hP, hD⟩ := va_join (wr := [(aG 0, .inr (0, [.ref (aG 1), .ref (aG 2), .ref (aG 3), .ref (aG 4), .ref (aG 5), .ref (aG 6), .int (nI g), .int (nI r), .int inf, .int (nI ct)])), (aG 1, .inl (kG 1, 30, .inl f1)), (aG 2, .inl (kG 2, 30, .inl f2)), (aG 3, .inl (kG 3, 20, .inl dr)), (aG 4, .inl (kG 4, 20, .inl cl)), (aG 5, .inl (kG 5, 20, .inl tr)), (aG 6, .inl (kG 6, 1024, .inl se)), (oa, .inl (ok, 1, .inr (.inl ou)))]) (w1 := (gmW aM kM f1 f2 of ro fa 1 (nI g) (nI r) (-1) (-1))) hP hD [7, 8, 9, 10, 11, 12] [0, 1, 2, 3, 4, 5, 6, 13] rfl rfl (by decide) (by decide) hk1 hFc hP1 hD1
  have hP : va_P (dC, dI) vwCl (gcW aG kG f1 f2 dr cl tr se (nI g) (nI r) inf (nI ct) ++ (gmW aM kM f1 f2 of ro fa 1 (nI g) (nI r) (-1) (-1) ++ ([(oa, .inl (ok, 1, .inr (.inl ou)))]))) H := hP.sub [0, 1, 2, 3, 4, 5, 6, 8, 9, 10, 11, 12, 13, 7] rfl
  have hD : va_D (fun q : Nat => s.heap.size ≤ q) (gcW aG kG f1 f2 dr cl tr se (nI g) (nI r) inf (nI ct) ++ (gmW aM kM f1 f2 of ro fa 1 (nI g) (nI r) (-1) (-1) ++ ([(oa, .inl (ok, 1, .inr (.inl ou)))]))) := hD.sub [0, 1, 2, 3, 4, 5, 6, 8, 9, 10, 11, 12, 13, 7] (by decide) rfl
  have hw_335 : True := hw
  clear hz1 hk1 ht hvm hP1 hD1 hFc hDc
  clear hPc hKc
  refine lv_istore (lv' := [(6, .int r2), (5, .int 1), (4, .int (nI (3 * jj))), (0, .ref b), (1, .ref (aG 0)), (2, .ref (aM 0)), (3, .ref oa)]) hx hb dL_law_338 hl (by decide) rfl (fun ls hl => ?_)
  refine lv_aload_n hx hb dL_law_340 rfl (lv_at hl 5 rfl) ?_
  have hPc : va_P (dC, dI) vwCl (gmW aM kM f1 f2 of ro fa 1 (nI g) (nI r) (-1) (-1)) _ := hP.sub [7, 8, 9, 10, 11, 12] rfl
  have hKc : va_K (dC, dI) vwCl (gmT kM) s := hK.sub [6, 7, 8, 9, 10] rfl
  refine va_calli (va_runV (As := []) (rest := []) ⟨hx, hb, hml, hown, hts⟩ (c_X1_thrown l dC dI aM kM f1 f2 of ro fa 1 g r (-1) (-1)) (cwV 0 hts gL_law_X1_thrown rfl rfl rfl (by decide +kernel) ⟨Nat.le_of_ble_eq_true rfl, Nat.le_of_ble_eq_true rfl⟩) ⟨gcPR_blind, va_recv hK hP (ci := 1) (q0 := 7) rfl rfl, fun U hU hW => ⟨rfl, by rw [hU]; exact hPc, va_K.moved hW.alike hKc⟩⟩ rfl rfl hl.1 rfl (lv_room (Nat.le_of_ble_eq_true rfl)) dL_law_341 ⟨show 14 + jj + 1 + 0 + 0 ≤ 1046 by omega, show 1295 + 6 * jj + 6 + 0 + 0 ≤ 9535 by omega⟩) hS (fun q _ h => h.elim) (fun q h => h.elim) (fun r3 u t H locs ht hvm hw hB hz1 hk1 hS => ?_)
  have hP := gc_keep hP hk1
  have hw : r3 = 1 := hw
  subst hw
  clear hw
  clear hB hz1 hk1 ht hvm
  clear hPc hKc
  refine lv_iload hx hb dL_law_344 (lv_at hl 1 rfl) ?_
  refine lv_icmp_eq (tgt := 351) hx hb dL_law_346 (by decide) (fun c_346 => ?_) (fun c_346 => absurd rfl c_346)
  refine lv_iload hx hb dL_law_351 (lv_at hl 1 rfl) ?_
  refine lv_if_ne (tgt := 368) hx hb dL_law_353 (by decide) (fun c_353 => ?_) (fun c_353 => ?_)
  · skip
    refine lv_goto (tgt := 951) hx hb dL_law_368 (by decide) ?_
    refine lv_iinc (v := nI (3 * (jj + 1))) (lv' := [(4, .int (nI (3 * (jj + 1)))), (6, .int r2), (5, .int 1), (0, .ref b), (1, .ref (aG 0)), (2, .ref (aM 0)), (3, .ref oa)]) hx hb dL_law_951 hl (k := 2) rfl (nI_3 jj) (by decide) rfl (fun ls hl => ?_)
    refine lv_goto (tgt := 23) hx hb dL_law_954 (by decide) ?_
    refine W.widen (k := 14 + (jj + 1)) (n := 1295 + 6 * (jj + 1)) (by omega) (by omega) ?_
    exact ih d H _ ls hd ⟨K, g, r, f1, f2, dr, cl, tr, se, inf, ct, of, ro, fa, 1, ou, hI, hP, hD, hS, lv_sub hl [0, 3, 4, 5, 6] rfl⟩
  · skip
    exact absurd c_353 (by decide)
set_option maxHeartbeats 4000000 in
set_option maxRecDepth 100000 in
theorem law_3y {p : Program} {e : Env} {s : State} {m : MethodId} {below : List Frame} {meth : Method} {c : Code} (l : Launch) (hgl : l.stackTraces = false) {b L : Nat} {xs : Nat → Int32} (hL : L ≤ 1536) (C0 : lw_At p s m meth c b L xs) {dC : Nat → ClassId} {dI : Nat → Nat → Nat} {aG : Nat → Nat} {kG : Nat → ClassId} {aM : Nat → Nat} {kM : Nat → ClassId} {oa : Nat} {ok : ClassId} (hK : va_K (dC, dI) vwCl (gcT kG ++ (gmT kM ++ ([(ok, .long)]))) s) (hXA : gcXA (fun q : Nat => s.heap.size ≤ q) s) {jj : Nat} (hj : 3 * jj + 3 ≤ L) {d : Drawn} (hd : s.drawn.sameBut d lw_cs) {K : Bk} {g r : Nat} {f1 f2 dr cl tr se : Nat → Int32} {inf : Int32} {ct : Nat} {of ro fa : Nat → Int32} {th : Int32} {ou : Nat → Int64} (hI : Inv K g r f1 f2 inf dr cl se ct of) {H : Heap} {locs : List Loc} {ls : Array Slot} (hP : va_P (dC, dI) vwCl (gcW aG kG f1 f2 dr cl tr se (nI g) (nI r) inf (nI ct) ++ (gmW aM kM f1 f2 of ro fa th (nI g) (nI r) (-1) (-1) ++ ([(oa, .inl (ok, 1, .inr (.inl ou)))]))) H) (hD : va_D (fun q : Nat => s.heap.size ≤ q) (gcW aG kG f1 f2 dr cl tr se (nI g) (nI r) inf (nI ct) ++ (gmW aM kM f1 f2 of ro fa th (nI g) (nI r) (-1) (-1) ++ ([(oa, .inl (ok, 1, .inr (.inl ou)))])))) (hS : va_S (fun q : Nat => s.heap.size ≤ q) s.heap H locs) (hl : lv_has ls 9 [(4, .int (nI (3 * jj))), (0, .ref b), (1, .ref (aG 0)), (2, .ref (aM 0)), (3, .ref oa)]) (ih : ∀ (d1 : Drawn) (H1 : Heap) (locs1 : List Loc) (ls1 : Array Slot), s.drawn.sameBut d1 lw_cs → LSt dC dI s b aG kG aM kM oa ok (jj + 1) H1 locs1 ls1 → W p l e room_1 (s.setDrawn d1) m #[Value.ref b] below meth c H1 locs1 (14 + (jj + 1)) (1295 + 6 * (jj + 1)) (lw_Z below #[Value.ref b] s) (F0 m 23 ls1 [])) {x : Nat} (hx2 : x < r) (h1 : xs (3 * jj + 1) = nI x) (hno : ∀ q : Nat, q < 3 → xs (3 * jj + 2) ≠ nI q) : W p l e room_1 (s.setDrawn d) m #[Value.ref b] below meth c H locs (14 + jj) (1295 + 6 * jj) (lw_Z below #[Value.ref b] s) (F0 m 303 ls []) := by
  obtain ⟨hx, hb, hr, hml, hown, hts0, hX, hbl, hlocks, hgv⟩ := C0
  have hown : s.vm.findClass RL = some m.cls := hown
  have hts1 : ∀ w ∈ wsL_law, w.before #[Value.ref b] s = true := fun w h => hts0 w (wsL_law_in w h)
  have hts := dr_words hts1 d
  have hA : ∀ q : Nat, s.heap.size ≤ q → (fun q : Nat => s.heap.size ≤ q) q := fun _ h => h
  have hbA : ¬ (fun q : Nat => s.heap.size ≤ q) b := Nat.not_le.mpr hbl
  obtain ⟨hg10, hr30, hOK, hz, hBk, hof, hDr, hCl, s0, hse, hct⟩ := id hI
  have hKd : va_K (dC, dI) vwCl (gcT kG ++ (gmT kM ++ ([(ok, .long)]))) (s.setDrawn d) := hK
  have hXd : va_X b L xs (s.setDrawn d) s.heap := hX
  have hKg := gOK_Kg hOK
  have hKr : K.1 ≤ 30 := by rw [hOK.1]; exact hr30
  have hLF : LF K g se ct := by rw [hse, hct]; exact LF_of hg10 hKg hCl s0
  have hc1024 : ct ≤ 1024 := hLF.2
  have hft : gFt cl g = decide (0 < ct) := by rw [hct]; exact ft_pos hg10 hKg hCl s0
  refine lv_aload_n hx hb dL_law_303 rfl (lv_at hl 2 rfl) ?_
  refine lv_aload_n hx hb dL_law_304 rfl (lv_at hl 1 rfl) ?_
  refine lv_iload hx hb dL_law_305 (lv_at hl 0 rfl) ?_
  refine lv_iconst (v := 1) hx hb dL_law_307 (by decide) ?_
  refine lv_iadd hx hb dL_law_308 ?_
  refine gc_topi (y := nI (3 * jj + 1)) (nI_add (3 * jj) 1) ?_
  refine va_sld hx hb hXd hbl hbA hS (vp_in_nI (n := (3 * jj + 1)) (by omega) (by omega)) dL_law_309 ?_
  rw [nI_clamp (n := (3 * jj + 1)) (by omega)]
  refine gc_topi (y := nI x) (h1) ?_
  refine lv_aload_n hx hb dL_law_310 rfl (lv_at hl 1 rfl) ?_
  refine lv_iload hx hb dL_law_311 (lv_at hl 0 rfl) ?_
  refine lv_iconst (v := 2) hx hb dL_law_313 (by decide) ?_
  refine lv_iadd hx hb dL_law_314 ?_
  refine gc_topi (y := nI (3 * jj + 2)) (nI_add (3 * jj) 2) ?_
  refine va_sld hx hb hXd hbl hbA hS (vp_in_nI (n := (3 * jj + 2)) (by omega) (by omega)) dL_law_315 ?_
  rw [nI_clamp (n := (3 * jj + 2)) (by omega)]
  refine lv_aload_n hx hb dL_law_316 rfl (lv_at hl 4 rfl) ?_
  have hPc : va_P (dC, dI) vwCl (gcW aG kG f1 f2 dr cl tr se (nI g) (nI r) inf (nI ct) ++ ([(oa, .inl (ok, 1, .inr (.inl ou)))])) _ := hP.sub [0, 1, 2, 3, 4, 5, 6, 13] rfl
  have hKc : va_K (dC, dI) vwCl (gcT kG ++ ([(ok, .long)])) s := hK.sub [0, 1, 2, 3, 4, 5, 11] rfl
  have hDc : va_D (fun q : Nat => s.heap.size ≤ q) (gcW aG kG f1 f2 dr cl tr se (nI g) (nI r) inf (nI ct) ++ ([(oa, .inl (ok, 1, .inr (.inl ou)))])) := hD.sub [0, 1, 2, 3, 4, 5, 6, 13] (by decide) rfl
  have hFc := va_free (wc := (gcW aG kG f1 f2 dr cl tr se (nI g) (nI r) inf (nI ct) ++ ([(oa, .inl (ok, 1, .inr (.inl ou)))]))) hD hS hA [0, 1, 2, 3, 4, 5, 6, 13] rfl
  refine va_calli (vx_runSW (As := [.ref (aG 0), .int (nI x), .int (xs (3 * jj + 2)), .ref oa]) (rest := []) ⟨hx, hb, hml, hown, hts⟩ (wx_told_2 l hgl dC dI aG kG f1 f2 dr cl tr se g r inf ct oa ok ou x (xs (3 * jj + 2)) H.size (by first | assumption | omega) (by first | assumption | omega) (by first | exact hno | exact Or.inl hno | exact Or.inr hno)) (vx_cwSW 4 hts gL_law_L_told rfl rfl rfl (by decide +kernel) ⟨Nat.le_of_ble_eq_true rfl, Nat.le_of_ble_eq_true rfl⟩) ⟨gcPN_blind, fun U hU hW => ⟨rfl, by rw [hU], by rw [hU]; exact hPc, va_K.moved hW.alike hKc, hDc.weaken (fun _ _ _ _ => trivial), gcXA_go hXA hS hU hW⟩⟩ rfl rfl hl.1 rfl (lv_room (Nat.le_of_ble_eq_true rfl)) dL_law_317 ⟨show 14 + jj + 1 ≤ 1046 by omega, show 1295 + 6 * jj + 6 ≤ 9535 by omega⟩) hS (fun q _ h => hFc q h) hFc (fun r1 u t H locs ht hvm hw hB hz1 hk1 hS => ?_)
  obtain ⟨hP1, hD1⟩ := hB
  rw [ht] at hP1
  obtain ⟨hP, hD⟩ := va_join (wr := [(aM 0, .inr (1, [.int th, .int (nI g), .int (nI r), .ref (aM 1), .ref (aM 2), .ref (aM 3), .int (-1), .int (-1), .ref (aM 4), .ref (aM 5)])), (aM 1, .inl (kM 1, 30, .inl f1)), (aM 2, .inl (kM 2, 30, .inl f2)), (aM 3, .inl (kM 3, 30, .inl of)), (aM 4, .inl (kM 4, 20, .inl ro)), (aM 5, .inl (kM 5, 20, .inl fa))]) (w1 := (gcW aG kG f1 f2 dr cl tr se (nI g) (nI r) inf (nI ct) ++ ([(oa, .inl (ok, 1, .inr (.inl ou)))]))) hP hD [0, 1, 2, 3, 4, 5, 6, 13] [7, 8, 9, 10, 11, 12] rfl rfl (by decide) (by decide) hk1 hFc hP1 hD1
  have hP : va_P (dC, dI) vwCl (gcW aG kG f1 f2 dr cl tr se (nI g) (nI r) inf (nI ct) ++ (gmW aM kM f1 f2 of ro fa th (nI g) (nI r) (-1) (-1) ++ ([(oa, .inl (ok, 1, .inr (.inl ou)))]))) H := hP.sub [6, 7, 8, 9, 10, 11, 12, 0, 1, 2, 3, 4, 5, 13] rfl
  have hD : va_D (fun q : Nat => s.heap.size ≤ q) (gcW aG kG f1 f2 dr cl tr se (nI g) (nI r) inf (nI ct) ++ (gmW aM kM f1 f2 of ro fa th (nI g) (nI r) (-1) (-1) ++ ([(oa, .inl (ok, 1, .inr (.inl ou)))]))) := hD.sub [6, 7, 8, 9, 10, 11, 12, 0, 1, 2, 3, 4, 5, 13] (by decide) rfl
  have hw : r1 = 1 := hw
  subst hw
  clear hw
  clear hz1 hk1 ht hvm hP1 hD1 hFc hDc
  clear hPc hKc
  refine lv_istore (lv' := [(5, .int 1), (4, .int (nI (3 * jj))), (0, .ref b), (1, .ref (aG 0)), (2, .ref (aM 0)), (3, .ref oa)]) hx hb dL_law_320 hl (by decide) rfl (fun ls hl => ?_)
  refine lv_aload_n hx hb dL_law_322 rfl (lv_at hl 4 rfl) ?_
  refine lv_aload_n hx hb dL_law_323 rfl (lv_at hl 2 rfl) ?_
  refine lv_iload hx hb dL_law_324 (lv_at hl 1 rfl) ?_
  refine lv_iconst (v := 1) hx hb dL_law_326 (by decide) ?_
  refine lv_iadd hx hb dL_law_327 ?_
  refine gc_topi (y := nI (3 * jj + 1)) (nI_add (3 * jj) 1) ?_
  refine va_sld hx hb hXd hbl hbA hS (vp_in_nI (n := (3 * jj + 1)) (by omega) (by omega)) dL_law_328 ?_
  rw [nI_clamp (n := (3 * jj + 1)) (by omega)]
  refine gc_topi (y := nI x) (h1) ?_
  refine lv_aload_n hx hb dL_law_329 rfl (lv_at hl 2 rfl) ?_
  refine lv_iload hx hb dL_law_330 (lv_at hl 1 rfl) ?_
  refine lv_iconst (v := 2) hx hb dL_law_332 (by decide) ?_
  refine lv_iadd hx hb dL_law_333 ?_
  refine gc_topi (y := nI (3 * jj + 2)) (nI_add (3 * jj) 2) ?_
  refine va_sld hx hb hXd hbl hbA hS (vp_in_nI (n := (3 * jj + 2)) (by omega) (by omega)) dL_law_334 ?_
  rw [nI_clamp (n := (3 * jj + 2)) (by omega)]
  have hPc : va_P (dC, dI) vwCl (gmW aM kM f1 f2 of ro fa th (nI g) (nI r) (-1) (-1)) _ := hP.sub [7, 8, 9, 10, 11, 12] rfl
  have hKc : va_K (dC, dI) vwCl (gmT kM) s := hK.sub [6, 7, 8, 9, 10] rfl
  have hDc : va_D (fun q : Nat => s.heap.size ≤ q) (gmW aM kM f1 f2 of ro fa th (nI g) (nI r) (-1) (-1)) := hD.sub [7, 8, 9, 10, 11, 12] (by decide) rfl
  have hFc := va_free (wc := (gmW aM kM f1 f2 of ro fa th (nI g) (nI r) (-1) (-1))) hD hS hA [7, 8, 9, 10, 11, 12] rfl
  refine va_calli (va_runV (As := [.int (nI x), .int (xs (3 * jj + 2))]) (rest := []) ⟨hx, hb, hml, hown, hts⟩ (c_X1_told_no l dC dI aM kM f1 f2 of ro fa th g r (-1) (-1) (nI x) (xs (3 * jj + 2)) H.size (by first | assumption | omega) (by first | exact hno | exact Or.inl hno | exact Or.inr hno)) (cwV 2 hts gL_law_X1_told rfl rfl rfl (by decide +kernel) ⟨Nat.le_of_ble_eq_true rfl, Nat.le_of_ble_eq_true rfl⟩) ⟨gcPM_blind, va_recv hK hP (ci := 1) (q0 := 7) rfl rfl, fun U hU hW => ⟨rfl, by rw [hU], by rw [hU]; exact hPc, va_K.moved hW.alike hKc, hDc.weaken (fun _ _ _ _ => trivial)⟩⟩ rfl rfl hl.1 rfl (lv_room (Nat.le_of_ble_eq_true rfl)) dL_law_335 ⟨show 14 + jj + 1 + 0 ≤ 1046 by omega, show 1295 + 6 * jj + 6 + 0 ≤ 9535 by omega⟩) hS (fun q _ h => hFc q h) hFc (fun r2 u t H locs ht hvm hw hB hz1 hk1 hS => ?_)
  obtain ⟨hP1, hD1⟩ := hB
  rw [ht] at hP1
  obtain ⟨hP, hD⟩ := va_join (wr := [(aG 0, .inr (0, [.ref (aG 1), .ref (aG 2), .ref (aG 3), .ref (aG 4), .ref (aG 5), .ref (aG 6), .int (nI g), .int (nI r), .int inf, .int (nI ct)])), (aG 1, .inl (kG 1, 30, .inl f1)), (aG 2, .inl (kG 2, 30, .inl f2)), (aG 3, .inl (kG 3, 20, .inl dr)), (aG 4, .inl (kG 4, 20, .inl cl)), (aG 5, .inl (kG 5, 20, .inl tr)), (aG 6, .inl (kG 6, 1024, .inl se)), (oa, .inl (ok, 1, .inr (.inl ou)))]) (w1 := (gmW aM kM f1 f2 of ro fa 1 (nI g) (nI r) (-1) (-1))) hP hD [7, 8, 9, 10, 11, 12] [0, 1, 2, 3, 4, 5, 6, 13] rfl rfl (by decide) (by decide) hk1 hFc hP1 hD1
  have hP : va_P (dC, dI) vwCl (gcW aG kG f1 f2 dr cl tr se (nI g) (nI r) inf (nI ct) ++ (gmW aM kM f1 f2 of ro fa 1 (nI g) (nI r) (-1) (-1) ++ ([(oa, .inl (ok, 1, .inr (.inl ou)))]))) H := hP.sub [0, 1, 2, 3, 4, 5, 6, 8, 9, 10, 11, 12, 13, 7] rfl
  have hD : va_D (fun q : Nat => s.heap.size ≤ q) (gcW aG kG f1 f2 dr cl tr se (nI g) (nI r) inf (nI ct) ++ (gmW aM kM f1 f2 of ro fa 1 (nI g) (nI r) (-1) (-1) ++ ([(oa, .inl (ok, 1, .inr (.inl ou)))]))) := hD.sub [0, 1, 2, 3, 4, 5, 6, 8, 9, 10, 11, 12, 13, 7] (by decide) rfl
  have hw_335 : True := hw
  clear hz1 hk1 ht hvm hP1 hD1 hFc hDc
  clear hPc hKc
  refine lv_istore (lv' := [(6, .int r2), (5, .int 1), (4, .int (nI (3 * jj))), (0, .ref b), (1, .ref (aG 0)), (2, .ref (aM 0)), (3, .ref oa)]) hx hb dL_law_338 hl (by decide) rfl (fun ls hl => ?_)
  refine lv_aload_n hx hb dL_law_340 rfl (lv_at hl 5 rfl) ?_
  have hPc : va_P (dC, dI) vwCl (gmW aM kM f1 f2 of ro fa 1 (nI g) (nI r) (-1) (-1)) _ := hP.sub [7, 8, 9, 10, 11, 12] rfl
  have hKc : va_K (dC, dI) vwCl (gmT kM) s := hK.sub [6, 7, 8, 9, 10] rfl
  refine va_calli (va_runV (As := []) (rest := []) ⟨hx, hb, hml, hown, hts⟩ (c_X1_thrown l dC dI aM kM f1 f2 of ro fa 1 g r (-1) (-1)) (cwV 0 hts gL_law_X1_thrown rfl rfl rfl (by decide +kernel) ⟨Nat.le_of_ble_eq_true rfl, Nat.le_of_ble_eq_true rfl⟩) ⟨gcPR_blind, va_recv hK hP (ci := 1) (q0 := 7) rfl rfl, fun U hU hW => ⟨rfl, by rw [hU]; exact hPc, va_K.moved hW.alike hKc⟩⟩ rfl rfl hl.1 rfl (lv_room (Nat.le_of_ble_eq_true rfl)) dL_law_341 ⟨show 14 + jj + 1 + 0 + 0 ≤ 1046 by omega, show 1295 + 6 * jj + 6 + 0 + 0 ≤ 9535 by omega⟩) hS (fun q _ h => h.elim) (fun q h => h.elim) (fun r3 u t H locs ht hvm hw hB hz1 hk1 hS => ?_)
  have hP := gc_keep hP hk1
  have hw : r3 = 1 := hw
  subst hw
  clear hw
  clear hB hz1 hk1 ht hvm
  clear hPc hKc
  refine lv_iload hx hb dL_law_344 (lv_at hl 1 rfl) ?_
  refine lv_icmp_eq (tgt := 351) hx hb dL_law_346 (by decide) (fun c_346 => ?_) (fun c_346 => absurd rfl c_346)
  refine lv_iload hx hb dL_law_351 (lv_at hl 1 rfl) ?_
  refine lv_if_ne (tgt := 368) hx hb dL_law_353 (by decide) (fun c_353 => ?_) (fun c_353 => ?_)
  · skip
    refine lv_goto (tgt := 951) hx hb dL_law_368 (by decide) ?_
    refine lv_iinc (v := nI (3 * (jj + 1))) (lv' := [(4, .int (nI (3 * (jj + 1)))), (6, .int r2), (5, .int 1), (0, .ref b), (1, .ref (aG 0)), (2, .ref (aM 0)), (3, .ref oa)]) hx hb dL_law_951 hl (k := 2) rfl (nI_3 jj) (by decide) rfl (fun ls hl => ?_)
    refine lv_goto (tgt := 23) hx hb dL_law_954 (by decide) ?_
    refine W.widen (k := 14 + (jj + 1)) (n := 1295 + 6 * (jj + 1)) (by omega) (by omega) ?_
    exact ih d H _ ls hd ⟨K, g, r, f1, f2, dr, cl, tr, se, inf, ct, of, ro, fa, 1, ou, hI, hP, hD, hS, lv_sub hl [0, 3, 4, 5, 6] rfl⟩
  · skip
    exact absurd c_353 (by decide)
set_option maxHeartbeats 4000000 in
set_option maxRecDepth 100000 in
theorem law_4 {p : Program} {e : Env} {s : State} {m : MethodId} {below : List Frame} {meth : Method} {c : Code} (l : Launch) (hgl : l.stackTraces = false) {b L : Nat} {xs : Nat → Int32} (hL : L ≤ 1536) (C0 : lw_At p s m meth c b L xs) {dC : Nat → ClassId} {dI : Nat → Nat → Nat} {aG : Nat → Nat} {kG : Nat → ClassId} {aM : Nat → Nat} {kM : Nat → ClassId} {oa : Nat} {ok : ClassId} (hK : va_K (dC, dI) vwCl (gcT kG ++ (gmT kM ++ ([(ok, .long)]))) s) (hXA : gcXA (fun q : Nat => s.heap.size ≤ q) s) {jj : Nat} (hj : 3 * jj + 3 ≤ L) {d : Drawn} (hd : s.drawn.sameBut d lw_cs) {K : Bk} {g r : Nat} {f1 f2 dr cl tr se : Nat → Int32} {inf : Int32} {ct : Nat} {of ro fa : Nat → Int32} {th : Int32} {ou : Nat → Int64} (hI : Inv K g r f1 f2 inf dr cl se ct of) {H : Heap} {locs : List Loc} {ls : Array Slot} (hP : va_P (dC, dI) vwCl (gcW aG kG f1 f2 dr cl tr se (nI g) (nI r) inf (nI ct) ++ (gmW aM kM f1 f2 of ro fa th (nI g) (nI r) (-1) (-1) ++ ([(oa, .inl (ok, 1, .inr (.inl ou)))]))) H) (hD : va_D (fun q : Nat => s.heap.size ≤ q) (gcW aG kG f1 f2 dr cl tr se (nI g) (nI r) inf (nI ct) ++ (gmW aM kM f1 f2 of ro fa th (nI g) (nI r) (-1) (-1) ++ ([(oa, .inl (ok, 1, .inr (.inl ou)))])))) (hS : va_S (fun q : Nat => s.heap.size ≤ q) s.heap H locs) (hl : lv_has ls 9 [(4, .int (nI (3 * jj))), (0, .ref b), (1, .ref (aG 0)), (2, .ref (aM 0)), (3, .ref oa)]) (ih : ∀ (d1 : Drawn) (H1 : Heap) (locs1 : List Loc) (ls1 : Array Slot), s.drawn.sameBut d1 lw_cs → LSt dC dI s b aG kG aM kM oa ok (jj + 1) H1 locs1 ls1 → W p l e room_1 (s.setDrawn d1) m #[Value.ref b] below meth c H1 locs1 (14 + (jj + 1)) (1295 + 6 * (jj + 1)) (lw_Z below #[Value.ref b] s) (F0 m 23 ls1 [])) {wa wb : Nat} (ha : wa < 2 * g) (hb2 : wb < 2 * g) (h1 : xs (3 * jj + 1) = nI wa) (h2 : xs (3 * jj + 2) = nI wb) : W p l e room_1 (s.setDrawn d) m #[Value.ref b] below meth c H locs (14 + jj) (1295 + 6 * jj) (lw_Z below #[Value.ref b] s) (F0 m 371 ls []) := by
  obtain ⟨hx, hb, hr, hml, hown, hts0, hX, hbl, hlocks, hgv⟩ := C0
  have hown : s.vm.findClass RL = some m.cls := hown
  have hts1 : ∀ w ∈ wsL_law, w.before #[Value.ref b] s = true := fun w h => hts0 w (wsL_law_in w h)
  have hts := dr_words hts1 d
  have hA : ∀ q : Nat, s.heap.size ≤ q → (fun q : Nat => s.heap.size ≤ q) q := fun _ h => h
  have hbA : ¬ (fun q : Nat => s.heap.size ≤ q) b := Nat.not_le.mpr hbl
  obtain ⟨hg10, hr30, hOK, hz, hBk, hof, hDr, hCl, s0, hse, hct⟩ := id hI
  have hKd : va_K (dC, dI) vwCl (gcT kG ++ (gmT kM ++ ([(ok, .long)]))) (s.setDrawn d) := hK
  have hXd : va_X b L xs (s.setDrawn d) s.heap := hX
  have hKg := gOK_Kg hOK
  have hKr : K.1 ≤ 30 := by rw [hOK.1]; exact hr30
  have hLF : LF K g se ct := by rw [hse, hct]; exact LF_of hg10 hKg hCl s0
  have hc1024 : ct ≤ 1024 := hLF.2
  have hft : gFt cl g = decide (0 < ct) := by rw [hct]; exact ft_pos hg10 hKg hCl s0
  refine lv_aload_n hx hb dL_law_371 rfl (lv_at hl 2 rfl) ?_
  refine lv_aload_n hx hb dL_law_372 rfl (lv_at hl 1 rfl) ?_
  refine lv_iload hx hb dL_law_373 (lv_at hl 0 rfl) ?_
  refine lv_iconst (v := 1) hx hb dL_law_375 (by decide) ?_
  refine lv_iadd hx hb dL_law_376 ?_
  refine gc_topi (y := nI (3 * jj + 1)) (nI_add (3 * jj) 1) ?_
  refine va_sld hx hb hXd hbl hbA hS (vp_in_nI (n := (3 * jj + 1)) (by omega) (by omega)) dL_law_377 ?_
  rw [nI_clamp (n := (3 * jj + 1)) (by omega)]
  refine gc_topi (y := nI wa) (h1) ?_
  refine lv_aload_n hx hb dL_law_378 rfl (lv_at hl 1 rfl) ?_
  refine lv_iload hx hb dL_law_379 (lv_at hl 0 rfl) ?_
  refine lv_iconst (v := 2) hx hb dL_law_381 (by decide) ?_
  refine lv_iadd hx hb dL_law_382 ?_
  refine gc_topi (y := nI (3 * jj + 2)) (nI_add (3 * jj) 2) ?_
  refine va_sld hx hb hXd hbl hbA hS (vp_in_nI (n := (3 * jj + 2)) (by omega) (by omega)) dL_law_383 ?_
  rw [nI_clamp (n := (3 * jj + 2)) (by omega)]
  refine gc_topi (y := nI wb) (h2) ?_
  refine lv_aload_n hx hb dL_law_384 rfl (lv_at hl 4 rfl) ?_
  have hPc : va_P (dC, dI) vwCl (gcW aG kG f1 f2 dr cl tr se (nI g) (nI r) inf (nI ct) ++ ([(oa, .inl (ok, 1, .inr (.inl ou)))])) _ := hP.sub [0, 1, 2, 3, 4, 5, 6, 13] rfl
  have hKc : va_K (dC, dI) vwCl (gcT kG ++ ([(ok, .long)])) s := hK.sub [0, 1, 2, 3, 4, 5, 11] rfl
  have hDc : va_D (fun q : Nat => s.heap.size ≤ q) (gcW aG kG f1 f2 dr cl tr se (nI g) (nI r) inf (nI ct) ++ ([(oa, .inl (ok, 1, .inr (.inl ou)))])) := hD.sub [0, 1, 2, 3, 4, 5, 6, 13] (by decide) rfl
  have hFc := va_free (wc := (gcW aG kG f1 f2 dr cl tr se (nI g) (nI r) inf (nI ct) ++ ([(oa, .inl (ok, 1, .inr (.inl ou)))]))) hD hS hA [0, 1, 2, 3, 4, 5, 6, 13] rfl
  refine va_calli (vx_runSW (As := [.ref (aG 0), .int (nI wa), .int (nI wb), .ref oa]) (rest := []) ⟨hx, hb, hml, hown, hts⟩ (w_follows l dC dI aG kG f1 f2 dr cl tr se g r inf ct oa ok ou wa wb H.size (by first | assumption | omega) (by first | assumption | omega) (by first | assumption | omega)) (vx_cwSW 4 hts gL_law_L_follows rfl rfl rfl (by decide +kernel) ⟨Nat.le_of_ble_eq_true rfl, Nat.le_of_ble_eq_true rfl⟩) ⟨gcPM_blind, fun U hU hW => ⟨rfl, by rw [hU], by rw [hU]; exact hPc, va_K.moved hW.alike hKc, hDc.weaken (fun _ _ _ _ => trivial)⟩⟩ rfl rfl hl.1 rfl (lv_room (Nat.le_of_ble_eq_true rfl)) dL_law_385 ⟨show 14 + jj + 0 ≤ 1046 by omega, show 1295 + 6 * jj + 0 ≤ 9535 by omega⟩) hS (fun q _ h => hFc q h) hFc (fun r1 u t H locs ht hvm hw hB hz1 hk1 hS => ?_)
  obtain ⟨hP1, hD1⟩ := hB
  rw [ht] at hP1
  obtain ⟨hP, hD⟩ := va_join (wr := [(aM 0, .inr (1, [.int th, .int (nI g), .int (nI r), .ref (aM 1), .ref (aM 2), .ref (aM 3), .int (-1), .int (-1), .ref (aM 4), .ref (aM 5)])), (aM 1, .inl (kM 1, 30, .inl f1)), (aM 2, .inl (kM 2, 30, .inl f2)), (aM 3, .inl (kM 3, 30, .inl of)), (aM 4, .inl (kM 4, 20, .inl ro)), (aM 5, .inl (kM 5, 20, .inl fa))]) (w1 := (gcW aG kG f1 f2 dr cl tr se (nI g) (nI r) inf (nI ct) ++ ([(oa, .inl (ok, 1, .inr (.inl (vp_updL ou 0 (gL (gHas (gAt 20 cl (nI wa)) (nI wb)))))))]))) hP hD [0, 1, 2, 3, 4, 5, 6, 13] [7, 8, 9, 10, 11, 12] rfl rfl (by decide) (by decide) hk1 hFc hP1 hD1
  have hP : va_P (dC, dI) vwCl (gcW aG kG f1 f2 dr cl tr se (nI g) (nI r) inf (nI ct) ++ (gmW aM kM f1 f2 of ro fa th (nI g) (nI r) (-1) (-1) ++ ([(oa, .inl (ok, 1, .inr (.inl (vp_updL ou 0 (gL (gHas (gAt 20 cl (nI wa)) (nI wb)))))))]))) H := hP.sub [6, 7, 8, 9, 10, 11, 12, 0, 1, 2, 3, 4, 5, 13] rfl
  have hD : va_D (fun q : Nat => s.heap.size ≤ q) (gcW aG kG f1 f2 dr cl tr se (nI g) (nI r) inf (nI ct) ++ (gmW aM kM f1 f2 of ro fa th (nI g) (nI r) (-1) (-1) ++ ([(oa, .inl (ok, 1, .inr (.inl (vp_updL ou 0 (gL (gHas (gAt 20 cl (nI wa)) (nI wb)))))))]))) := hD.sub [6, 7, 8, 9, 10, 11, 12, 0, 1, 2, 3, 4, 5, 13] (by decide) rfl
  have hw : r1 = 0 := hw
  subst hw
  clear hw
  clear hz1 hk1 ht hvm hP1 hD1 hFc hDc
  clear hPc hKc
  refine lv_istore (lv' := [(5, .int 0), (4, .int (nI (3 * jj))), (0, .ref b), (1, .ref (aG 0)), (2, .ref (aM 0)), (3, .ref oa)]) hx hb dL_law_388 hl (by decide) rfl (fun ls hl => ?_)
  refine lv_aload_n hx hb dL_law_390 rfl (lv_at hl 4 rfl) ?_
  refine lv_aload_n hx hb dL_law_391 rfl (lv_at hl 2 rfl) ?_
  refine lv_iload hx hb dL_law_392 (lv_at hl 1 rfl) ?_
  refine lv_iconst (v := 1) hx hb dL_law_394 (by decide) ?_
  refine lv_iadd hx hb dL_law_395 ?_
  refine gc_topi (y := nI (3 * jj + 1)) (nI_add (3 * jj) 1) ?_
  refine va_sld hx hb hXd hbl hbA hS (vp_in_nI (n := (3 * jj + 1)) (by omega) (by omega)) dL_law_396 ?_
  rw [nI_clamp (n := (3 * jj + 1)) (by omega)]
  refine gc_topi (y := nI wa) (h1) ?_
  refine lv_aload_n hx hb dL_law_397 rfl (lv_at hl 2 rfl) ?_
  refine lv_iload hx hb dL_law_398 (lv_at hl 1 rfl) ?_
  refine lv_iconst (v := 2) hx hb dL_law_400 (by decide) ?_
  refine lv_iadd hx hb dL_law_401 ?_
  refine gc_topi (y := nI (3 * jj + 2)) (nI_add (3 * jj) 2) ?_
  refine va_sld hx hb hXd hbl hbA hS (vp_in_nI (n := (3 * jj + 2)) (by omega) (by omega)) dL_law_402 ?_
  rw [nI_clamp (n := (3 * jj + 2)) (by omega)]
  refine gc_topi (y := nI wb) (h2) ?_
  have hPc : va_P (dC, dI) vwCl (gmW aM kM f1 f2 of ro fa th (nI g) (nI r) (-1) (-1)) _ := hP.sub [7, 8, 9, 10, 11, 12] rfl
  have hKc : va_K (dC, dI) vwCl (gmT kM) s := hK.sub [6, 7, 8, 9, 10] rfl
  have hDc : va_D (fun q : Nat => s.heap.size ≤ q) (gmW aM kM f1 f2 of ro fa th (nI g) (nI r) (-1) (-1)) := hD.sub [7, 8, 9, 10, 11, 12] (by decide) rfl
  have hFc := va_free (wc := (gmW aM kM f1 f2 of ro fa th (nI g) (nI r) (-1) (-1))) hD hS hA [7, 8, 9, 10, 11, 12] rfl
  refine va_calli (va_runV (As := [.int (nI wa), .int (nI wb)]) (rest := []) ⟨hx, hb, hml, hown, hts⟩ (c_X1_follows l dC dI aM kM f1 f2 of ro fa th g r (-1) (-1) K wa wb H.size (by first | assumption | omega) (by first | assumption | omega) (by first | assumption | omega) (by first | assumption | omega) (by first | assumption | omega)) (cwV 2 hts gL_law_X1_follows rfl rfl rfl (by decide +kernel) ⟨Nat.le_of_ble_eq_true rfl, Nat.le_of_ble_eq_true rfl⟩) ⟨gcPM_blind, va_recv hK hP (ci := 1) (q0 := 7) rfl rfl, fun U hU hW => ⟨rfl, by rw [hU], by rw [hU]; exact hPc, va_K.moved hW.alike hKc, hDc.weaken (fun _ _ _ _ => trivial)⟩⟩ rfl rfl hl.1 rfl (lv_room (Nat.le_of_ble_eq_true rfl)) dL_law_403 ⟨show 14 + jj + 0 + 0 ≤ 1046 by omega, show 1295 + 6 * jj + 0 + 0 ≤ 9535 by omega⟩) hS (fun q _ h => hFc q h) hFc (fun r2 u t H locs ht hvm hw hB hz1 hk1 hS => ?_)
  obtain ⟨ro23, fa24⟩ := u
  obtain ⟨hP1, hD1⟩ := hB
  rw [ht] at hP1
  obtain ⟨hP, hD⟩ := va_join (wr := [(aG 0, .inr (0, [.ref (aG 1), .ref (aG 2), .ref (aG 3), .ref (aG 4), .ref (aG 5), .ref (aG 6), .int (nI g), .int (nI r), .int inf, .int (nI ct)])), (aG 1, .inl (kG 1, 30, .inl f1)), (aG 2, .inl (kG 2, 30, .inl f2)), (aG 3, .inl (kG 3, 20, .inl dr)), (aG 4, .inl (kG 4, 20, .inl cl)), (aG 5, .inl (kG 5, 20, .inl tr)), (aG 6, .inl (kG 6, 1024, .inl se)), (oa, .inl (ok, 1, .inr (.inl (vp_updL ou 0 (gL (gHas (gAt 20 cl (nI wa)) (nI wb)))))))]) (w1 := (gmW aM kM f1 f2 of ro23 fa24 0 (nI g) (nI r) (-1) (-1))) hP hD [7, 8, 9, 10, 11, 12] [0, 1, 2, 3, 4, 5, 6, 13] rfl rfl (by decide) (by decide) hk1 hFc hP1 hD1
  have hP : va_P (dC, dI) vwCl (gcW aG kG f1 f2 dr cl tr se (nI g) (nI r) inf (nI ct) ++ (gmW aM kM f1 f2 of ro23 fa24 0 (nI g) (nI r) (-1) (-1) ++ ([(oa, .inl (ok, 1, .inr (.inl (vp_updL ou 0 (gL (gHas (gAt 20 cl (nI wa)) (nI wb)))))))]))) H := hP.sub [0, 1, 2, 3, 4, 5, 6, 8, 9, 10, 11, 12, 13, 7] rfl
  have hD : va_D (fun q : Nat => s.heap.size ≤ q) (gcW aG kG f1 f2 dr cl tr se (nI g) (nI r) inf (nI ct) ++ (gmW aM kM f1 f2 of ro23 fa24 0 (nI g) (nI r) (-1) (-1) ++ ([(oa, .inl (ok, 1, .inr (.inl (vp_updL ou 0 (gL (gHas (gAt 20 cl (nI wa)) (nI wb)))))))]))) := hD.sub [0, 1, 2, 3, 4, 5, 6, 8, 9, 10, 11, 12, 13, 7] (by decide) rfl
  have hw : r2 = gB (fo K wa wb) := hw
  subst hw
  clear hw
  clear hz1 hk1 ht hvm hP1 hD1 hFc hDc
  clear hPc hKc
  refine lv_istore (lv' := [(6, .int (gB (fo K wa wb))), (5, .int 0), (4, .int (nI (3 * jj))), (0, .ref b), (1, .ref (aG 0)), (2, .ref (aM 0)), (3, .ref oa)]) hx hb dL_law_406 hl (by decide) rfl (fun ls hl => ?_)
  refine lv_aload_n hx hb dL_law_408 rfl (lv_at hl 5 rfl) ?_
  have hPc : va_P (dC, dI) vwCl (gmW aM kM f1 f2 of ro23 fa24 0 (nI g) (nI r) (-1) (-1)) _ := hP.sub [7, 8, 9, 10, 11, 12] rfl
  have hKc : va_K (dC, dI) vwCl (gmT kM) s := hK.sub [6, 7, 8, 9, 10] rfl
  refine va_calli (va_runV (As := []) (rest := []) ⟨hx, hb, hml, hown, hts⟩ (c_X1_thrown l dC dI aM kM f1 f2 of ro23 fa24 0 g r (-1) (-1)) (cwV 0 hts gL_law_X1_thrown rfl rfl rfl (by decide +kernel) ⟨Nat.le_of_ble_eq_true rfl, Nat.le_of_ble_eq_true rfl⟩) ⟨gcPR_blind, va_recv hK hP (ci := 1) (q0 := 7) rfl rfl, fun U hU hW => ⟨rfl, by rw [hU]; exact hPc, va_K.moved hW.alike hKc⟩⟩ rfl rfl hl.1 rfl (lv_room (Nat.le_of_ble_eq_true rfl)) dL_law_409 ⟨show 14 + jj + 0 + 0 + 0 ≤ 1046 by omega, show 1295 + 6 * jj + 0 + 0 + 0 ≤ 9535 by omega⟩) hS (fun q _ h => h.elim) (fun q h => h.elim) (fun r5 u t H locs ht hvm hw hB hz1 hk1 hS => ?_)
  have hP := gc_keep hP hk1
  have hw : r5 = 0 := hw
  subst hw
  clear hw
  clear hB hz1 hk1 ht hvm
  clear hPc hKc
  refine lv_iload hx hb dL_law_412 (lv_at hl 1 rfl) ?_
  refine lv_icmp_eq (tgt := 419) hx hb dL_law_414 (by decide) (fun c_414 => ?_) (fun c_414 => absurd rfl c_414)
  refine lv_iload hx hb dL_law_419 (lv_at hl 1 rfl) ?_
  refine lv_if_ne (tgt := 443) hx hb dL_law_421 (by decide) (fun c_421 => ?_) (fun c_421 => ?_)
  · skip
    exact absurd (by decide) c_421
  · skip
    refine lv_aload_n hx hb dL_law_424 rfl (lv_at hl 6 rfl) ?_
    refine lv_iconst (v := 0) hx hb dL_law_425 (by decide) ?_
    refine va_lald hx hb hKd hP 13 11 rfl rfl gc_in01 dL_law_426 ?_
    refine gc_topl (y := (gL (gHas (gAt 20 cl (nI wa)) (nI wb)))) (by rw [sb_cl0]; exact pk_uLs) ?_
    refine gc_topl (y := (gL (fo K wa wb))) (by rw [cl_has hCl (by omega) (by omega)]) ?_
    refine lv_iload hx hb dL_law_427 (lv_at hl 0 rfl) ?_
    refine lv_if_eq (tgt := 436) hx hb dL_law_429 (by decide) (fun c_429 => ?_) (fun c_429 => ?_)
    · skip
      have c_429 := gB_f c_429
      refine lv_lconst (v := 0) hx hb dL_law_436 (by decide) ?_
      refine W.lcmp hx hb dL_law_437 ?_
      refine gc_topi (y := 0) ((lg_cmp_eq _ _).mpr (by rw [c_429]; rfl)) ?_
      refine lv_if_eq (tgt := 443) hx hb dL_law_438 (by decide) (fun c_438 => ?_) (fun c_438 => ?_)
      · skip
        refine lv_goto (tgt := 951) hx hb dL_law_443 (by decide) ?_
        refine lv_iinc (v := nI (3 * (jj + 1))) (lv' := [(4, .int (nI (3 * (jj + 1)))), (6, .int (gB (fo K wa wb))), (5, .int 0), (0, .ref b), (1, .ref (aG 0)), (2, .ref (aM 0)), (3, .ref oa)]) hx hb dL_law_951 hl (k := 2) rfl (nI_3 jj) (by decide) rfl (fun ls hl => ?_)
        refine lv_goto (tgt := 23) hx hb dL_law_954 (by decide) ?_
        refine W.widen (k := 14 + (jj + 1)) (n := 1295 + 6 * (jj + 1)) (by omega) (by omega) ?_
        exact ih d H _ ls hd ⟨K, g, r, f1, f2, dr, cl, tr, se, inf, ct, of, ro23, fa24, 0, (vp_updL ou 0 (gL (gHas (gAt 20 cl (nI wa)) (nI wb)))), hI, hP, hD, hS, lv_sub hl [0, 3, 4, 5, 6] rfl⟩
      · skip
        exact absurd (by decide) c_438
    · skip
      have c_429 := gB_t c_429
      refine lv_lconst (v := 1) hx hb dL_law_432 (by decide) ?_
      refine lv_goto (tgt := 437) hx hb dL_law_433 (by decide) ?_
      refine W.lcmp hx hb dL_law_437 ?_
      refine gc_topi (y := 0) ((lg_cmp_eq _ _).mpr (by rw [c_429]; rfl)) ?_
      refine lv_if_eq (tgt := 443) hx hb dL_law_438 (by decide) (fun c_438 => ?_) (fun c_438 => ?_)
      · skip
        refine lv_goto (tgt := 951) hx hb dL_law_443 (by decide) ?_
        refine lv_iinc (v := nI (3 * (jj + 1))) (lv' := [(4, .int (nI (3 * (jj + 1)))), (6, .int (gB (fo K wa wb))), (5, .int 0), (0, .ref b), (1, .ref (aG 0)), (2, .ref (aM 0)), (3, .ref oa)]) hx hb dL_law_951 hl (k := 2) rfl (nI_3 jj) (by decide) rfl (fun ls hl => ?_)
        refine lv_goto (tgt := 23) hx hb dL_law_954 (by decide) ?_
        refine W.widen (k := 14 + (jj + 1)) (n := 1295 + 6 * (jj + 1)) (by omega) (by omega) ?_
        exact ih d H _ ls hd ⟨K, g, r, f1, f2, dr, cl, tr, se, inf, ct, of, ro23, fa24, 0, (vp_updL ou 0 (gL (gHas (gAt 20 cl (nI wa)) (nI wb)))), hI, hP, hD, hS, lv_sub hl [0, 3, 4, 5, 6] rfl⟩
      · skip
        exact absurd (by decide) c_438
set_option maxHeartbeats 4000000 in
set_option maxRecDepth 100000 in
theorem law_4x {p : Program} {e : Env} {s : State} {m : MethodId} {below : List Frame} {meth : Method} {c : Code} (l : Launch) (hgl : l.stackTraces = false) {b L : Nat} {xs : Nat → Int32} (hL : L ≤ 1536) (C0 : lw_At p s m meth c b L xs) {dC : Nat → ClassId} {dI : Nat → Nat → Nat} {aG : Nat → Nat} {kG : Nat → ClassId} {aM : Nat → Nat} {kM : Nat → ClassId} {oa : Nat} {ok : ClassId} (hK : va_K (dC, dI) vwCl (gcT kG ++ (gmT kM ++ ([(ok, .long)]))) s) (hXA : gcXA (fun q : Nat => s.heap.size ≤ q) s) {jj : Nat} (hj : 3 * jj + 3 ≤ L) {d : Drawn} (hd : s.drawn.sameBut d lw_cs) {K : Bk} {g r : Nat} {f1 f2 dr cl tr se : Nat → Int32} {inf : Int32} {ct : Nat} {of ro fa : Nat → Int32} {th : Int32} {ou : Nat → Int64} (hI : Inv K g r f1 f2 inf dr cl se ct of) {H : Heap} {locs : List Loc} {ls : Array Slot} (hP : va_P (dC, dI) vwCl (gcW aG kG f1 f2 dr cl tr se (nI g) (nI r) inf (nI ct) ++ (gmW aM kM f1 f2 of ro fa th (nI g) (nI r) (-1) (-1) ++ ([(oa, .inl (ok, 1, .inr (.inl ou)))]))) H) (hD : va_D (fun q : Nat => s.heap.size ≤ q) (gcW aG kG f1 f2 dr cl tr se (nI g) (nI r) inf (nI ct) ++ (gmW aM kM f1 f2 of ro fa th (nI g) (nI r) (-1) (-1) ++ ([(oa, .inl (ok, 1, .inr (.inl ou)))])))) (hS : va_S (fun q : Nat => s.heap.size ≤ q) s.heap H locs) (hl : lv_has ls 9 [(4, .int (nI (3 * jj))), (0, .ref b), (1, .ref (aG 0)), (2, .ref (aM 0)), (3, .ref oa)]) (ih : ∀ (d1 : Drawn) (H1 : Heap) (locs1 : List Loc) (ls1 : Array Slot), s.drawn.sameBut d1 lw_cs → LSt dC dI s b aG kG aM kM oa ok (jj + 1) H1 locs1 ls1 → W p l e room_1 (s.setDrawn d1) m #[Value.ref b] below meth c H1 locs1 (14 + (jj + 1)) (1295 + 6 * (jj + 1)) (lw_Z below #[Value.ref b] s) (F0 m 23 ls1 [])) (hno : (∀ q : Nat, q < 2 * g → xs (3 * jj + 1) ≠ nI q) ∨ ∀ q : Nat, q < 2 * g → xs (3 * jj + 2) ≠ nI q) : W p l e room_1 (s.setDrawn d) m #[Value.ref b] below meth c H locs (14 + jj) (1295 + 6 * jj) (lw_Z below #[Value.ref b] s) (F0 m 371 ls []) := by
  obtain ⟨hx, hb, hr, hml, hown, hts0, hX, hbl, hlocks, hgv⟩ := C0
  have hown : s.vm.findClass RL = some m.cls := hown
  have hts1 : ∀ w ∈ wsL_law, w.before #[Value.ref b] s = true := fun w h => hts0 w (wsL_law_in w h)
  have hts := dr_words hts1 d
  have hA : ∀ q : Nat, s.heap.size ≤ q → (fun q : Nat => s.heap.size ≤ q) q := fun _ h => h
  have hbA : ¬ (fun q : Nat => s.heap.size ≤ q) b := Nat.not_le.mpr hbl
  obtain ⟨hg10, hr30, hOK, hz, hBk, hof, hDr, hCl, s0, hse, hct⟩ := id hI
  have hKd : va_K (dC, dI) vwCl (gcT kG ++ (gmT kM ++ ([(ok, .long)]))) (s.setDrawn d) := hK
  have hXd : va_X b L xs (s.setDrawn d) s.heap := hX
  have hKg := gOK_Kg hOK
  have hKr : K.1 ≤ 30 := by rw [hOK.1]; exact hr30
  have hLF : LF K g se ct := by rw [hse, hct]; exact LF_of hg10 hKg hCl s0
  have hc1024 : ct ≤ 1024 := hLF.2
  have hft : gFt cl g = decide (0 < ct) := by rw [hct]; exact ft_pos hg10 hKg hCl s0
  refine lv_aload_n hx hb dL_law_371 rfl (lv_at hl 2 rfl) ?_
  refine lv_aload_n hx hb dL_law_372 rfl (lv_at hl 1 rfl) ?_
  refine lv_iload hx hb dL_law_373 (lv_at hl 0 rfl) ?_
  refine lv_iconst (v := 1) hx hb dL_law_375 (by decide) ?_
  refine lv_iadd hx hb dL_law_376 ?_
  refine gc_topi (y := nI (3 * jj + 1)) (nI_add (3 * jj) 1) ?_
  refine va_sld hx hb hXd hbl hbA hS (vp_in_nI (n := (3 * jj + 1)) (by omega) (by omega)) dL_law_377 ?_
  rw [nI_clamp (n := (3 * jj + 1)) (by omega)]
  refine lv_aload_n hx hb dL_law_378 rfl (lv_at hl 1 rfl) ?_
  refine lv_iload hx hb dL_law_379 (lv_at hl 0 rfl) ?_
  refine lv_iconst (v := 2) hx hb dL_law_381 (by decide) ?_
  refine lv_iadd hx hb dL_law_382 ?_
  refine gc_topi (y := nI (3 * jj + 2)) (nI_add (3 * jj) 2) ?_
  refine va_sld hx hb hXd hbl hbA hS (vp_in_nI (n := (3 * jj + 2)) (by omega) (by omega)) dL_law_383 ?_
  rw [nI_clamp (n := (3 * jj + 2)) (by omega)]
  refine lv_aload_n hx hb dL_law_384 rfl (lv_at hl 4 rfl) ?_
  have hPc : va_P (dC, dI) vwCl (gcW aG kG f1 f2 dr cl tr se (nI g) (nI r) inf (nI ct) ++ ([(oa, .inl (ok, 1, .inr (.inl ou)))])) _ := hP.sub [0, 1, 2, 3, 4, 5, 6, 13] rfl
  have hKc : va_K (dC, dI) vwCl (gcT kG ++ ([(ok, .long)])) s := hK.sub [0, 1, 2, 3, 4, 5, 11] rfl
  have hDc : va_D (fun q : Nat => s.heap.size ≤ q) (gcW aG kG f1 f2 dr cl tr se (nI g) (nI r) inf (nI ct) ++ ([(oa, .inl (ok, 1, .inr (.inl ou)))])) := hD.sub [0, 1, 2, 3, 4, 5, 6, 13] (by decide) rfl
  have hFc := va_free (wc := (gcW aG kG f1 f2 dr cl tr se (nI g) (nI r) inf (nI ct) ++ ([(oa, .inl (ok, 1, .inr (.inl ou)))]))) hD hS hA [0, 1, 2, 3, 4, 5, 6, 13] rfl
  refine va_calli (vx_runSW (As := [.ref (aG 0), .int (xs (3 * jj + 1)), .int (xs (3 * jj + 2)), .ref oa]) (rest := []) ⟨hx, hb, hml, hown, hts⟩ (wx_follows l hgl dC dI aG kG f1 f2 dr cl tr se g r inf ct oa ok ou (xs (3 * jj + 1)) (xs (3 * jj + 2)) H.size (by first | assumption | omega) (by first | exact hno | exact Or.inl hno | exact Or.inr hno)) (vx_cwSW 4 hts gL_law_L_follows rfl rfl rfl (by decide +kernel) ⟨Nat.le_of_ble_eq_true rfl, Nat.le_of_ble_eq_true rfl⟩) ⟨gcPN_blind, fun U hU hW => ⟨rfl, by rw [hU], by rw [hU]; exact hPc, va_K.moved hW.alike hKc, hDc.weaken (fun _ _ _ _ => trivial), gcXA_go hXA hS hU hW⟩⟩ rfl rfl hl.1 rfl (lv_room (Nat.le_of_ble_eq_true rfl)) dL_law_385 ⟨show 14 + jj + 1 ≤ 1046 by omega, show 1295 + 6 * jj + 6 ≤ 9535 by omega⟩) hS (fun q _ h => hFc q h) hFc (fun r1 u t H locs ht hvm hw hB hz1 hk1 hS => ?_)
  obtain ⟨hP1, hD1⟩ := hB
  rw [ht] at hP1
  obtain ⟨hP, hD⟩ := va_join (wr := [(aM 0, .inr (1, [.int th, .int (nI g), .int (nI r), .ref (aM 1), .ref (aM 2), .ref (aM 3), .int (-1), .int (-1), .ref (aM 4), .ref (aM 5)])), (aM 1, .inl (kM 1, 30, .inl f1)), (aM 2, .inl (kM 2, 30, .inl f2)), (aM 3, .inl (kM 3, 30, .inl of)), (aM 4, .inl (kM 4, 20, .inl ro)), (aM 5, .inl (kM 5, 20, .inl fa))]) (w1 := (gcW aG kG f1 f2 dr cl tr se (nI g) (nI r) inf (nI ct) ++ ([(oa, .inl (ok, 1, .inr (.inl ou)))]))) hP hD [0, 1, 2, 3, 4, 5, 6, 13] [7, 8, 9, 10, 11, 12] rfl rfl (by decide) (by decide) hk1 hFc hP1 hD1
  have hP : va_P (dC, dI) vwCl (gcW aG kG f1 f2 dr cl tr se (nI g) (nI r) inf (nI ct) ++ (gmW aM kM f1 f2 of ro fa th (nI g) (nI r) (-1) (-1) ++ ([(oa, .inl (ok, 1, .inr (.inl ou)))]))) H := hP.sub [6, 7, 8, 9, 10, 11, 12, 0, 1, 2, 3, 4, 5, 13] rfl
  have hD : va_D (fun q : Nat => s.heap.size ≤ q) (gcW aG kG f1 f2 dr cl tr se (nI g) (nI r) inf (nI ct) ++ (gmW aM kM f1 f2 of ro fa th (nI g) (nI r) (-1) (-1) ++ ([(oa, .inl (ok, 1, .inr (.inl ou)))]))) := hD.sub [6, 7, 8, 9, 10, 11, 12, 0, 1, 2, 3, 4, 5, 13] (by decide) rfl
  have hw : r1 = 1 := hw
  subst hw
  clear hw
  clear hz1 hk1 ht hvm hP1 hD1 hFc hDc
  clear hPc hKc
  refine lv_istore (lv' := [(5, .int 1), (4, .int (nI (3 * jj))), (0, .ref b), (1, .ref (aG 0)), (2, .ref (aM 0)), (3, .ref oa)]) hx hb dL_law_388 hl (by decide) rfl (fun ls hl => ?_)
  refine lv_aload_n hx hb dL_law_390 rfl (lv_at hl 4 rfl) ?_
  refine lv_aload_n hx hb dL_law_391 rfl (lv_at hl 2 rfl) ?_
  refine lv_iload hx hb dL_law_392 (lv_at hl 1 rfl) ?_
  refine lv_iconst (v := 1) hx hb dL_law_394 (by decide) ?_
  refine lv_iadd hx hb dL_law_395 ?_
  refine gc_topi (y := nI (3 * jj + 1)) (nI_add (3 * jj) 1) ?_
  refine va_sld hx hb hXd hbl hbA hS (vp_in_nI (n := (3 * jj + 1)) (by omega) (by omega)) dL_law_396 ?_
  rw [nI_clamp (n := (3 * jj + 1)) (by omega)]
  refine lv_aload_n hx hb dL_law_397 rfl (lv_at hl 2 rfl) ?_
  refine lv_iload hx hb dL_law_398 (lv_at hl 1 rfl) ?_
  refine lv_iconst (v := 2) hx hb dL_law_400 (by decide) ?_
  refine lv_iadd hx hb dL_law_401 ?_
  refine gc_topi (y := nI (3 * jj + 2)) (nI_add (3 * jj) 2) ?_
  refine va_sld hx hb hXd hbl hbA hS (vp_in_nI (n := (3 * jj + 2)) (by omega) (by omega)) dL_law_402 ?_
  rw [nI_clamp (n := (3 * jj + 2)) (by omega)]
  have hPc : va_P (dC, dI) vwCl (gmW aM kM f1 f2 of ro fa th (nI g) (nI r) (-1) (-1)) _ := hP.sub [7, 8, 9, 10, 11, 12] rfl
  have hKc : va_K (dC, dI) vwCl (gmT kM) s := hK.sub [6, 7, 8, 9, 10] rfl
  have hDc : va_D (fun q : Nat => s.heap.size ≤ q) (gmW aM kM f1 f2 of ro fa th (nI g) (nI r) (-1) (-1)) := hD.sub [7, 8, 9, 10, 11, 12] (by decide) rfl
  have hFc := va_free (wc := (gmW aM kM f1 f2 of ro fa th (nI g) (nI r) (-1) (-1))) hD hS hA [7, 8, 9, 10, 11, 12] rfl
  refine va_calli (va_runV (As := [.int (xs (3 * jj + 1)), .int (xs (3 * jj + 2))]) (rest := []) ⟨hx, hb, hml, hown, hts⟩ (c_X1_follows_no l dC dI aM kM f1 f2 of ro fa th g r (-1) (-1) (xs (3 * jj + 1)) (xs (3 * jj + 2)) H.size (by first | assumption | omega) (by first | exact hno | exact Or.inl hno | exact Or.inr hno)) (cwV 2 hts gL_law_X1_follows rfl rfl rfl (by decide +kernel) ⟨Nat.le_of_ble_eq_true rfl, Nat.le_of_ble_eq_true rfl⟩) ⟨gcPM_blind, va_recv hK hP (ci := 1) (q0 := 7) rfl rfl, fun U hU hW => ⟨rfl, by rw [hU], by rw [hU]; exact hPc, va_K.moved hW.alike hKc, hDc.weaken (fun _ _ _ _ => trivial)⟩⟩ rfl rfl hl.1 rfl (lv_room (Nat.le_of_ble_eq_true rfl)) dL_law_403 ⟨show 14 + jj + 1 + 0 ≤ 1046 by omega, show 1295 + 6 * jj + 6 + 0 ≤ 9535 by omega⟩) hS (fun q _ h => hFc q h) hFc (fun r2 u t H locs ht hvm hw hB hz1 hk1 hS => ?_)
  obtain ⟨hP1, hD1⟩ := hB
  rw [ht] at hP1
  obtain ⟨hP, hD⟩ := va_join (wr := [(aG 0, .inr (0, [.ref (aG 1), .ref (aG 2), .ref (aG 3), .ref (aG 4), .ref (aG 5), .ref (aG 6), .int (nI g), .int (nI r), .int inf, .int (nI ct)])), (aG 1, .inl (kG 1, 30, .inl f1)), (aG 2, .inl (kG 2, 30, .inl f2)), (aG 3, .inl (kG 3, 20, .inl dr)), (aG 4, .inl (kG 4, 20, .inl cl)), (aG 5, .inl (kG 5, 20, .inl tr)), (aG 6, .inl (kG 6, 1024, .inl se)), (oa, .inl (ok, 1, .inr (.inl ou)))]) (w1 := (gmW aM kM f1 f2 of ro fa 1 (nI g) (nI r) (-1) (-1))) hP hD [7, 8, 9, 10, 11, 12] [0, 1, 2, 3, 4, 5, 6, 13] rfl rfl (by decide) (by decide) hk1 hFc hP1 hD1
  have hP : va_P (dC, dI) vwCl (gcW aG kG f1 f2 dr cl tr se (nI g) (nI r) inf (nI ct) ++ (gmW aM kM f1 f2 of ro fa 1 (nI g) (nI r) (-1) (-1) ++ ([(oa, .inl (ok, 1, .inr (.inl ou)))]))) H := hP.sub [0, 1, 2, 3, 4, 5, 6, 8, 9, 10, 11, 12, 13, 7] rfl
  have hD : va_D (fun q : Nat => s.heap.size ≤ q) (gcW aG kG f1 f2 dr cl tr se (nI g) (nI r) inf (nI ct) ++ (gmW aM kM f1 f2 of ro fa 1 (nI g) (nI r) (-1) (-1) ++ ([(oa, .inl (ok, 1, .inr (.inl ou)))]))) := hD.sub [0, 1, 2, 3, 4, 5, 6, 8, 9, 10, 11, 12, 13, 7] (by decide) rfl
  have hw_403 : True := hw
  clear hz1 hk1 ht hvm hP1 hD1 hFc hDc
  clear hPc hKc
  refine lv_istore (lv' := [(6, .int r2), (5, .int 1), (4, .int (nI (3 * jj))), (0, .ref b), (1, .ref (aG 0)), (2, .ref (aM 0)), (3, .ref oa)]) hx hb dL_law_406 hl (by decide) rfl (fun ls hl => ?_)
  refine lv_aload_n hx hb dL_law_408 rfl (lv_at hl 5 rfl) ?_
  have hPc : va_P (dC, dI) vwCl (gmW aM kM f1 f2 of ro fa 1 (nI g) (nI r) (-1) (-1)) _ := hP.sub [7, 8, 9, 10, 11, 12] rfl
  have hKc : va_K (dC, dI) vwCl (gmT kM) s := hK.sub [6, 7, 8, 9, 10] rfl
  refine va_calli (va_runV (As := []) (rest := []) ⟨hx, hb, hml, hown, hts⟩ (c_X1_thrown l dC dI aM kM f1 f2 of ro fa 1 g r (-1) (-1)) (cwV 0 hts gL_law_X1_thrown rfl rfl rfl (by decide +kernel) ⟨Nat.le_of_ble_eq_true rfl, Nat.le_of_ble_eq_true rfl⟩) ⟨gcPR_blind, va_recv hK hP (ci := 1) (q0 := 7) rfl rfl, fun U hU hW => ⟨rfl, by rw [hU]; exact hPc, va_K.moved hW.alike hKc⟩⟩ rfl rfl hl.1 rfl (lv_room (Nat.le_of_ble_eq_true rfl)) dL_law_409 ⟨show 14 + jj + 1 + 0 + 0 ≤ 1046 by omega, show 1295 + 6 * jj + 6 + 0 + 0 ≤ 9535 by omega⟩) hS (fun q _ h => h.elim) (fun q h => h.elim) (fun r3 u t H locs ht hvm hw hB hz1 hk1 hS => ?_)
  have hP := gc_keep hP hk1
  have hw : r3 = 1 := hw
  subst hw
  clear hw
  clear hB hz1 hk1 ht hvm
  clear hPc hKc
  refine lv_iload hx hb dL_law_412 (lv_at hl 1 rfl) ?_
  refine lv_icmp_eq (tgt := 419) hx hb dL_law_414 (by decide) (fun c_414 => ?_) (fun c_414 => absurd rfl c_414)
  refine lv_iload hx hb dL_law_419 (lv_at hl 1 rfl) ?_
  refine lv_if_ne (tgt := 443) hx hb dL_law_421 (by decide) (fun c_421 => ?_) (fun c_421 => ?_)
  · skip
    refine lv_goto (tgt := 951) hx hb dL_law_443 (by decide) ?_
    refine lv_iinc (v := nI (3 * (jj + 1))) (lv' := [(4, .int (nI (3 * (jj + 1)))), (6, .int r2), (5, .int 1), (0, .ref b), (1, .ref (aG 0)), (2, .ref (aM 0)), (3, .ref oa)]) hx hb dL_law_951 hl (k := 2) rfl (nI_3 jj) (by decide) rfl (fun ls hl => ?_)
    refine lv_goto (tgt := 23) hx hb dL_law_954 (by decide) ?_
    refine W.widen (k := 14 + (jj + 1)) (n := 1295 + 6 * (jj + 1)) (by omega) (by omega) ?_
    exact ih d H _ ls hd ⟨K, g, r, f1, f2, dr, cl, tr, se, inf, ct, of, ro, fa, 1, ou, hI, hP, hD, hS, lv_sub hl [0, 3, 4, 5, 6] rfl⟩
  · skip
    exact absurd c_421 (by decide)
set_option maxHeartbeats 4000000 in
set_option maxRecDepth 100000 in
theorem law_5 {p : Program} {e : Env} {s : State} {m : MethodId} {below : List Frame} {meth : Method} {c : Code} (l : Launch) (hgl : l.stackTraces = false) {b L : Nat} {xs : Nat → Int32} (hL : L ≤ 1536) (C0 : lw_At p s m meth c b L xs) {dC : Nat → ClassId} {dI : Nat → Nat → Nat} {aG : Nat → Nat} {kG : Nat → ClassId} {aM : Nat → Nat} {kM : Nat → ClassId} {oa : Nat} {ok : ClassId} (hK : va_K (dC, dI) vwCl (gcT kG ++ (gmT kM ++ ([(ok, .long)]))) s) (hXA : gcXA (fun q : Nat => s.heap.size ≤ q) s) {jj : Nat} (hj : 3 * jj + 3 ≤ L) {d : Drawn} (hd : s.drawn.sameBut d lw_cs) {K : Bk} {g r : Nat} {f1 f2 dr cl tr se : Nat → Int32} {inf : Int32} {ct : Nat} {of ro fa : Nat → Int32} {th : Int32} {ou : Nat → Int64} (hI : Inv K g r f1 f2 inf dr cl se ct of) {H : Heap} {locs : List Loc} {ls : Array Slot} (hP : va_P (dC, dI) vwCl (gcW aG kG f1 f2 dr cl tr se (nI g) (nI r) inf (nI ct) ++ (gmW aM kM f1 f2 of ro fa th (nI g) (nI r) (-1) (-1) ++ ([(oa, .inl (ok, 1, .inr (.inl ou)))]))) H) (hD : va_D (fun q : Nat => s.heap.size ≤ q) (gcW aG kG f1 f2 dr cl tr se (nI g) (nI r) inf (nI ct) ++ (gmW aM kM f1 f2 of ro fa th (nI g) (nI r) (-1) (-1) ++ ([(oa, .inl (ok, 1, .inr (.inl ou)))])))) (hS : va_S (fun q : Nat => s.heap.size ≤ q) s.heap H locs) (hl : lv_has ls 9 [(4, .int (nI (3 * jj))), (0, .ref b), (1, .ref (aG 0)), (2, .ref (aM 0)), (3, .ref oa)]) (ih : ∀ (d1 : Drawn) (H1 : Heap) (locs1 : List Loc) (ls1 : Array Slot), s.drawn.sameBut d1 lw_cs → LSt dC dI s b aG kG aM kM oa ok (jj + 1) H1 locs1 ls1 → W p l e room_1 (s.setDrawn d1) m #[Value.ref b] below meth c H1 locs1 (14 + (jj + 1)) (1295 + 6 * (jj + 1)) (lw_Z below #[Value.ref b] s) (F0 m 23 ls1 [])) {wa : Nat} (ha : wa < 2 * g) (h1 : xs (3 * jj + 1) = nI wa) : W p l e room_1 (s.setDrawn d) m #[Value.ref b] below meth c H locs (14 + jj) (1295 + 6 * jj) (lw_Z below #[Value.ref b] s) (F0 m 446 ls []) := by
  obtain ⟨hx, hb, hr, hml, hown, hts0, hX, hbl, hlocks, hgv⟩ := C0
  have hown : s.vm.findClass RL = some m.cls := hown
  have hts1 : ∀ w ∈ wsL_law, w.before #[Value.ref b] s = true := fun w h => hts0 w (wsL_law_in w h)
  have hts := dr_words hts1 d
  have hA : ∀ q : Nat, s.heap.size ≤ q → (fun q : Nat => s.heap.size ≤ q) q := fun _ h => h
  have hbA : ¬ (fun q : Nat => s.heap.size ≤ q) b := Nat.not_le.mpr hbl
  obtain ⟨hg10, hr30, hOK, hz, hBk, hof, hDr, hCl, s0, hse, hct⟩ := id hI
  have hKd : va_K (dC, dI) vwCl (gcT kG ++ (gmT kM ++ ([(ok, .long)]))) (s.setDrawn d) := hK
  have hXd : va_X b L xs (s.setDrawn d) s.heap := hX
  have hKg := gOK_Kg hOK
  have hKr : K.1 ≤ 30 := by rw [hOK.1]; exact hr30
  have hLF : LF K g se ct := by rw [hse, hct]; exact LF_of hg10 hKg hCl s0
  have hc1024 : ct ≤ 1024 := hLF.2
  have hft : gFt cl g = decide (0 < ct) := by rw [hct]; exact ft_pos hg10 hKg hCl s0
  refine lv_aload_n hx hb dL_law_446 rfl (lv_at hl 2 rfl) ?_
  refine lv_aload_n hx hb dL_law_447 rfl (lv_at hl 1 rfl) ?_
  refine lv_iload hx hb dL_law_448 (lv_at hl 0 rfl) ?_
  refine lv_iconst (v := 1) hx hb dL_law_450 (by decide) ?_
  refine lv_iadd hx hb dL_law_451 ?_
  refine gc_topi (y := nI (3 * jj + 1)) (nI_add (3 * jj) 1) ?_
  refine va_sld hx hb hXd hbl hbA hS (vp_in_nI (n := (3 * jj + 1)) (by omega) (by omega)) dL_law_452 ?_
  rw [nI_clamp (n := (3 * jj + 1)) (by omega)]
  refine gc_topi (y := nI wa) (h1) ?_
  refine lv_aload_n hx hb dL_law_453 rfl (lv_at hl 4 rfl) ?_
  have hPc : va_P (dC, dI) vwCl (gcW aG kG f1 f2 dr cl tr se (nI g) (nI r) inf (nI ct) ++ ([(oa, .inl (ok, 1, .inr (.inl ou)))])) _ := hP.sub [0, 1, 2, 3, 4, 5, 6, 13] rfl
  have hKc : va_K (dC, dI) vwCl (gcT kG ++ ([(ok, .long)])) s := hK.sub [0, 1, 2, 3, 4, 5, 11] rfl
  have hDc : va_D (fun q : Nat => s.heap.size ≤ q) (gcW aG kG f1 f2 dr cl tr se (nI g) (nI r) inf (nI ct) ++ ([(oa, .inl (ok, 1, .inr (.inl ou)))])) := hD.sub [0, 1, 2, 3, 4, 5, 6, 13] (by decide) rfl
  have hFc := va_free (wc := (gcW aG kG f1 f2 dr cl tr se (nI g) (nI r) inf (nI ct) ++ ([(oa, .inl (ok, 1, .inr (.inl ou)))]))) hD hS hA [0, 1, 2, 3, 4, 5, 6, 13] rfl
  refine va_calli (vx_runSW (As := [.ref (aG 0), .int (nI wa), .ref oa]) (rest := []) ⟨hx, hb, hml, hown, hts⟩ (w_reach l dC dI aG kG f1 f2 dr cl tr se g r inf ct oa ok ou wa H.size (by first | assumption | omega) (by first | assumption | omega)) (vx_cwSW 3 hts gL_law_L_reach rfl rfl rfl (by decide +kernel) ⟨Nat.le_of_ble_eq_true rfl, Nat.le_of_ble_eq_true rfl⟩) ⟨gcPM_blind, fun U hU hW => ⟨rfl, by rw [hU], by rw [hU]; exact hPc, va_K.moved hW.alike hKc, hDc.weaken (fun _ _ _ _ => trivial)⟩⟩ rfl rfl hl.1 rfl (lv_room (Nat.le_of_ble_eq_true rfl)) dL_law_454 ⟨show 14 + jj + 0 ≤ 1046 by omega, show 1295 + 6 * jj + 0 ≤ 9535 by omega⟩) hS (fun q _ h => hFc q h) hFc (fun r1 u t H locs ht hvm hw hB hz1 hk1 hS => ?_)
  obtain ⟨hP1, hD1⟩ := hB
  rw [ht] at hP1
  obtain ⟨hP, hD⟩ := va_join (wr := [(aM 0, .inr (1, [.int th, .int (nI g), .int (nI r), .ref (aM 1), .ref (aM 2), .ref (aM 3), .int (-1), .int (-1), .ref (aM 4), .ref (aM 5)])), (aM 1, .inl (kM 1, 30, .inl f1)), (aM 2, .inl (kM 2, 30, .inl f2)), (aM 3, .inl (kM 3, 30, .inl of)), (aM 4, .inl (kM 4, 20, .inl ro)), (aM 5, .inl (kM 5, 20, .inl fa))]) (w1 := (gcW aG kG f1 f2 dr cl tr se (nI g) (nI r) inf (nI ct) ++ ([(oa, .inl (ok, 1, .inr (.inl (vp_updL ou 0 ((gAt 20 cl (nI wa)).toInt64)))))]))) hP hD [0, 1, 2, 3, 4, 5, 6, 13] [7, 8, 9, 10, 11, 12] rfl rfl (by decide) (by decide) hk1 hFc hP1 hD1
  have hP : va_P (dC, dI) vwCl (gcW aG kG f1 f2 dr cl tr se (nI g) (nI r) inf (nI ct) ++ (gmW aM kM f1 f2 of ro fa th (nI g) (nI r) (-1) (-1) ++ ([(oa, .inl (ok, 1, .inr (.inl (vp_updL ou 0 ((gAt 20 cl (nI wa)).toInt64)))))]))) H := hP.sub [6, 7, 8, 9, 10, 11, 12, 0, 1, 2, 3, 4, 5, 13] rfl
  have hD : va_D (fun q : Nat => s.heap.size ≤ q) (gcW aG kG f1 f2 dr cl tr se (nI g) (nI r) inf (nI ct) ++ (gmW aM kM f1 f2 of ro fa th (nI g) (nI r) (-1) (-1) ++ ([(oa, .inl (ok, 1, .inr (.inl (vp_updL ou 0 ((gAt 20 cl (nI wa)).toInt64)))))]))) := hD.sub [6, 7, 8, 9, 10, 11, 12, 0, 1, 2, 3, 4, 5, 13] (by decide) rfl
  have hw : r1 = 0 := hw
  subst hw
  clear hw
  clear hz1 hk1 ht hvm hP1 hD1 hFc hDc
  clear hPc hKc
  refine lv_istore (lv' := [(5, .int 0), (4, .int (nI (3 * jj))), (0, .ref b), (1, .ref (aG 0)), (2, .ref (aM 0)), (3, .ref oa)]) hx hb dL_law_457 hl (by decide) rfl (fun ls hl => ?_)
  refine lv_aload_n hx hb dL_law_459 rfl (lv_at hl 4 rfl) ?_
  refine lv_aload_n hx hb dL_law_460 rfl (lv_at hl 2 rfl) ?_
  refine lv_iload hx hb dL_law_461 (lv_at hl 1 rfl) ?_
  refine lv_iconst (v := 1) hx hb dL_law_463 (by decide) ?_
  refine lv_iadd hx hb dL_law_464 ?_
  refine gc_topi (y := nI (3 * jj + 1)) (nI_add (3 * jj) 1) ?_
  refine va_sld hx hb hXd hbl hbA hS (vp_in_nI (n := (3 * jj + 1)) (by omega) (by omega)) dL_law_465 ?_
  rw [nI_clamp (n := (3 * jj + 1)) (by omega)]
  refine gc_topi (y := nI wa) (h1) ?_
  have hPc : va_P (dC, dI) vwCl (gmW aM kM f1 f2 of ro fa th (nI g) (nI r) (-1) (-1)) _ := hP.sub [7, 8, 9, 10, 11, 12] rfl
  have hKc : va_K (dC, dI) vwCl (gmT kM) s := hK.sub [6, 7, 8, 9, 10] rfl
  have hDc : va_D (fun q : Nat => s.heap.size ≤ q) (gmW aM kM f1 f2 of ro fa th (nI g) (nI r) (-1) (-1)) := hD.sub [7, 8, 9, 10, 11, 12] (by decide) rfl
  have hFc := va_free (wc := (gmW aM kM f1 f2 of ro fa th (nI g) (nI r) (-1) (-1))) hD hS hA [7, 8, 9, 10, 11, 12] rfl
  refine va_calli (va_runV (As := [.int (nI wa)]) (rest := []) ⟨hx, hb, hml, hown, hts⟩ (c_X1_reach l dC dI aM kM f1 f2 of ro fa th g r (-1) (-1) K wa H.size (by first | assumption | omega) (by first | assumption | omega) (by first | assumption | omega) (by first | assumption | omega)) (cwV 1 hts gL_law_X1_reach rfl rfl rfl (by decide +kernel) ⟨Nat.le_of_ble_eq_true rfl, Nat.le_of_ble_eq_true rfl⟩) ⟨gcPM_blind, va_recv hK hP (ci := 1) (q0 := 7) rfl rfl, fun U hU hW => ⟨rfl, by rw [hU], by rw [hU]; exact hPc, va_K.moved hW.alike hKc, hDc.weaken (fun _ _ _ _ => trivial)⟩⟩ rfl rfl hl.1 rfl (lv_room (Nat.le_of_ble_eq_true rfl)) dL_law_466 ⟨show 14 + jj + 0 + 0 ≤ 1046 by omega, show 1295 + 6 * jj + 0 + 0 ≤ 9535 by omega⟩) hS (fun q _ h => hFc q h) hFc (fun r2 u t H locs ht hvm hw hB hz1 hk1 hS => ?_)
  obtain ⟨ro23, fa24⟩ := u
  obtain ⟨hP1, hD1⟩ := hB
  rw [ht] at hP1
  obtain ⟨hP, hD⟩ := va_join (wr := [(aG 0, .inr (0, [.ref (aG 1), .ref (aG 2), .ref (aG 3), .ref (aG 4), .ref (aG 5), .ref (aG 6), .int (nI g), .int (nI r), .int inf, .int (nI ct)])), (aG 1, .inl (kG 1, 30, .inl f1)), (aG 2, .inl (kG 2, 30, .inl f2)), (aG 3, .inl (kG 3, 20, .inl dr)), (aG 4, .inl (kG 4, 20, .inl cl)), (aG 5, .inl (kG 5, 20, .inl tr)), (aG 6, .inl (kG 6, 1024, .inl se)), (oa, .inl (ok, 1, .inr (.inl (vp_updL ou 0 ((gAt 20 cl (nI wa)).toInt64)))))]) (w1 := (gmW aM kM f1 f2 of ro23 fa24 0 (nI g) (nI r) (-1) (-1))) hP hD [7, 8, 9, 10, 11, 12] [0, 1, 2, 3, 4, 5, 6, 13] rfl rfl (by decide) (by decide) hk1 hFc hP1 hD1
  have hP : va_P (dC, dI) vwCl (gcW aG kG f1 f2 dr cl tr se (nI g) (nI r) inf (nI ct) ++ (gmW aM kM f1 f2 of ro23 fa24 0 (nI g) (nI r) (-1) (-1) ++ ([(oa, .inl (ok, 1, .inr (.inl (vp_updL ou 0 ((gAt 20 cl (nI wa)).toInt64)))))]))) H := hP.sub [0, 1, 2, 3, 4, 5, 6, 8, 9, 10, 11, 12, 13, 7] rfl
  have hD : va_D (fun q : Nat => s.heap.size ≤ q) (gcW aG kG f1 f2 dr cl tr se (nI g) (nI r) inf (nI ct) ++ (gmW aM kM f1 f2 of ro23 fa24 0 (nI g) (nI r) (-1) (-1) ++ ([(oa, .inl (ok, 1, .inr (.inl (vp_updL ou 0 ((gAt 20 cl (nI wa)).toInt64)))))]))) := hD.sub [0, 1, 2, 3, 4, 5, 6, 8, 9, 10, 11, 12, 13, 7] (by decide) rfl
  have hw : r2 = mRe K wa (2 * g) := hw
  subst hw
  clear hw
  clear hz1 hk1 ht hvm hP1 hD1 hFc hDc
  clear hPc hKc
  refine lv_istore (lv' := [(6, .int (mRe K wa (2 * g))), (5, .int 0), (4, .int (nI (3 * jj))), (0, .ref b), (1, .ref (aG 0)), (2, .ref (aM 0)), (3, .ref oa)]) hx hb dL_law_469 hl (by decide) rfl (fun ls hl => ?_)
  refine lv_aload_n hx hb dL_law_471 rfl (lv_at hl 5 rfl) ?_
  have hPc : va_P (dC, dI) vwCl (gmW aM kM f1 f2 of ro23 fa24 0 (nI g) (nI r) (-1) (-1)) _ := hP.sub [7, 8, 9, 10, 11, 12] rfl
  have hKc : va_K (dC, dI) vwCl (gmT kM) s := hK.sub [6, 7, 8, 9, 10] rfl
  refine va_calli (va_runV (As := []) (rest := []) ⟨hx, hb, hml, hown, hts⟩ (c_X1_thrown l dC dI aM kM f1 f2 of ro23 fa24 0 g r (-1) (-1)) (cwV 0 hts gL_law_X1_thrown rfl rfl rfl (by decide +kernel) ⟨Nat.le_of_ble_eq_true rfl, Nat.le_of_ble_eq_true rfl⟩) ⟨gcPR_blind, va_recv hK hP (ci := 1) (q0 := 7) rfl rfl, fun U hU hW => ⟨rfl, by rw [hU]; exact hPc, va_K.moved hW.alike hKc⟩⟩ rfl rfl hl.1 rfl (lv_room (Nat.le_of_ble_eq_true rfl)) dL_law_472 ⟨show 14 + jj + 0 + 0 + 0 ≤ 1046 by omega, show 1295 + 6 * jj + 0 + 0 + 0 ≤ 9535 by omega⟩) hS (fun q _ h => h.elim) (fun q h => h.elim) (fun r5 u t H locs ht hvm hw hB hz1 hk1 hS => ?_)
  have hP := gc_keep hP hk1
  have hw : r5 = 0 := hw
  subst hw
  clear hw
  clear hB hz1 hk1 ht hvm
  clear hPc hKc
  refine lv_iload hx hb dL_law_475 (lv_at hl 1 rfl) ?_
  refine lv_icmp_eq (tgt := 482) hx hb dL_law_477 (by decide) (fun c_477 => ?_) (fun c_477 => absurd rfl c_477)
  refine lv_iload hx hb dL_law_482 (lv_at hl 1 rfl) ?_
  refine lv_if_ne (tgt := 499) hx hb dL_law_484 (by decide) (fun c_484 => ?_) (fun c_484 => ?_)
  · skip
    exact absurd (by decide) c_484
  · skip
    refine lv_aload_n hx hb dL_law_487 rfl (lv_at hl 6 rfl) ?_
    refine lv_iconst (v := 0) hx hb dL_law_488 (by decide) ?_
    refine va_lald hx hb hKd hP 13 11 rfl rfl gc_in01 dL_law_489 ?_
    refine gc_topl (y := ((gAt 20 cl (nI wa)).toInt64)) (by rw [sb_cl0]; exact pk_uLs) ?_
    refine gc_topl (y := (mRe K wa (2 * g)).toInt64) (by rw [cl_reach hg10 hKg hCl ha]) ?_
    refine lv_iload hx hb dL_law_490 (lv_at hl 0 rfl) ?_
    refine lv_i2l hx hb dL_law_492 rfl ?_
    refine W.lcmp hx hb dL_law_493 ?_
    refine gc_topi (y := 0) ((lg_cmp_eq _ _).mpr rfl) ?_
    refine lv_if_eq (tgt := 499) hx hb dL_law_494 (by decide) (fun c_494 => ?_) (fun c_494 => ?_)
    · skip
      refine lv_goto (tgt := 951) hx hb dL_law_499 (by decide) ?_
      refine lv_iinc (v := nI (3 * (jj + 1))) (lv' := [(4, .int (nI (3 * (jj + 1)))), (6, .int (mRe K wa (2 * g))), (5, .int 0), (0, .ref b), (1, .ref (aG 0)), (2, .ref (aM 0)), (3, .ref oa)]) hx hb dL_law_951 hl (k := 2) rfl (nI_3 jj) (by decide) rfl (fun ls hl => ?_)
      refine lv_goto (tgt := 23) hx hb dL_law_954 (by decide) ?_
      refine W.widen (k := 14 + (jj + 1)) (n := 1295 + 6 * (jj + 1)) (by omega) (by omega) ?_
      exact ih d H _ ls hd ⟨K, g, r, f1, f2, dr, cl, tr, se, inf, ct, of, ro23, fa24, 0, (vp_updL ou 0 ((gAt 20 cl (nI wa)).toInt64)), hI, hP, hD, hS, lv_sub hl [0, 3, 4, 5, 6] rfl⟩
    · skip
      exact absurd (by decide) c_494
set_option maxHeartbeats 4000000 in
set_option maxRecDepth 100000 in
theorem law_5x {p : Program} {e : Env} {s : State} {m : MethodId} {below : List Frame} {meth : Method} {c : Code} (l : Launch) (hgl : l.stackTraces = false) {b L : Nat} {xs : Nat → Int32} (hL : L ≤ 1536) (C0 : lw_At p s m meth c b L xs) {dC : Nat → ClassId} {dI : Nat → Nat → Nat} {aG : Nat → Nat} {kG : Nat → ClassId} {aM : Nat → Nat} {kM : Nat → ClassId} {oa : Nat} {ok : ClassId} (hK : va_K (dC, dI) vwCl (gcT kG ++ (gmT kM ++ ([(ok, .long)]))) s) (hXA : gcXA (fun q : Nat => s.heap.size ≤ q) s) {jj : Nat} (hj : 3 * jj + 3 ≤ L) {d : Drawn} (hd : s.drawn.sameBut d lw_cs) {K : Bk} {g r : Nat} {f1 f2 dr cl tr se : Nat → Int32} {inf : Int32} {ct : Nat} {of ro fa : Nat → Int32} {th : Int32} {ou : Nat → Int64} (hI : Inv K g r f1 f2 inf dr cl se ct of) {H : Heap} {locs : List Loc} {ls : Array Slot} (hP : va_P (dC, dI) vwCl (gcW aG kG f1 f2 dr cl tr se (nI g) (nI r) inf (nI ct) ++ (gmW aM kM f1 f2 of ro fa th (nI g) (nI r) (-1) (-1) ++ ([(oa, .inl (ok, 1, .inr (.inl ou)))]))) H) (hD : va_D (fun q : Nat => s.heap.size ≤ q) (gcW aG kG f1 f2 dr cl tr se (nI g) (nI r) inf (nI ct) ++ (gmW aM kM f1 f2 of ro fa th (nI g) (nI r) (-1) (-1) ++ ([(oa, .inl (ok, 1, .inr (.inl ou)))])))) (hS : va_S (fun q : Nat => s.heap.size ≤ q) s.heap H locs) (hl : lv_has ls 9 [(4, .int (nI (3 * jj))), (0, .ref b), (1, .ref (aG 0)), (2, .ref (aM 0)), (3, .ref oa)]) (ih : ∀ (d1 : Drawn) (H1 : Heap) (locs1 : List Loc) (ls1 : Array Slot), s.drawn.sameBut d1 lw_cs → LSt dC dI s b aG kG aM kM oa ok (jj + 1) H1 locs1 ls1 → W p l e room_1 (s.setDrawn d1) m #[Value.ref b] below meth c H1 locs1 (14 + (jj + 1)) (1295 + 6 * (jj + 1)) (lw_Z below #[Value.ref b] s) (F0 m 23 ls1 [])) (hno : ∀ q : Nat, q < 2 * g → xs (3 * jj + 1) ≠ nI q) : W p l e room_1 (s.setDrawn d) m #[Value.ref b] below meth c H locs (14 + jj) (1295 + 6 * jj) (lw_Z below #[Value.ref b] s) (F0 m 446 ls []) := by
  obtain ⟨hx, hb, hr, hml, hown, hts0, hX, hbl, hlocks, hgv⟩ := C0
  have hown : s.vm.findClass RL = some m.cls := hown
  have hts1 : ∀ w ∈ wsL_law, w.before #[Value.ref b] s = true := fun w h => hts0 w (wsL_law_in w h)
  have hts := dr_words hts1 d
  have hA : ∀ q : Nat, s.heap.size ≤ q → (fun q : Nat => s.heap.size ≤ q) q := fun _ h => h
  have hbA : ¬ (fun q : Nat => s.heap.size ≤ q) b := Nat.not_le.mpr hbl
  obtain ⟨hg10, hr30, hOK, hz, hBk, hof, hDr, hCl, s0, hse, hct⟩ := id hI
  have hKd : va_K (dC, dI) vwCl (gcT kG ++ (gmT kM ++ ([(ok, .long)]))) (s.setDrawn d) := hK
  have hXd : va_X b L xs (s.setDrawn d) s.heap := hX
  have hKg := gOK_Kg hOK
  have hKr : K.1 ≤ 30 := by rw [hOK.1]; exact hr30
  have hLF : LF K g se ct := by rw [hse, hct]; exact LF_of hg10 hKg hCl s0
  have hc1024 : ct ≤ 1024 := hLF.2
  have hft : gFt cl g = decide (0 < ct) := by rw [hct]; exact ft_pos hg10 hKg hCl s0
  refine lv_aload_n hx hb dL_law_446 rfl (lv_at hl 2 rfl) ?_
  refine lv_aload_n hx hb dL_law_447 rfl (lv_at hl 1 rfl) ?_
  refine lv_iload hx hb dL_law_448 (lv_at hl 0 rfl) ?_
  refine lv_iconst (v := 1) hx hb dL_law_450 (by decide) ?_
  refine lv_iadd hx hb dL_law_451 ?_
  refine gc_topi (y := nI (3 * jj + 1)) (nI_add (3 * jj) 1) ?_
  refine va_sld hx hb hXd hbl hbA hS (vp_in_nI (n := (3 * jj + 1)) (by omega) (by omega)) dL_law_452 ?_
  rw [nI_clamp (n := (3 * jj + 1)) (by omega)]
  refine lv_aload_n hx hb dL_law_453 rfl (lv_at hl 4 rfl) ?_
  have hPc : va_P (dC, dI) vwCl (gcW aG kG f1 f2 dr cl tr se (nI g) (nI r) inf (nI ct) ++ ([(oa, .inl (ok, 1, .inr (.inl ou)))])) _ := hP.sub [0, 1, 2, 3, 4, 5, 6, 13] rfl
  have hKc : va_K (dC, dI) vwCl (gcT kG ++ ([(ok, .long)])) s := hK.sub [0, 1, 2, 3, 4, 5, 11] rfl
  have hDc : va_D (fun q : Nat => s.heap.size ≤ q) (gcW aG kG f1 f2 dr cl tr se (nI g) (nI r) inf (nI ct) ++ ([(oa, .inl (ok, 1, .inr (.inl ou)))])) := hD.sub [0, 1, 2, 3, 4, 5, 6, 13] (by decide) rfl
  have hFc := va_free (wc := (gcW aG kG f1 f2 dr cl tr se (nI g) (nI r) inf (nI ct) ++ ([(oa, .inl (ok, 1, .inr (.inl ou)))]))) hD hS hA [0, 1, 2, 3, 4, 5, 6, 13] rfl
  refine va_calli (vx_runSW (As := [.ref (aG 0), .int (xs (3 * jj + 1)), .ref oa]) (rest := []) ⟨hx, hb, hml, hown, hts⟩ (wx_reach l hgl dC dI aG kG f1 f2 dr cl tr se g r inf ct oa ok ou (xs (3 * jj + 1)) H.size (by first | assumption | omega) (by first | exact hno | exact Or.inl hno | exact Or.inr hno)) (vx_cwSW 3 hts gL_law_L_reach rfl rfl rfl (by decide +kernel) ⟨Nat.le_of_ble_eq_true rfl, Nat.le_of_ble_eq_true rfl⟩) ⟨gcPN_blind, fun U hU hW => ⟨rfl, by rw [hU], by rw [hU]; exact hPc, va_K.moved hW.alike hKc, hDc.weaken (fun _ _ _ _ => trivial), gcXA_go hXA hS hU hW⟩⟩ rfl rfl hl.1 rfl (lv_room (Nat.le_of_ble_eq_true rfl)) dL_law_454 ⟨show 14 + jj + 1 ≤ 1046 by omega, show 1295 + 6 * jj + 6 ≤ 9535 by omega⟩) hS (fun q _ h => hFc q h) hFc (fun r1 u t H locs ht hvm hw hB hz1 hk1 hS => ?_)
  obtain ⟨hP1, hD1⟩ := hB
  rw [ht] at hP1
  obtain ⟨hP, hD⟩ := va_join (wr := [(aM 0, .inr (1, [.int th, .int (nI g), .int (nI r), .ref (aM 1), .ref (aM 2), .ref (aM 3), .int (-1), .int (-1), .ref (aM 4), .ref (aM 5)])), (aM 1, .inl (kM 1, 30, .inl f1)), (aM 2, .inl (kM 2, 30, .inl f2)), (aM 3, .inl (kM 3, 30, .inl of)), (aM 4, .inl (kM 4, 20, .inl ro)), (aM 5, .inl (kM 5, 20, .inl fa))]) (w1 := (gcW aG kG f1 f2 dr cl tr se (nI g) (nI r) inf (nI ct) ++ ([(oa, .inl (ok, 1, .inr (.inl ou)))]))) hP hD [0, 1, 2, 3, 4, 5, 6, 13] [7, 8, 9, 10, 11, 12] rfl rfl (by decide) (by decide) hk1 hFc hP1 hD1
  have hP : va_P (dC, dI) vwCl (gcW aG kG f1 f2 dr cl tr se (nI g) (nI r) inf (nI ct) ++ (gmW aM kM f1 f2 of ro fa th (nI g) (nI r) (-1) (-1) ++ ([(oa, .inl (ok, 1, .inr (.inl ou)))]))) H := hP.sub [6, 7, 8, 9, 10, 11, 12, 0, 1, 2, 3, 4, 5, 13] rfl
  have hD : va_D (fun q : Nat => s.heap.size ≤ q) (gcW aG kG f1 f2 dr cl tr se (nI g) (nI r) inf (nI ct) ++ (gmW aM kM f1 f2 of ro fa th (nI g) (nI r) (-1) (-1) ++ ([(oa, .inl (ok, 1, .inr (.inl ou)))]))) := hD.sub [6, 7, 8, 9, 10, 11, 12, 0, 1, 2, 3, 4, 5, 13] (by decide) rfl
  have hw : r1 = 1 := hw
  subst hw
  clear hw
  clear hz1 hk1 ht hvm hP1 hD1 hFc hDc
  clear hPc hKc
  refine lv_istore (lv' := [(5, .int 1), (4, .int (nI (3 * jj))), (0, .ref b), (1, .ref (aG 0)), (2, .ref (aM 0)), (3, .ref oa)]) hx hb dL_law_457 hl (by decide) rfl (fun ls hl => ?_)
  refine lv_aload_n hx hb dL_law_459 rfl (lv_at hl 4 rfl) ?_
  refine lv_aload_n hx hb dL_law_460 rfl (lv_at hl 2 rfl) ?_
  refine lv_iload hx hb dL_law_461 (lv_at hl 1 rfl) ?_
  refine lv_iconst (v := 1) hx hb dL_law_463 (by decide) ?_
  refine lv_iadd hx hb dL_law_464 ?_
  refine gc_topi (y := nI (3 * jj + 1)) (nI_add (3 * jj) 1) ?_
  refine va_sld hx hb hXd hbl hbA hS (vp_in_nI (n := (3 * jj + 1)) (by omega) (by omega)) dL_law_465 ?_
  rw [nI_clamp (n := (3 * jj + 1)) (by omega)]
  have hPc : va_P (dC, dI) vwCl (gmW aM kM f1 f2 of ro fa th (nI g) (nI r) (-1) (-1)) _ := hP.sub [7, 8, 9, 10, 11, 12] rfl
  have hKc : va_K (dC, dI) vwCl (gmT kM) s := hK.sub [6, 7, 8, 9, 10] rfl
  have hDc : va_D (fun q : Nat => s.heap.size ≤ q) (gmW aM kM f1 f2 of ro fa th (nI g) (nI r) (-1) (-1)) := hD.sub [7, 8, 9, 10, 11, 12] (by decide) rfl
  have hFc := va_free (wc := (gmW aM kM f1 f2 of ro fa th (nI g) (nI r) (-1) (-1))) hD hS hA [7, 8, 9, 10, 11, 12] rfl
  refine va_calli (va_runV (As := [.int (xs (3 * jj + 1))]) (rest := []) ⟨hx, hb, hml, hown, hts⟩ (c_X1_reach_no l dC dI aM kM f1 f2 of ro fa th g r (-1) (-1) (xs (3 * jj + 1)) H.size (by first | assumption | omega) (by first | exact hno | exact Or.inl hno | exact Or.inr hno)) (cwV 1 hts gL_law_X1_reach rfl rfl rfl (by decide +kernel) ⟨Nat.le_of_ble_eq_true rfl, Nat.le_of_ble_eq_true rfl⟩) ⟨gcPM_blind, va_recv hK hP (ci := 1) (q0 := 7) rfl rfl, fun U hU hW => ⟨rfl, by rw [hU], by rw [hU]; exact hPc, va_K.moved hW.alike hKc, hDc.weaken (fun _ _ _ _ => trivial)⟩⟩ rfl rfl hl.1 rfl (lv_room (Nat.le_of_ble_eq_true rfl)) dL_law_466 ⟨show 14 + jj + 1 + 0 ≤ 1046 by omega, show 1295 + 6 * jj + 6 + 0 ≤ 9535 by omega⟩) hS (fun q _ h => hFc q h) hFc (fun r2 u t H locs ht hvm hw hB hz1 hk1 hS => ?_)
  obtain ⟨hP1, hD1⟩ := hB
  rw [ht] at hP1
  obtain ⟨hP, hD⟩ := va_join (wr := [(aG 0, .inr (0, [.ref (aG 1), .ref (aG 2), .ref (aG 3), .ref (aG 4), .ref (aG 5), .ref (aG 6), .int (nI g), .int (nI r), .int inf, .int (nI ct)])), (aG 1, .inl (kG 1, 30, .inl f1)), (aG 2, .inl (kG 2, 30, .inl f2)), (aG 3, .inl (kG 3, 20, .inl dr)), (aG 4, .inl (kG 4, 20, .inl cl)), (aG 5, .inl (kG 5, 20, .inl tr)), (aG 6, .inl (kG 6, 1024, .inl se)), (oa, .inl (ok, 1, .inr (.inl ou)))]) (w1 := (gmW aM kM f1 f2 of ro fa 1 (nI g) (nI r) (-1) (-1))) hP hD [7, 8, 9, 10, 11, 12] [0, 1, 2, 3, 4, 5, 6, 13] rfl rfl (by decide) (by decide) hk1 hFc hP1 hD1
  have hP : va_P (dC, dI) vwCl (gcW aG kG f1 f2 dr cl tr se (nI g) (nI r) inf (nI ct) ++ (gmW aM kM f1 f2 of ro fa 1 (nI g) (nI r) (-1) (-1) ++ ([(oa, .inl (ok, 1, .inr (.inl ou)))]))) H := hP.sub [0, 1, 2, 3, 4, 5, 6, 8, 9, 10, 11, 12, 13, 7] rfl
  have hD : va_D (fun q : Nat => s.heap.size ≤ q) (gcW aG kG f1 f2 dr cl tr se (nI g) (nI r) inf (nI ct) ++ (gmW aM kM f1 f2 of ro fa 1 (nI g) (nI r) (-1) (-1) ++ ([(oa, .inl (ok, 1, .inr (.inl ou)))]))) := hD.sub [0, 1, 2, 3, 4, 5, 6, 8, 9, 10, 11, 12, 13, 7] (by decide) rfl
  have hw_466 : True := hw
  clear hz1 hk1 ht hvm hP1 hD1 hFc hDc
  clear hPc hKc
  refine lv_istore (lv' := [(6, .int r2), (5, .int 1), (4, .int (nI (3 * jj))), (0, .ref b), (1, .ref (aG 0)), (2, .ref (aM 0)), (3, .ref oa)]) hx hb dL_law_469 hl (by decide) rfl (fun ls hl => ?_)
  refine lv_aload_n hx hb dL_law_471 rfl (lv_at hl 5 rfl) ?_
  have hPc : va_P (dC, dI) vwCl (gmW aM kM f1 f2 of ro fa 1 (nI g) (nI r) (-1) (-1)) _ := hP.sub [7, 8, 9, 10, 11, 12] rfl
  have hKc : va_K (dC, dI) vwCl (gmT kM) s := hK.sub [6, 7, 8, 9, 10] rfl
  refine va_calli (va_runV (As := []) (rest := []) ⟨hx, hb, hml, hown, hts⟩ (c_X1_thrown l dC dI aM kM f1 f2 of ro fa 1 g r (-1) (-1)) (cwV 0 hts gL_law_X1_thrown rfl rfl rfl (by decide +kernel) ⟨Nat.le_of_ble_eq_true rfl, Nat.le_of_ble_eq_true rfl⟩) ⟨gcPR_blind, va_recv hK hP (ci := 1) (q0 := 7) rfl rfl, fun U hU hW => ⟨rfl, by rw [hU]; exact hPc, va_K.moved hW.alike hKc⟩⟩ rfl rfl hl.1 rfl (lv_room (Nat.le_of_ble_eq_true rfl)) dL_law_472 ⟨show 14 + jj + 1 + 0 + 0 ≤ 1046 by omega, show 1295 + 6 * jj + 6 + 0 + 0 ≤ 9535 by omega⟩) hS (fun q _ h => h.elim) (fun q h => h.elim) (fun r3 u t H locs ht hvm hw hB hz1 hk1 hS => ?_)
  have hP := gc_keep hP hk1
  have hw : r3 = 1 := hw
  subst hw
  clear hw
  clear hB hz1 hk1 ht hvm
  clear hPc hKc
  refine lv_iload hx hb dL_law_475 (lv_at hl 1 rfl) ?_
  refine lv_icmp_eq (tgt := 482) hx hb dL_law_477 (by decide) (fun c_477 => ?_) (fun c_477 => absurd rfl c_477)
  refine lv_iload hx hb dL_law_482 (lv_at hl 1 rfl) ?_
  refine lv_if_ne (tgt := 499) hx hb dL_law_484 (by decide) (fun c_484 => ?_) (fun c_484 => ?_)
  · skip
    refine lv_goto (tgt := 951) hx hb dL_law_499 (by decide) ?_
    refine lv_iinc (v := nI (3 * (jj + 1))) (lv' := [(4, .int (nI (3 * (jj + 1)))), (6, .int r2), (5, .int 1), (0, .ref b), (1, .ref (aG 0)), (2, .ref (aM 0)), (3, .ref oa)]) hx hb dL_law_951 hl (k := 2) rfl (nI_3 jj) (by decide) rfl (fun ls hl => ?_)
    refine lv_goto (tgt := 23) hx hb dL_law_954 (by decide) ?_
    refine W.widen (k := 14 + (jj + 1)) (n := 1295 + 6 * (jj + 1)) (by omega) (by omega) ?_
    exact ih d H _ ls hd ⟨K, g, r, f1, f2, dr, cl, tr, se, inf, ct, of, ro, fa, 1, ou, hI, hP, hD, hS, lv_sub hl [0, 3, 4, 5, 6] rfl⟩
  · skip
    exact absurd c_484 (by decide)
set_option maxHeartbeats 4000000 in
set_option maxRecDepth 100000 in
theorem law_6 {p : Program} {e : Env} {s : State} {m : MethodId} {below : List Frame} {meth : Method} {c : Code} (l : Launch) (hgl : l.stackTraces = false) {b L : Nat} {xs : Nat → Int32} (hL : L ≤ 1536) (C0 : lw_At p s m meth c b L xs) {dC : Nat → ClassId} {dI : Nat → Nat → Nat} {aG : Nat → Nat} {kG : Nat → ClassId} {aM : Nat → Nat} {kM : Nat → ClassId} {oa : Nat} {ok : ClassId} (hK : va_K (dC, dI) vwCl (gcT kG ++ (gmT kM ++ ([(ok, .long)]))) s) (hXA : gcXA (fun q : Nat => s.heap.size ≤ q) s) {jj : Nat} (hj : 3 * jj + 3 ≤ L) {d : Drawn} (hd : s.drawn.sameBut d lw_cs) {K : Bk} {g r : Nat} {f1 f2 dr cl tr se : Nat → Int32} {inf : Int32} {ct : Nat} {of ro fa : Nat → Int32} {th : Int32} {ou : Nat → Int64} (hI : Inv K g r f1 f2 inf dr cl se ct of) {H : Heap} {locs : List Loc} {ls : Array Slot} (hP : va_P (dC, dI) vwCl (gcW aG kG f1 f2 dr cl tr se (nI g) (nI r) inf (nI ct) ++ (gmW aM kM f1 f2 of ro fa th (nI g) (nI r) (-1) (-1) ++ ([(oa, .inl (ok, 1, .inr (.inl ou)))]))) H) (hD : va_D (fun q : Nat => s.heap.size ≤ q) (gcW aG kG f1 f2 dr cl tr se (nI g) (nI r) inf (nI ct) ++ (gmW aM kM f1 f2 of ro fa th (nI g) (nI r) (-1) (-1) ++ ([(oa, .inl (ok, 1, .inr (.inl ou)))])))) (hS : va_S (fun q : Nat => s.heap.size ≤ q) s.heap H locs) (hl : lv_has ls 9 [(4, .int (nI (3 * jj))), (0, .ref b), (1, .ref (aG 0)), (2, .ref (aM 0)), (3, .ref oa)]) (ih : ∀ (d1 : Drawn) (H1 : Heap) (locs1 : List Loc) (ls1 : Array Slot), s.drawn.sameBut d1 lw_cs → LSt dC dI s b aG kG aM kM oa ok (jj + 1) H1 locs1 ls1 → W p l e room_1 (s.setDrawn d1) m #[Value.ref b] below meth c H1 locs1 (14 + (jj + 1)) (1295 + 6 * (jj + 1)) (lw_Z below #[Value.ref b] s) (F0 m 23 ls1 [])) {wa wb : Nat} (ha : wa < 2 * g) (hb2 : wb < 2 * g) (h1 : xs (3 * jj + 1) = nI wa) (h2 : xs (3 * jj + 2) = nI wb) : W p l e room_1 (s.setDrawn d) m #[Value.ref b] below meth c H locs (14 + jj) (1295 + 6 * jj) (lw_Z below #[Value.ref b] s) (F0 m 502 ls []) := by
  obtain ⟨hx, hb, hr, hml, hown, hts0, hX, hbl, hlocks, hgv⟩ := C0
  have hown : s.vm.findClass RL = some m.cls := hown
  have hts1 : ∀ w ∈ wsL_law, w.before #[Value.ref b] s = true := fun w h => hts0 w (wsL_law_in w h)
  have hts := dr_words hts1 d
  have hA : ∀ q : Nat, s.heap.size ≤ q → (fun q : Nat => s.heap.size ≤ q) q := fun _ h => h
  have hbA : ¬ (fun q : Nat => s.heap.size ≤ q) b := Nat.not_le.mpr hbl
  obtain ⟨hg10, hr30, hOK, hz, hBk, hof, hDr, hCl, s0, hse, hct⟩ := id hI
  have hKd : va_K (dC, dI) vwCl (gcT kG ++ (gmT kM ++ ([(ok, .long)]))) (s.setDrawn d) := hK
  have hXd : va_X b L xs (s.setDrawn d) s.heap := hX
  have hKg := gOK_Kg hOK
  have hKr : K.1 ≤ 30 := by rw [hOK.1]; exact hr30
  have hLF : LF K g se ct := by rw [hse, hct]; exact LF_of hg10 hKg hCl s0
  have hc1024 : ct ≤ 1024 := hLF.2
  have hft : gFt cl g = decide (0 < ct) := by rw [hct]; exact ft_pos hg10 hKg hCl s0
  refine lv_aload_n hx hb dL_law_502 rfl (lv_at hl 2 rfl) ?_
  refine lv_aload_n hx hb dL_law_503 rfl (lv_at hl 1 rfl) ?_
  refine lv_iload hx hb dL_law_504 (lv_at hl 0 rfl) ?_
  refine lv_iconst (v := 1) hx hb dL_law_506 (by decide) ?_
  refine lv_iadd hx hb dL_law_507 ?_
  refine gc_topi (y := nI (3 * jj + 1)) (nI_add (3 * jj) 1) ?_
  refine va_sld hx hb hXd hbl hbA hS (vp_in_nI (n := (3 * jj + 1)) (by omega) (by omega)) dL_law_508 ?_
  rw [nI_clamp (n := (3 * jj + 1)) (by omega)]
  refine gc_topi (y := nI wa) (h1) ?_
  refine lv_aload_n hx hb dL_law_509 rfl (lv_at hl 1 rfl) ?_
  refine lv_iload hx hb dL_law_510 (lv_at hl 0 rfl) ?_
  refine lv_iconst (v := 2) hx hb dL_law_512 (by decide) ?_
  refine lv_iadd hx hb dL_law_513 ?_
  refine gc_topi (y := nI (3 * jj + 2)) (nI_add (3 * jj) 2) ?_
  refine va_sld hx hb hXd hbl hbA hS (vp_in_nI (n := (3 * jj + 2)) (by omega) (by omega)) dL_law_514 ?_
  rw [nI_clamp (n := (3 * jj + 2)) (by omega)]
  refine gc_topi (y := nI wb) (h2) ?_
  refine lv_aload_n hx hb dL_law_515 rfl (lv_at hl 4 rfl) ?_
  have hPc : va_P (dC, dI) vwCl (gcW aG kG f1 f2 dr cl tr se (nI g) (nI r) inf (nI ct) ++ ([(oa, .inl (ok, 1, .inr (.inl ou)))])) _ := hP.sub [0, 1, 2, 3, 4, 5, 6, 13] rfl
  have hKc : va_K (dC, dI) vwCl (gcT kG ++ ([(ok, .long)])) s := hK.sub [0, 1, 2, 3, 4, 5, 11] rfl
  have hDc : va_D (fun q : Nat => s.heap.size ≤ q) (gcW aG kG f1 f2 dr cl tr se (nI g) (nI r) inf (nI ct) ++ ([(oa, .inl (ok, 1, .inr (.inl ou)))])) := hD.sub [0, 1, 2, 3, 4, 5, 6, 13] (by decide) rfl
  have hFc := va_free (wc := (gcW aG kG f1 f2 dr cl tr se (nI g) (nI r) inf (nI ct) ++ ([(oa, .inl (ok, 1, .inr (.inl ou)))]))) hD hS hA [0, 1, 2, 3, 4, 5, 6, 13] rfl
  refine va_calli (vx_runSW (As := [.ref (aG 0), .int (nI wa), .int (nI wb), .ref oa]) (rest := []) ⟨hx, hb, hml, hown, hts⟩ (w_steps l dC dI aG kG f1 f2 dr cl tr se g r inf ct oa ok ou wa wb H.size (by first | assumption | omega) (by first | assumption | omega) (by first | assumption | omega)) (vx_cwSW 4 hts gL_law_L_steps rfl rfl rfl (by decide +kernel) ⟨Nat.le_of_ble_eq_true rfl, Nat.le_of_ble_eq_true rfl⟩) ⟨gcPM_blind, fun U hU hW => ⟨rfl, by rw [hU], by rw [hU]; exact hPc, va_K.moved hW.alike hKc, hDc.weaken (fun _ _ _ _ => trivial)⟩⟩ rfl rfl hl.1 rfl (lv_room (Nat.le_of_ble_eq_true rfl)) dL_law_516 ⟨show 14 + jj + 0 ≤ 1046 by omega, show 1295 + 6 * jj + 0 ≤ 9535 by omega⟩) hS (fun q _ h => hFc q h) hFc (fun r1 u t H locs ht hvm hw hB hz1 hk1 hS => ?_)
  obtain ⟨hP1, hD1⟩ := hB
  rw [ht] at hP1
  obtain ⟨hP, hD⟩ := va_join (wr := [(aM 0, .inr (1, [.int th, .int (nI g), .int (nI r), .ref (aM 1), .ref (aM 2), .ref (aM 3), .int (-1), .int (-1), .ref (aM 4), .ref (aM 5)])), (aM 1, .inl (kM 1, 30, .inl f1)), (aM 2, .inl (kM 2, 30, .inl f2)), (aM 3, .inl (kM 3, 30, .inl of)), (aM 4, .inl (kM 4, 20, .inl ro)), (aM 5, .inl (kM 5, 20, .inl fa))]) (w1 := (gcW aG kG f1 f2 dr cl tr se (nI g) (nI r) inf (nI ct) ++ ([(oa, .inl (ok, 1, .inr (.inl (vp_updL ou 0 ((gStp dr g wa wb).toInt64)))))]))) hP hD [0, 1, 2, 3, 4, 5, 6, 13] [7, 8, 9, 10, 11, 12] rfl rfl (by decide) (by decide) hk1 hFc hP1 hD1
  have hP : va_P (dC, dI) vwCl (gcW aG kG f1 f2 dr cl tr se (nI g) (nI r) inf (nI ct) ++ (gmW aM kM f1 f2 of ro fa th (nI g) (nI r) (-1) (-1) ++ ([(oa, .inl (ok, 1, .inr (.inl (vp_updL ou 0 ((gStp dr g wa wb).toInt64)))))]))) H := hP.sub [6, 7, 8, 9, 10, 11, 12, 0, 1, 2, 3, 4, 5, 13] rfl
  have hD : va_D (fun q : Nat => s.heap.size ≤ q) (gcW aG kG f1 f2 dr cl tr se (nI g) (nI r) inf (nI ct) ++ (gmW aM kM f1 f2 of ro fa th (nI g) (nI r) (-1) (-1) ++ ([(oa, .inl (ok, 1, .inr (.inl (vp_updL ou 0 ((gStp dr g wa wb).toInt64)))))]))) := hD.sub [6, 7, 8, 9, 10, 11, 12, 0, 1, 2, 3, 4, 5, 13] (by decide) rfl
  have hw : r1 = 0 := hw
  subst hw
  clear hw
  clear hz1 hk1 ht hvm hP1 hD1 hFc hDc
  clear hPc hKc
  refine lv_istore (lv' := [(5, .int 0), (4, .int (nI (3 * jj))), (0, .ref b), (1, .ref (aG 0)), (2, .ref (aM 0)), (3, .ref oa)]) hx hb dL_law_519 hl (by decide) rfl (fun ls hl => ?_)
  refine lv_aload_n hx hb dL_law_521 rfl (lv_at hl 4 rfl) ?_
  refine lv_aload_n hx hb dL_law_522 rfl (lv_at hl 2 rfl) ?_
  refine lv_iload hx hb dL_law_523 (lv_at hl 1 rfl) ?_
  refine lv_iconst (v := 1) hx hb dL_law_525 (by decide) ?_
  refine lv_iadd hx hb dL_law_526 ?_
  refine gc_topi (y := nI (3 * jj + 1)) (nI_add (3 * jj) 1) ?_
  refine va_sld hx hb hXd hbl hbA hS (vp_in_nI (n := (3 * jj + 1)) (by omega) (by omega)) dL_law_527 ?_
  rw [nI_clamp (n := (3 * jj + 1)) (by omega)]
  refine gc_topi (y := nI wa) (h1) ?_
  refine lv_aload_n hx hb dL_law_528 rfl (lv_at hl 2 rfl) ?_
  refine lv_iload hx hb dL_law_529 (lv_at hl 1 rfl) ?_
  refine lv_iconst (v := 2) hx hb dL_law_531 (by decide) ?_
  refine lv_iadd hx hb dL_law_532 ?_
  refine gc_topi (y := nI (3 * jj + 2)) (nI_add (3 * jj) 2) ?_
  refine va_sld hx hb hXd hbl hbA hS (vp_in_nI (n := (3 * jj + 2)) (by omega) (by omega)) dL_law_533 ?_
  rw [nI_clamp (n := (3 * jj + 2)) (by omega)]
  refine gc_topi (y := nI wb) (h2) ?_
  have hPc : va_P (dC, dI) vwCl (gmW aM kM f1 f2 of ro fa th (nI g) (nI r) (-1) (-1)) _ := hP.sub [7, 8, 9, 10, 11, 12] rfl
  have hKc : va_K (dC, dI) vwCl (gmT kM) s := hK.sub [6, 7, 8, 9, 10] rfl
  have hDc : va_D (fun q : Nat => s.heap.size ≤ q) (gmW aM kM f1 f2 of ro fa th (nI g) (nI r) (-1) (-1)) := hD.sub [7, 8, 9, 10, 11, 12] (by decide) rfl
  have hFc := va_free (wc := (gmW aM kM f1 f2 of ro fa th (nI g) (nI r) (-1) (-1))) hD hS hA [7, 8, 9, 10, 11, 12] rfl
  refine va_calli (va_runV (As := [.int (nI wa), .int (nI wb)]) (rest := []) ⟨hx, hb, hml, hown, hts⟩ (c_X1_steps l dC dI aM kM f1 f2 of ro fa th g r (-1) (-1) K wa wb H.size (by first | assumption | omega) (by first | assumption | omega) (by first | assumption | omega) (by first | assumption | omega) (by first | assumption | omega)) (cwV 2 hts gL_law_X1_steps rfl rfl rfl (by decide +kernel) ⟨Nat.le_of_ble_eq_true rfl, Nat.le_of_ble_eq_true rfl⟩) ⟨gcPM_blind, va_recv hK hP (ci := 1) (q0 := 7) rfl rfl, fun U hU hW => ⟨rfl, by rw [hU], by rw [hU]; exact hPc, va_K.moved hW.alike hKc, hDc.weaken (fun _ _ _ _ => trivial)⟩⟩ rfl rfl hl.1 rfl (lv_room (Nat.le_of_ble_eq_true rfl)) dL_law_534 ⟨show 14 + jj + 0 + 0 ≤ 1046 by omega, show 1295 + 6 * jj + 0 + 0 ≤ 9535 by omega⟩) hS (fun q _ h => hFc q h) hFc (fun r2 u t H locs ht hvm hw hB hz1 hk1 hS => ?_)
  obtain ⟨ro23, fa24⟩ := u
  obtain ⟨hP1, hD1⟩ := hB
  rw [ht] at hP1
  obtain ⟨hP, hD⟩ := va_join (wr := [(aG 0, .inr (0, [.ref (aG 1), .ref (aG 2), .ref (aG 3), .ref (aG 4), .ref (aG 5), .ref (aG 6), .int (nI g), .int (nI r), .int inf, .int (nI ct)])), (aG 1, .inl (kG 1, 30, .inl f1)), (aG 2, .inl (kG 2, 30, .inl f2)), (aG 3, .inl (kG 3, 20, .inl dr)), (aG 4, .inl (kG 4, 20, .inl cl)), (aG 5, .inl (kG 5, 20, .inl tr)), (aG 6, .inl (kG 6, 1024, .inl se)), (oa, .inl (ok, 1, .inr (.inl (vp_updL ou 0 ((gStp dr g wa wb).toInt64)))))]) (w1 := (gmW aM kM f1 f2 of ro23 fa24 0 (nI g) (nI r) (-1) (-1))) hP hD [7, 8, 9, 10, 11, 12] [0, 1, 2, 3, 4, 5, 6, 13] rfl rfl (by decide) (by decide) hk1 hFc hP1 hD1
  have hP : va_P (dC, dI) vwCl (gcW aG kG f1 f2 dr cl tr se (nI g) (nI r) inf (nI ct) ++ (gmW aM kM f1 f2 of ro23 fa24 0 (nI g) (nI r) (-1) (-1) ++ ([(oa, .inl (ok, 1, .inr (.inl (vp_updL ou 0 ((gStp dr g wa wb).toInt64)))))]))) H := hP.sub [0, 1, 2, 3, 4, 5, 6, 8, 9, 10, 11, 12, 13, 7] rfl
  have hD : va_D (fun q : Nat => s.heap.size ≤ q) (gcW aG kG f1 f2 dr cl tr se (nI g) (nI r) inf (nI ct) ++ (gmW aM kM f1 f2 of ro23 fa24 0 (nI g) (nI r) (-1) (-1) ++ ([(oa, .inl (ok, 1, .inr (.inl (vp_updL ou 0 ((gStp dr g wa wb).toInt64)))))]))) := hD.sub [0, 1, 2, 3, 4, 5, 6, 8, 9, 10, 11, 12, 13, 7] (by decide) rfl
  have hsteps : r2 = di K wa wb ∧ ((fo K wa wb = true ∧ ∃ n, n < 20 ∧ di K wa wb = nI n ∧ rk K n wa wb) ∨ (fo K wa wb = false ∧ di K wa wb = -1)) := hw
  clear hz1 hk1 ht hvm hP1 hD1 hFc hDc
  clear hPc hKc
  refine gc_topi (y := di K wa wb) (hsteps.1) ?_
  refine lv_istore (lv' := [(6, .int (di K wa wb)), (5, .int 0), (4, .int (nI (3 * jj))), (0, .ref b), (1, .ref (aG 0)), (2, .ref (aM 0)), (3, .ref oa)]) hx hb dL_law_537 hl (by decide) rfl (fun ls hl => ?_)
  refine lv_aload_n hx hb dL_law_539 rfl (lv_at hl 5 rfl) ?_
  have hPc : va_P (dC, dI) vwCl (gmW aM kM f1 f2 of ro23 fa24 0 (nI g) (nI r) (-1) (-1)) _ := hP.sub [7, 8, 9, 10, 11, 12] rfl
  have hKc : va_K (dC, dI) vwCl (gmT kM) s := hK.sub [6, 7, 8, 9, 10] rfl
  refine va_calli (va_runV (As := []) (rest := []) ⟨hx, hb, hml, hown, hts⟩ (c_X1_thrown l dC dI aM kM f1 f2 of ro23 fa24 0 g r (-1) (-1)) (cwV 0 hts gL_law_X1_thrown rfl rfl rfl (by decide +kernel) ⟨Nat.le_of_ble_eq_true rfl, Nat.le_of_ble_eq_true rfl⟩) ⟨gcPR_blind, va_recv hK hP (ci := 1) (q0 := 7) rfl rfl, fun U hU hW => ⟨rfl, by rw [hU]; exact hPc, va_K.moved hW.alike hKc⟩⟩ rfl rfl hl.1 rfl (lv_room (Nat.le_of_ble_eq_true rfl)) dL_law_540 ⟨show 14 + jj + 0 + 0 + 0 ≤ 1046 by omega, show 1295 + 6 * jj + 0 + 0 + 0 ≤ 9535 by omega⟩) hS (fun q _ h => h.elim) (fun q h => h.elim) (fun r5 u t H locs ht hvm hw hB hz1 hk1 hS => ?_)
  have hP := gc_keep hP hk1
  have hw : r5 = 0 := hw
  subst hw
  clear hw
  clear hB hz1 hk1 ht hvm
  clear hPc hKc
  refine lv_iload hx hb dL_law_543 (lv_at hl 1 rfl) ?_
  refine lv_icmp_eq (tgt := 550) hx hb dL_law_545 (by decide) (fun c_545 => ?_) (fun c_545 => absurd rfl c_545)
  refine lv_iload hx hb dL_law_550 (lv_at hl 1 rfl) ?_
  refine lv_if_ne (tgt := 567) hx hb dL_law_552 (by decide) (fun c_552 => ?_) (fun c_552 => ?_)
  · skip
    exact absurd (by decide) c_552
  · skip
    refine lv_aload_n hx hb dL_law_555 rfl (lv_at hl 6 rfl) ?_
    refine lv_iconst (v := 0) hx hb dL_law_556 (by decide) ?_
    refine va_lald hx hb hKd hP 13 11 rfl rfl gc_in01 dL_law_557 ?_
    refine gc_topl (y := ((gStp dr g wa wb).toInt64)) (by rw [sb_cl0]; exact pk_uLs) ?_
    refine gc_topl (y := (di K wa wb).toInt64) (by rw [steps_eq hg10 hKg hDr ha hb2 hsteps.2]) ?_
    refine lv_iload hx hb dL_law_558 (lv_at hl 0 rfl) ?_
    refine lv_i2l hx hb dL_law_560 rfl ?_
    refine W.lcmp hx hb dL_law_561 ?_
    refine gc_topi (y := 0) ((lg_cmp_eq _ _).mpr rfl) ?_
    refine lv_if_eq (tgt := 567) hx hb dL_law_562 (by decide) (fun c_562 => ?_) (fun c_562 => ?_)
    · skip
      refine lv_goto (tgt := 951) hx hb dL_law_567 (by decide) ?_
      refine lv_iinc (v := nI (3 * (jj + 1))) (lv' := [(4, .int (nI (3 * (jj + 1)))), (6, .int (di K wa wb)), (5, .int 0), (0, .ref b), (1, .ref (aG 0)), (2, .ref (aM 0)), (3, .ref oa)]) hx hb dL_law_951 hl (k := 2) rfl (nI_3 jj) (by decide) rfl (fun ls hl => ?_)
      refine lv_goto (tgt := 23) hx hb dL_law_954 (by decide) ?_
      refine W.widen (k := 14 + (jj + 1)) (n := 1295 + 6 * (jj + 1)) (by omega) (by omega) ?_
      exact ih d H _ ls hd ⟨K, g, r, f1, f2, dr, cl, tr, se, inf, ct, of, ro23, fa24, 0, (vp_updL ou 0 ((gStp dr g wa wb).toInt64)), hI, hP, hD, hS, lv_sub hl [0, 3, 4, 5, 6] rfl⟩
    · skip
      exact absurd (by decide) c_562
set_option maxHeartbeats 4000000 in
set_option maxRecDepth 100000 in
theorem law_6x {p : Program} {e : Env} {s : State} {m : MethodId} {below : List Frame} {meth : Method} {c : Code} (l : Launch) (hgl : l.stackTraces = false) {b L : Nat} {xs : Nat → Int32} (hL : L ≤ 1536) (C0 : lw_At p s m meth c b L xs) {dC : Nat → ClassId} {dI : Nat → Nat → Nat} {aG : Nat → Nat} {kG : Nat → ClassId} {aM : Nat → Nat} {kM : Nat → ClassId} {oa : Nat} {ok : ClassId} (hK : va_K (dC, dI) vwCl (gcT kG ++ (gmT kM ++ ([(ok, .long)]))) s) (hXA : gcXA (fun q : Nat => s.heap.size ≤ q) s) {jj : Nat} (hj : 3 * jj + 3 ≤ L) {d : Drawn} (hd : s.drawn.sameBut d lw_cs) {K : Bk} {g r : Nat} {f1 f2 dr cl tr se : Nat → Int32} {inf : Int32} {ct : Nat} {of ro fa : Nat → Int32} {th : Int32} {ou : Nat → Int64} (hI : Inv K g r f1 f2 inf dr cl se ct of) {H : Heap} {locs : List Loc} {ls : Array Slot} (hP : va_P (dC, dI) vwCl (gcW aG kG f1 f2 dr cl tr se (nI g) (nI r) inf (nI ct) ++ (gmW aM kM f1 f2 of ro fa th (nI g) (nI r) (-1) (-1) ++ ([(oa, .inl (ok, 1, .inr (.inl ou)))]))) H) (hD : va_D (fun q : Nat => s.heap.size ≤ q) (gcW aG kG f1 f2 dr cl tr se (nI g) (nI r) inf (nI ct) ++ (gmW aM kM f1 f2 of ro fa th (nI g) (nI r) (-1) (-1) ++ ([(oa, .inl (ok, 1, .inr (.inl ou)))])))) (hS : va_S (fun q : Nat => s.heap.size ≤ q) s.heap H locs) (hl : lv_has ls 9 [(4, .int (nI (3 * jj))), (0, .ref b), (1, .ref (aG 0)), (2, .ref (aM 0)), (3, .ref oa)]) (ih : ∀ (d1 : Drawn) (H1 : Heap) (locs1 : List Loc) (ls1 : Array Slot), s.drawn.sameBut d1 lw_cs → LSt dC dI s b aG kG aM kM oa ok (jj + 1) H1 locs1 ls1 → W p l e room_1 (s.setDrawn d1) m #[Value.ref b] below meth c H1 locs1 (14 + (jj + 1)) (1295 + 6 * (jj + 1)) (lw_Z below #[Value.ref b] s) (F0 m 23 ls1 [])) (hno : (∀ q : Nat, q < 2 * g → xs (3 * jj + 1) ≠ nI q) ∨ ∀ q : Nat, q < 2 * g → xs (3 * jj + 2) ≠ nI q) : W p l e room_1 (s.setDrawn d) m #[Value.ref b] below meth c H locs (14 + jj) (1295 + 6 * jj) (lw_Z below #[Value.ref b] s) (F0 m 502 ls []) := by
  obtain ⟨hx, hb, hr, hml, hown, hts0, hX, hbl, hlocks, hgv⟩ := C0
  have hown : s.vm.findClass RL = some m.cls := hown
  have hts1 : ∀ w ∈ wsL_law, w.before #[Value.ref b] s = true := fun w h => hts0 w (wsL_law_in w h)
  have hts := dr_words hts1 d
  have hA : ∀ q : Nat, s.heap.size ≤ q → (fun q : Nat => s.heap.size ≤ q) q := fun _ h => h
  have hbA : ¬ (fun q : Nat => s.heap.size ≤ q) b := Nat.not_le.mpr hbl
  obtain ⟨hg10, hr30, hOK, hz, hBk, hof, hDr, hCl, s0, hse, hct⟩ := id hI
  have hKd : va_K (dC, dI) vwCl (gcT kG ++ (gmT kM ++ ([(ok, .long)]))) (s.setDrawn d) := hK
  have hXd : va_X b L xs (s.setDrawn d) s.heap := hX
  have hKg := gOK_Kg hOK
  have hKr : K.1 ≤ 30 := by rw [hOK.1]; exact hr30
  have hLF : LF K g se ct := by rw [hse, hct]; exact LF_of hg10 hKg hCl s0
  have hc1024 : ct ≤ 1024 := hLF.2
  have hft : gFt cl g = decide (0 < ct) := by rw [hct]; exact ft_pos hg10 hKg hCl s0
  refine lv_aload_n hx hb dL_law_502 rfl (lv_at hl 2 rfl) ?_
  refine lv_aload_n hx hb dL_law_503 rfl (lv_at hl 1 rfl) ?_
  refine lv_iload hx hb dL_law_504 (lv_at hl 0 rfl) ?_
  refine lv_iconst (v := 1) hx hb dL_law_506 (by decide) ?_
  refine lv_iadd hx hb dL_law_507 ?_
  refine gc_topi (y := nI (3 * jj + 1)) (nI_add (3 * jj) 1) ?_
  refine va_sld hx hb hXd hbl hbA hS (vp_in_nI (n := (3 * jj + 1)) (by omega) (by omega)) dL_law_508 ?_
  rw [nI_clamp (n := (3 * jj + 1)) (by omega)]
  refine lv_aload_n hx hb dL_law_509 rfl (lv_at hl 1 rfl) ?_
  refine lv_iload hx hb dL_law_510 (lv_at hl 0 rfl) ?_
  refine lv_iconst (v := 2) hx hb dL_law_512 (by decide) ?_
  refine lv_iadd hx hb dL_law_513 ?_
  refine gc_topi (y := nI (3 * jj + 2)) (nI_add (3 * jj) 2) ?_
  refine va_sld hx hb hXd hbl hbA hS (vp_in_nI (n := (3 * jj + 2)) (by omega) (by omega)) dL_law_514 ?_
  rw [nI_clamp (n := (3 * jj + 2)) (by omega)]
  refine lv_aload_n hx hb dL_law_515 rfl (lv_at hl 4 rfl) ?_
  have hPc : va_P (dC, dI) vwCl (gcW aG kG f1 f2 dr cl tr se (nI g) (nI r) inf (nI ct) ++ ([(oa, .inl (ok, 1, .inr (.inl ou)))])) _ := hP.sub [0, 1, 2, 3, 4, 5, 6, 13] rfl
  have hKc : va_K (dC, dI) vwCl (gcT kG ++ ([(ok, .long)])) s := hK.sub [0, 1, 2, 3, 4, 5, 11] rfl
  have hDc : va_D (fun q : Nat => s.heap.size ≤ q) (gcW aG kG f1 f2 dr cl tr se (nI g) (nI r) inf (nI ct) ++ ([(oa, .inl (ok, 1, .inr (.inl ou)))])) := hD.sub [0, 1, 2, 3, 4, 5, 6, 13] (by decide) rfl
  have hFc := va_free (wc := (gcW aG kG f1 f2 dr cl tr se (nI g) (nI r) inf (nI ct) ++ ([(oa, .inl (ok, 1, .inr (.inl ou)))]))) hD hS hA [0, 1, 2, 3, 4, 5, 6, 13] rfl
  refine va_calli (vx_runSW (As := [.ref (aG 0), .int (xs (3 * jj + 1)), .int (xs (3 * jj + 2)), .ref oa]) (rest := []) ⟨hx, hb, hml, hown, hts⟩ (wx_steps l hgl dC dI aG kG f1 f2 dr cl tr se g r inf ct oa ok ou (xs (3 * jj + 1)) (xs (3 * jj + 2)) H.size (by first | assumption | omega) (by first | exact hno | exact Or.inl hno | exact Or.inr hno)) (vx_cwSW 4 hts gL_law_L_steps rfl rfl rfl (by decide +kernel) ⟨Nat.le_of_ble_eq_true rfl, Nat.le_of_ble_eq_true rfl⟩) ⟨gcPN_blind, fun U hU hW => ⟨rfl, by rw [hU], by rw [hU]; exact hPc, va_K.moved hW.alike hKc, hDc.weaken (fun _ _ _ _ => trivial), gcXA_go hXA hS hU hW⟩⟩ rfl rfl hl.1 rfl (lv_room (Nat.le_of_ble_eq_true rfl)) dL_law_516 ⟨show 14 + jj + 1 ≤ 1046 by omega, show 1295 + 6 * jj + 6 ≤ 9535 by omega⟩) hS (fun q _ h => hFc q h) hFc (fun r1 u t H locs ht hvm hw hB hz1 hk1 hS => ?_)
  obtain ⟨hP1, hD1⟩ := hB
  rw [ht] at hP1
  obtain ⟨hP, hD⟩ := va_join (wr := [(aM 0, .inr (1, [.int th, .int (nI g), .int (nI r), .ref (aM 1), .ref (aM 2), .ref (aM 3), .int (-1), .int (-1), .ref (aM 4), .ref (aM 5)])), (aM 1, .inl (kM 1, 30, .inl f1)), (aM 2, .inl (kM 2, 30, .inl f2)), (aM 3, .inl (kM 3, 30, .inl of)), (aM 4, .inl (kM 4, 20, .inl ro)), (aM 5, .inl (kM 5, 20, .inl fa))]) (w1 := (gcW aG kG f1 f2 dr cl tr se (nI g) (nI r) inf (nI ct) ++ ([(oa, .inl (ok, 1, .inr (.inl ou)))]))) hP hD [0, 1, 2, 3, 4, 5, 6, 13] [7, 8, 9, 10, 11, 12] rfl rfl (by decide) (by decide) hk1 hFc hP1 hD1
  have hP : va_P (dC, dI) vwCl (gcW aG kG f1 f2 dr cl tr se (nI g) (nI r) inf (nI ct) ++ (gmW aM kM f1 f2 of ro fa th (nI g) (nI r) (-1) (-1) ++ ([(oa, .inl (ok, 1, .inr (.inl ou)))]))) H := hP.sub [6, 7, 8, 9, 10, 11, 12, 0, 1, 2, 3, 4, 5, 13] rfl
  have hD : va_D (fun q : Nat => s.heap.size ≤ q) (gcW aG kG f1 f2 dr cl tr se (nI g) (nI r) inf (nI ct) ++ (gmW aM kM f1 f2 of ro fa th (nI g) (nI r) (-1) (-1) ++ ([(oa, .inl (ok, 1, .inr (.inl ou)))]))) := hD.sub [6, 7, 8, 9, 10, 11, 12, 0, 1, 2, 3, 4, 5, 13] (by decide) rfl
  have hw : r1 = 1 := hw
  subst hw
  clear hw
  clear hz1 hk1 ht hvm hP1 hD1 hFc hDc
  clear hPc hKc
  refine lv_istore (lv' := [(5, .int 1), (4, .int (nI (3 * jj))), (0, .ref b), (1, .ref (aG 0)), (2, .ref (aM 0)), (3, .ref oa)]) hx hb dL_law_519 hl (by decide) rfl (fun ls hl => ?_)
  refine lv_aload_n hx hb dL_law_521 rfl (lv_at hl 4 rfl) ?_
  refine lv_aload_n hx hb dL_law_522 rfl (lv_at hl 2 rfl) ?_
  refine lv_iload hx hb dL_law_523 (lv_at hl 1 rfl) ?_
  refine lv_iconst (v := 1) hx hb dL_law_525 (by decide) ?_
  refine lv_iadd hx hb dL_law_526 ?_
  refine gc_topi (y := nI (3 * jj + 1)) (nI_add (3 * jj) 1) ?_
  refine va_sld hx hb hXd hbl hbA hS (vp_in_nI (n := (3 * jj + 1)) (by omega) (by omega)) dL_law_527 ?_
  rw [nI_clamp (n := (3 * jj + 1)) (by omega)]
  refine lv_aload_n hx hb dL_law_528 rfl (lv_at hl 2 rfl) ?_
  refine lv_iload hx hb dL_law_529 (lv_at hl 1 rfl) ?_
  refine lv_iconst (v := 2) hx hb dL_law_531 (by decide) ?_
  refine lv_iadd hx hb dL_law_532 ?_
  refine gc_topi (y := nI (3 * jj + 2)) (nI_add (3 * jj) 2) ?_
  refine va_sld hx hb hXd hbl hbA hS (vp_in_nI (n := (3 * jj + 2)) (by omega) (by omega)) dL_law_533 ?_
  rw [nI_clamp (n := (3 * jj + 2)) (by omega)]
  have hPc : va_P (dC, dI) vwCl (gmW aM kM f1 f2 of ro fa th (nI g) (nI r) (-1) (-1)) _ := hP.sub [7, 8, 9, 10, 11, 12] rfl
  have hKc : va_K (dC, dI) vwCl (gmT kM) s := hK.sub [6, 7, 8, 9, 10] rfl
  have hDc : va_D (fun q : Nat => s.heap.size ≤ q) (gmW aM kM f1 f2 of ro fa th (nI g) (nI r) (-1) (-1)) := hD.sub [7, 8, 9, 10, 11, 12] (by decide) rfl
  have hFc := va_free (wc := (gmW aM kM f1 f2 of ro fa th (nI g) (nI r) (-1) (-1))) hD hS hA [7, 8, 9, 10, 11, 12] rfl
  refine va_calli (va_runV (As := [.int (xs (3 * jj + 1)), .int (xs (3 * jj + 2))]) (rest := []) ⟨hx, hb, hml, hown, hts⟩ (c_X1_steps_no l dC dI aM kM f1 f2 of ro fa th g r (-1) (-1) (xs (3 * jj + 1)) (xs (3 * jj + 2)) H.size (by first | assumption | omega) (by first | exact hno | exact Or.inl hno | exact Or.inr hno)) (cwV 2 hts gL_law_X1_steps rfl rfl rfl (by decide +kernel) ⟨Nat.le_of_ble_eq_true rfl, Nat.le_of_ble_eq_true rfl⟩) ⟨gcPM_blind, va_recv hK hP (ci := 1) (q0 := 7) rfl rfl, fun U hU hW => ⟨rfl, by rw [hU], by rw [hU]; exact hPc, va_K.moved hW.alike hKc, hDc.weaken (fun _ _ _ _ => trivial)⟩⟩ rfl rfl hl.1 rfl (lv_room (Nat.le_of_ble_eq_true rfl)) dL_law_534 ⟨show 14 + jj + 1 + 0 ≤ 1046 by omega, show 1295 + 6 * jj + 6 + 0 ≤ 9535 by omega⟩) hS (fun q _ h => hFc q h) hFc (fun r2 u t H locs ht hvm hw hB hz1 hk1 hS => ?_)
  obtain ⟨hP1, hD1⟩ := hB
  rw [ht] at hP1
  obtain ⟨hP, hD⟩ := va_join (wr := [(aG 0, .inr (0, [.ref (aG 1), .ref (aG 2), .ref (aG 3), .ref (aG 4), .ref (aG 5), .ref (aG 6), .int (nI g), .int (nI r), .int inf, .int (nI ct)])), (aG 1, .inl (kG 1, 30, .inl f1)), (aG 2, .inl (kG 2, 30, .inl f2)), (aG 3, .inl (kG 3, 20, .inl dr)), (aG 4, .inl (kG 4, 20, .inl cl)), (aG 5, .inl (kG 5, 20, .inl tr)), (aG 6, .inl (kG 6, 1024, .inl se)), (oa, .inl (ok, 1, .inr (.inl ou)))]) (w1 := (gmW aM kM f1 f2 of ro fa 1 (nI g) (nI r) (-1) (-1))) hP hD [7, 8, 9, 10, 11, 12] [0, 1, 2, 3, 4, 5, 6, 13] rfl rfl (by decide) (by decide) hk1 hFc hP1 hD1
  have hP : va_P (dC, dI) vwCl (gcW aG kG f1 f2 dr cl tr se (nI g) (nI r) inf (nI ct) ++ (gmW aM kM f1 f2 of ro fa 1 (nI g) (nI r) (-1) (-1) ++ ([(oa, .inl (ok, 1, .inr (.inl ou)))]))) H := hP.sub [0, 1, 2, 3, 4, 5, 6, 8, 9, 10, 11, 12, 13, 7] rfl
  have hD : va_D (fun q : Nat => s.heap.size ≤ q) (gcW aG kG f1 f2 dr cl tr se (nI g) (nI r) inf (nI ct) ++ (gmW aM kM f1 f2 of ro fa 1 (nI g) (nI r) (-1) (-1) ++ ([(oa, .inl (ok, 1, .inr (.inl ou)))]))) := hD.sub [0, 1, 2, 3, 4, 5, 6, 8, 9, 10, 11, 12, 13, 7] (by decide) rfl
  have hw_534 : True := hw
  clear hz1 hk1 ht hvm hP1 hD1 hFc hDc
  clear hPc hKc
  refine lv_istore (lv' := [(6, .int r2), (5, .int 1), (4, .int (nI (3 * jj))), (0, .ref b), (1, .ref (aG 0)), (2, .ref (aM 0)), (3, .ref oa)]) hx hb dL_law_537 hl (by decide) rfl (fun ls hl => ?_)
  refine lv_aload_n hx hb dL_law_539 rfl (lv_at hl 5 rfl) ?_
  have hPc : va_P (dC, dI) vwCl (gmW aM kM f1 f2 of ro fa 1 (nI g) (nI r) (-1) (-1)) _ := hP.sub [7, 8, 9, 10, 11, 12] rfl
  have hKc : va_K (dC, dI) vwCl (gmT kM) s := hK.sub [6, 7, 8, 9, 10] rfl
  refine va_calli (va_runV (As := []) (rest := []) ⟨hx, hb, hml, hown, hts⟩ (c_X1_thrown l dC dI aM kM f1 f2 of ro fa 1 g r (-1) (-1)) (cwV 0 hts gL_law_X1_thrown rfl rfl rfl (by decide +kernel) ⟨Nat.le_of_ble_eq_true rfl, Nat.le_of_ble_eq_true rfl⟩) ⟨gcPR_blind, va_recv hK hP (ci := 1) (q0 := 7) rfl rfl, fun U hU hW => ⟨rfl, by rw [hU]; exact hPc, va_K.moved hW.alike hKc⟩⟩ rfl rfl hl.1 rfl (lv_room (Nat.le_of_ble_eq_true rfl)) dL_law_540 ⟨show 14 + jj + 1 + 0 + 0 ≤ 1046 by omega, show 1295 + 6 * jj + 6 + 0 + 0 ≤ 9535 by omega⟩) hS (fun q _ h => h.elim) (fun q h => h.elim) (fun r3 u t H locs ht hvm hw hB hz1 hk1 hS => ?_)
  have hP := gc_keep hP hk1
  have hw : r3 = 1 := hw
  subst hw
  clear hw
  clear hB hz1 hk1 ht hvm
  clear hPc hKc
  refine lv_iload hx hb dL_law_543 (lv_at hl 1 rfl) ?_
  refine lv_icmp_eq (tgt := 550) hx hb dL_law_545 (by decide) (fun c_545 => ?_) (fun c_545 => absurd rfl c_545)
  refine lv_iload hx hb dL_law_550 (lv_at hl 1 rfl) ?_
  refine lv_if_ne (tgt := 567) hx hb dL_law_552 (by decide) (fun c_552 => ?_) (fun c_552 => ?_)
  · skip
    refine lv_goto (tgt := 951) hx hb dL_law_567 (by decide) ?_
    refine lv_iinc (v := nI (3 * (jj + 1))) (lv' := [(4, .int (nI (3 * (jj + 1)))), (6, .int r2), (5, .int 1), (0, .ref b), (1, .ref (aG 0)), (2, .ref (aM 0)), (3, .ref oa)]) hx hb dL_law_951 hl (k := 2) rfl (nI_3 jj) (by decide) rfl (fun ls hl => ?_)
    refine lv_goto (tgt := 23) hx hb dL_law_954 (by decide) ?_
    refine W.widen (k := 14 + (jj + 1)) (n := 1295 + 6 * (jj + 1)) (by omega) (by omega) ?_
    exact ih d H _ ls hd ⟨K, g, r, f1, f2, dr, cl, tr, se, inf, ct, of, ro, fa, 1, ou, hI, hP, hD, hS, lv_sub hl [0, 3, 4, 5, 6] rfl⟩
  · skip
    exact absurd c_552 (by decide)
