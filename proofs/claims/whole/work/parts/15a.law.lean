/-! THE LAW, CALL BY CALL. -/
def LSt (dC : Nat → ClassId) (dI : Nat → Nat → Nat) (s : State) (b : Nat) (aG : Nat → Nat) (kG : Nat → ClassId) (aM : Nat → Nat) (kM : Nat → ClassId) (oa : Nat) (ok : ClassId) (j : Nat) (H : Heap) (locs : List Loc) (ls : Array Slot) : Prop :=
  ∃ (K : Bk) (g r : Nat) (f1 f2 dr cl tr se : Nat → Int32) (inf : Int32) (ct : Nat) (of ro fa : Nat → Int32) (th : Int32) (ou : Nat → Int64), Inv K g r f1 f2 inf dr cl se ct of ∧ va_P (dC, dI) vwCl (gcW aG kG f1 f2 dr cl tr se (nI g) (nI r) inf (nI ct) ++ (gmW aM kM f1 f2 of ro fa th (nI g) (nI r) (-1) (-1) ++ ([(oa, .inl (ok, 1, .inr (.inl ou)))]))) H ∧ va_D (fun q : Nat => s.heap.size ≤ q) (gcW aG kG f1 f2 dr cl tr se (nI g) (nI r) inf (nI ct) ++ (gmW aM kM f1 f2 of ro fa th (nI g) (nI r) (-1) (-1) ++ ([(oa, .inl (ok, 1, .inr (.inl ou)))]))) ∧ va_S (fun q : Nat => s.heap.size ≤ q) s.heap H locs ∧ lv_has ls 9 [(4, .int (nI (3 * j))), (0, .ref b), (1, .ref (aG 0)), (2, .ref (aM 0)), (3, .ref oa)]
set_option maxHeartbeats 4000000 in
set_option maxRecDepth 100000 in
theorem law_0 {p : Program} {e : Env} {s : State} {m : MethodId} {below : List Frame} {meth : Method} {c : Code} (l : Launch) (hgl : l.stackTraces = false) {b L : Nat} {xs : Nat → Int32} (hL : L ≤ 1536) (C0 : lw_At p s m meth c b L xs) {dC : Nat → ClassId} {dI : Nat → Nat → Nat} {aG : Nat → Nat} {kG : Nat → ClassId} {aM : Nat → Nat} {kM : Nat → ClassId} {oa : Nat} {ok : ClassId} (hK : va_K (dC, dI) vwCl (gcT kG ++ (gmT kM ++ ([(ok, .long)]))) s) (hXA : gcXA (fun q : Nat => s.heap.size ≤ q) s) {jj : Nat} (hj : 3 * jj + 3 ≤ L) {d : Drawn} (hd : s.drawn.sameBut d lw_cs) {K : Bk} {g r : Nat} {f1 f2 dr cl tr se : Nat → Int32} {inf : Int32} {ct : Nat} {of ro fa : Nat → Int32} {th : Int32} {ou : Nat → Int64} (hI : Inv K g r f1 f2 inf dr cl se ct of) {H : Heap} {locs : List Loc} {ls : Array Slot} (hP : va_P (dC, dI) vwCl (gcW aG kG f1 f2 dr cl tr se (nI g) (nI r) inf (nI ct) ++ (gmW aM kM f1 f2 of ro fa th (nI g) (nI r) (-1) (-1) ++ ([(oa, .inl (ok, 1, .inr (.inl ou)))]))) H) (hD : va_D (fun q : Nat => s.heap.size ≤ q) (gcW aG kG f1 f2 dr cl tr se (nI g) (nI r) inf (nI ct) ++ (gmW aM kM f1 f2 of ro fa th (nI g) (nI r) (-1) (-1) ++ ([(oa, .inl (ok, 1, .inr (.inl ou)))])))) (hS : va_S (fun q : Nat => s.heap.size ≤ q) s.heap H locs) (hl : lv_has ls 9 [(4, .int (nI (3 * jj))), (0, .ref b), (1, .ref (aG 0)), (2, .ref (aM 0)), (3, .ref oa)]) (ih : ∀ (d1 : Drawn) (H1 : Heap) (locs1 : List Loc) (ls1 : Array Slot), s.drawn.sameBut d1 lw_cs → LSt dC dI s b aG kG aM kM oa ok (jj + 1) H1 locs1 ls1 → W p l e room_1 (s.setDrawn d1) m #[Value.ref b] below meth c H1 locs1 (14 + (jj + 1)) (1295 + 6 * (jj + 1)) (lw_Z below #[Value.ref b] s) (F0 m 23 ls1 [])) (hg9 : g < 10) : W p l e room_1 (s.setDrawn d) m #[Value.ref b] below meth c H locs (14 + jj) (1295 + 6 * jj) (lw_Z below #[Value.ref b] s) (F0 m 128 ls []) := by
  obtain ⟨hx, hb, hr, hml, hown, hts0, hX, hbl, hlocks, hgv⟩ := C0
  have hown : s.vm.findClass RL = some m.cls := hown
  have hts1 : ∀ w ∈ wsL_law, w.before #[Value.ref b] s = true := fun w h => hts0 w (wsL_law_in w h)
  have hts := dr_words hts1 d
  have hA : ∀ q : Nat, s.heap.size ≤ q → (fun q : Nat => s.heap.size ≤ q) q := fun _ h => h
  have hbA : ¬ (fun q : Nat => s.heap.size ≤ q) b := Nat.not_le.mpr hbl
  obtain ⟨hg10, hr30, hOK, hz, hBk, hof, hDr, hCl, s0, hse, hct⟩ := id hI
  have hKd : va_K (dC, dI) vwCl (gcT kG ++ (gmT kM ++ ([(ok, .long)]))) (s.setDrawn d) := hK
  have hXd : va_X b L xs (s.setDrawn d) s.heap := hX
  have hKg := gOK_Kg hOK
  have hKr : K.1 ≤ 30 := by rw [hOK.1]; exact hr30
  have hLF : LF K g se ct := by rw [hse, hct]; exact LF_of hg10 hKg hCl s0
  have hc1024 : ct ≤ 1024 := hLF.2
  have hft : gFt cl g = decide (0 < ct) := by rw [hct]; exact ft_pos hg10 hKg hCl s0
  refine lv_aload_n hx hb dL_law_128 rfl (lv_at hl 2 rfl) ?_
  refine lv_aload_n hx hb dL_law_129 rfl (lv_at hl 4 rfl) ?_
  have hPc : va_P (dC, dI) vwCl (gcW aG kG f1 f2 dr cl tr se (nI g) (nI r) inf (nI ct) ++ ([(oa, .inl (ok, 1, .inr (.inl ou)))])) _ := hP.sub [0, 1, 2, 3, 4, 5, 6, 13] rfl
  have hKc : va_K (dC, dI) vwCl (gcT kG ++ ([(ok, .long)])) s := hK.sub [0, 1, 2, 3, 4, 5, 11] rfl
  have hDc : va_D (fun q : Nat => s.heap.size ≤ q) (gcW aG kG f1 f2 dr cl tr se (nI g) (nI r) inf (nI ct) ++ ([(oa, .inl (ok, 1, .inr (.inl ou)))])) := hD.sub [0, 1, 2, 3, 4, 5, 6, 13] (by decide) rfl
  have hFc := va_free (wc := (gcW aG kG f1 f2 dr cl tr se (nI g) (nI r) inf (nI ct) ++ ([(oa, .inl (ok, 1, .inr (.inl ou)))]))) hD hS hA [0, 1, 2, 3, 4, 5, 6, 13] rfl
  refine va_calli (vx_runSW (As := [.ref (aG 0), .ref oa]) (rest := []) ⟨hx, hb, hml, hown, hts⟩ (w_invite l dC dI aG kG f1 f2 dr cl tr se g r inf ct oa ok ou H.size (by first | assumption | omega) (by first | assumption | omega)) (vx_cwSW 2 hts gL_law_L_invite rfl rfl rfl (by decide +kernel) ⟨Nat.le_of_ble_eq_true rfl, Nat.le_of_ble_eq_true rfl⟩) ⟨gcPM_blind, fun U hU hW => ⟨rfl, by rw [hU], by rw [hU]; exact hPc, va_K.moved hW.alike hKc, hDc.weaken (fun _ _ _ _ => trivial)⟩⟩ rfl rfl hl.1 rfl (lv_room (Nat.le_of_ble_eq_true rfl)) dL_law_130 ⟨show 14 + jj + 0 ≤ 1046 by omega, show 1295 + 6 * jj + 0 ≤ 9535 by omega⟩) hS (fun q _ h => hFc q h) hFc (fun r1 u t H locs ht hvm hw hB hz1 hk1 hS => ?_)
  obtain ⟨hP1, hD1⟩ := hB
  rw [ht] at hP1
  obtain ⟨hP, hD⟩ := va_join (wr := [(aM 0, .inr (1, [.int th, .int (nI g), .int (nI r), .ref (aM 1), .ref (aM 2), .ref (aM 3), .int (-1), .int (-1), .ref (aM 4), .ref (aM 5)])), (aM 1, .inl (kM 1, 30, .inl f1)), (aM 2, .inl (kM 2, 30, .inl f2)), (aM 3, .inl (kM 3, 30, .inl of)), (aM 4, .inl (kM 4, 20, .inl ro)), (aM 5, .inl (kM 5, 20, .inl fa))]) (w1 := (gcW aG kG f1 f2 (gLA f1 f2 inf (-1) r dr) (gCl (gLA f1 f2 inf (-1) r cl) 20) tr ((gLs (gCl (gLA f1 f2 inf (-1) r cl) 20) se (g + 1) (g + 1)).1) (nI (g + 1)) (nI r) inf (nI (gLs (gCl (gLA f1 f2 inf (-1) r cl) 20) se (g + 1) (g + 1)).2) ++ ([(oa, .inl (ok, 1, .inr (.inl (vp_updL ou 0 ((nI g).toInt64)))))]))) hP hD [0, 1, 2, 3, 4, 5, 6, 13] [7, 8, 9, 10, 11, 12] rfl rfl (by decide) (by decide) hk1 hFc hP1 hD1
  have hP : va_P (dC, dI) vwCl (gcW aG kG f1 f2 (gLA f1 f2 inf (-1) r dr) (gCl (gLA f1 f2 inf (-1) r cl) 20) tr ((gLs (gCl (gLA f1 f2 inf (-1) r cl) 20) se (g + 1) (g + 1)).1) (nI (g + 1)) (nI r) inf (nI (gLs (gCl (gLA f1 f2 inf (-1) r cl) 20) se (g + 1) (g + 1)).2) ++ (gmW aM kM f1 f2 of ro fa th (nI g) (nI r) (-1) (-1) ++ ([(oa, .inl (ok, 1, .inr (.inl (vp_updL ou 0 ((nI g).toInt64)))))]))) H := hP.sub [6, 7, 8, 9, 10, 11, 12, 0, 1, 2, 3, 4, 5, 13] rfl
  have hD : va_D (fun q : Nat => s.heap.size ≤ q) (gcW aG kG f1 f2 (gLA f1 f2 inf (-1) r dr) (gCl (gLA f1 f2 inf (-1) r cl) 20) tr ((gLs (gCl (gLA f1 f2 inf (-1) r cl) 20) se (g + 1) (g + 1)).1) (nI (g + 1)) (nI r) inf (nI (gLs (gCl (gLA f1 f2 inf (-1) r cl) 20) se (g + 1) (g + 1)).2) ++ (gmW aM kM f1 f2 of ro fa th (nI g) (nI r) (-1) (-1) ++ ([(oa, .inl (ok, 1, .inr (.inl (vp_updL ou 0 ((nI g).toInt64)))))]))) := hD.sub [6, 7, 8, 9, 10, 11, 12, 0, 1, 2, 3, 4, 5, 13] (by decide) rfl
  have hw : r1 = 0 := hw
  subst hw
  clear hw
  clear hz1 hk1 ht hvm hP1 hD1 hFc hDc
  clear hPc hKc
  refine lv_istore (lv' := [(5, .int 0), (4, .int (nI (3 * jj))), (0, .ref b), (1, .ref (aG 0)), (2, .ref (aM 0)), (3, .ref oa)]) hx hb dL_law_133 hl (by decide) rfl (fun ls hl => ?_)
  refine lv_aload_n hx hb dL_law_135 rfl (lv_at hl 4 rfl) ?_
  have hPc : va_P (dC, dI) vwCl (gmW aM kM f1 f2 of ro fa th (nI g) (nI r) (-1) (-1)) _ := hP.sub [7, 8, 9, 10, 11, 12] rfl
  have hKc : va_K (dC, dI) vwCl (gmT kM) s := hK.sub [6, 7, 8, 9, 10] rfl
  have hDc : va_D (fun q : Nat => s.heap.size ≤ q) (gmW aM kM f1 f2 of ro fa th (nI g) (nI r) (-1) (-1)) := hD.sub [7, 8, 9, 10, 11, 12] (by decide) rfl
  have hFc := va_free (wc := (gmW aM kM f1 f2 of ro fa th (nI g) (nI r) (-1) (-1))) hD hS hA [7, 8, 9, 10, 11, 12] rfl
  refine va_calli (va_runV (As := []) (rest := []) ⟨hx, hb, hml, hown, hts⟩ (c_X1_invite l dC dI aM kM f1 f2 of ro fa th g r (-1) (-1) H.size (by first | assumption | omega)) (cwV 0 hts gL_law_X1_invite rfl rfl rfl (by decide +kernel) ⟨Nat.le_of_ble_eq_true rfl, Nat.le_of_ble_eq_true rfl⟩) ⟨gcPM_blind, va_recv hK hP (ci := 1) (q0 := 7) rfl rfl, fun U hU hW => ⟨rfl, by rw [hU], by rw [hU]; exact hPc, va_K.moved hW.alike hKc, hDc.weaken (fun _ _ _ _ => trivial)⟩⟩ rfl rfl hl.1 rfl (lv_room (Nat.le_of_ble_eq_true rfl)) dL_law_136 ⟨show 14 + jj + 0 + 0 ≤ 1046 by omega, show 1295 + 6 * jj + 0 + 0 ≤ 9535 by omega⟩) hS (fun q _ h => hFc q h) hFc (fun r2 u t H locs ht hvm hw hB hz1 hk1 hS => ?_)
  obtain ⟨hP1, hD1⟩ := hB
  rw [ht] at hP1
  obtain ⟨hP, hD⟩ := va_join (wr := [(aG 0, .inr (0, [.ref (aG 1), .ref (aG 2), .ref (aG 3), .ref (aG 4), .ref (aG 5), .ref (aG 6), .int (nI (g + 1)), .int (nI r), .int inf, .int (nI (gLs (gCl (gLA f1 f2 inf (-1) r cl) 20) se (g + 1) (g + 1)).2)])), (aG 1, .inl (kG 1, 30, .inl f1)), (aG 2, .inl (kG 2, 30, .inl f2)), (aG 3, .inl (kG 3, 20, .inl (gLA f1 f2 inf (-1) r dr))), (aG 4, .inl (kG 4, 20, .inl (gCl (gLA f1 f2 inf (-1) r cl) 20))), (aG 5, .inl (kG 5, 20, .inl tr)), (aG 6, .inl (kG 6, 1024, .inl ((gLs (gCl (gLA f1 f2 inf (-1) r cl) 20) se (g + 1) (g + 1)).1))), (oa, .inl (ok, 1, .inr (.inl (vp_updL ou 0 ((nI g).toInt64)))))]) (w1 := (gmW aM kM f1 f2 of ro fa 0 (nI (g + 1)) (nI r) (-1) (-1))) hP hD [7, 8, 9, 10, 11, 12] [0, 1, 2, 3, 4, 5, 6, 13] rfl rfl (by decide) (by decide) hk1 hFc hP1 hD1
  have hP : va_P (dC, dI) vwCl (gcW aG kG f1 f2 (gLA f1 f2 inf (-1) r dr) (gCl (gLA f1 f2 inf (-1) r cl) 20) tr ((gLs (gCl (gLA f1 f2 inf (-1) r cl) 20) se (g + 1) (g + 1)).1) (nI (g + 1)) (nI r) inf (nI (gLs (gCl (gLA f1 f2 inf (-1) r cl) 20) se (g + 1) (g + 1)).2) ++ (gmW aM kM f1 f2 of ro fa 0 (nI (g + 1)) (nI r) (-1) (-1) ++ ([(oa, .inl (ok, 1, .inr (.inl (vp_updL ou 0 ((nI g).toInt64)))))]))) H := hP.sub [0, 1, 2, 3, 4, 5, 6, 8, 9, 10, 11, 12, 13, 7] rfl
  have hD : va_D (fun q : Nat => s.heap.size ≤ q) (gcW aG kG f1 f2 (gLA f1 f2 inf (-1) r dr) (gCl (gLA f1 f2 inf (-1) r cl) 20) tr ((gLs (gCl (gLA f1 f2 inf (-1) r cl) 20) se (g + 1) (g + 1)).1) (nI (g + 1)) (nI r) inf (nI (gLs (gCl (gLA f1 f2 inf (-1) r cl) 20) se (g + 1) (g + 1)).2) ++ (gmW aM kM f1 f2 of ro fa 0 (nI (g + 1)) (nI r) (-1) (-1) ++ ([(oa, .inl (ok, 1, .inr (.inl (vp_updL ou 0 ((nI g).toInt64)))))]))) := hD.sub [0, 1, 2, 3, 4, 5, 6, 8, 9, 10, 11, 12, 13, 7] (by decide) rfl
  have hw : r2 = nI g := hw
  subst hw
  clear hw
  clear hz1 hk1 ht hvm hP1 hD1 hFc hDc
  clear hPc hKc
  refine lv_istore (lv' := [(6, .int (nI g)), (5, .int 0), (4, .int (nI (3 * jj))), (0, .ref b), (1, .ref (aG 0)), (2, .ref (aM 0)), (3, .ref oa)]) hx hb dL_law_139 hl (by decide) rfl (fun ls hl => ?_)
  refine lv_aload_n hx hb dL_law_141 rfl (lv_at hl 5 rfl) ?_
  have hPc : va_P (dC, dI) vwCl (gmW aM kM f1 f2 of ro fa 0 (nI (g + 1)) (nI r) (-1) (-1)) _ := hP.sub [7, 8, 9, 10, 11, 12] rfl
  have hKc : va_K (dC, dI) vwCl (gmT kM) s := hK.sub [6, 7, 8, 9, 10] rfl
  refine va_calli (va_runV (As := []) (rest := []) ⟨hx, hb, hml, hown, hts⟩ (c_X1_thrown l dC dI aM kM f1 f2 of ro fa 0 (g + 1) r (-1) (-1)) (cwV 0 hts gL_law_X1_thrown rfl rfl rfl (by decide +kernel) ⟨Nat.le_of_ble_eq_true rfl, Nat.le_of_ble_eq_true rfl⟩) ⟨gcPR_blind, va_recv hK hP (ci := 1) (q0 := 7) rfl rfl, fun U hU hW => ⟨rfl, by rw [hU]; exact hPc, va_K.moved hW.alike hKc⟩⟩ rfl rfl hl.1 rfl (lv_room (Nat.le_of_ble_eq_true rfl)) dL_law_142 ⟨show 14 + jj + 0 + 0 + 0 ≤ 1046 by omega, show 1295 + 6 * jj + 0 + 0 + 0 ≤ 9535 by omega⟩) hS (fun q _ h => h.elim) (fun q h => h.elim) (fun r3 u t H locs ht hvm hw hB hz1 hk1 hS => ?_)
  have hP := gc_keep hP hk1
  have hw : r3 = 0 := hw
  subst hw
  clear hw
  clear hB hz1 hk1 ht hvm
  clear hPc hKc
  refine lv_iload hx hb dL_law_145 (lv_at hl 1 rfl) ?_
  refine lv_icmp_eq (tgt := 152) hx hb dL_law_147 (by decide) (fun c_147 => ?_) (fun c_147 => absurd rfl c_147)
  refine lv_iload hx hb dL_law_152 (lv_at hl 1 rfl) ?_
  refine lv_if_ne (tgt := 169) hx hb dL_law_154 (by decide) (fun c_154 => ?_) (fun c_154 => ?_)
  · skip
    exact absurd (by decide) c_154
  · skip
    refine lv_aload_n hx hb dL_law_157 rfl (lv_at hl 6 rfl) ?_
    refine lv_iconst (v := 0) hx hb dL_law_158 (by decide) ?_
    refine va_lald hx hb hKd hP 13 11 rfl rfl gc_in01 dL_law_159 ?_
    refine gc_topl (y := ((nI g).toInt64)) (by rw [sb_cl0]; exact pk_uLs) ?_
    refine lv_iload hx hb dL_law_160 (lv_at hl 0 rfl) ?_
    refine lv_i2l hx hb dL_law_162 rfl ?_
    refine W.lcmp hx hb dL_law_163 ?_
    refine gc_topi (y := 0) ((lg_cmp_eq _ _).mpr rfl) ?_
    refine lv_if_eq (tgt := 169) hx hb dL_law_164 (by decide) (fun c_164 => ?_) (fun c_164 => ?_)
    · skip
      refine lv_goto (tgt := 951) hx hb dL_law_169 (by decide) ?_
      refine lv_iinc (v := nI (3 * (jj + 1))) (lv' := [(4, .int (nI (3 * (jj + 1)))), (6, .int (nI g)), (5, .int 0), (0, .ref b), (1, .ref (aG 0)), (2, .ref (aM 0)), (3, .ref oa)]) hx hb dL_law_951 hl (k := 2) rfl (nI_3 jj) (by decide) rfl (fun ls hl => ?_)
      refine lv_goto (tgt := 23) hx hb dL_law_954 (by decide) ?_
      refine W.widen (k := 14 + (jj + 1)) (n := 1295 + 6 * (jj + 1)) (by omega) (by omega) ?_
      exact ih d H _ ls hd ⟨K, (g + 1), r, f1, f2, (gLA f1 f2 inf (-1) r dr), (gCl (gLA f1 f2 inf (-1) r cl) 20), tr, ((gLs (gCl (gLA f1 f2 inf (-1) r cl) 20) se (g + 1) (g + 1)).1), inf, ((gLs (gCl (gLA f1 f2 inf (-1) r cl) 20) se (g + 1) (g + 1)).2), of, ro, fa, 0, (vp_updL ou 0 ((nI g).toInt64)), Inv_invite hI hg9, hP, hD, hS, lv_sub hl [0, 3, 4, 5, 6] rfl⟩
    · skip
      exact absurd (by decide) c_164
set_option maxHeartbeats 4000000 in
set_option maxRecDepth 100000 in
theorem law_0x {p : Program} {e : Env} {s : State} {m : MethodId} {below : List Frame} {meth : Method} {c : Code} (l : Launch) (hgl : l.stackTraces = false) {b L : Nat} {xs : Nat → Int32} (hL : L ≤ 1536) (C0 : lw_At p s m meth c b L xs) {dC : Nat → ClassId} {dI : Nat → Nat → Nat} {aG : Nat → Nat} {kG : Nat → ClassId} {aM : Nat → Nat} {kM : Nat → ClassId} {oa : Nat} {ok : ClassId} (hK : va_K (dC, dI) vwCl (gcT kG ++ (gmT kM ++ ([(ok, .long)]))) s) (hXA : gcXA (fun q : Nat => s.heap.size ≤ q) s) {jj : Nat} (hj : 3 * jj + 3 ≤ L) {d : Drawn} (hd : s.drawn.sameBut d lw_cs) {K : Bk} {g r : Nat} {f1 f2 dr cl tr se : Nat → Int32} {inf : Int32} {ct : Nat} {of ro fa : Nat → Int32} {th : Int32} {ou : Nat → Int64} (hI : Inv K g r f1 f2 inf dr cl se ct of) {H : Heap} {locs : List Loc} {ls : Array Slot} (hP : va_P (dC, dI) vwCl (gcW aG kG f1 f2 dr cl tr se (nI g) (nI r) inf (nI ct) ++ (gmW aM kM f1 f2 of ro fa th (nI g) (nI r) (-1) (-1) ++ ([(oa, .inl (ok, 1, .inr (.inl ou)))]))) H) (hD : va_D (fun q : Nat => s.heap.size ≤ q) (gcW aG kG f1 f2 dr cl tr se (nI g) (nI r) inf (nI ct) ++ (gmW aM kM f1 f2 of ro fa th (nI g) (nI r) (-1) (-1) ++ ([(oa, .inl (ok, 1, .inr (.inl ou)))])))) (hS : va_S (fun q : Nat => s.heap.size ≤ q) s.heap H locs) (hl : lv_has ls 9 [(4, .int (nI (3 * jj))), (0, .ref b), (1, .ref (aG 0)), (2, .ref (aM 0)), (3, .ref oa)]) (ih : ∀ (d1 : Drawn) (H1 : Heap) (locs1 : List Loc) (ls1 : Array Slot), s.drawn.sameBut d1 lw_cs → LSt dC dI s b aG kG aM kM oa ok (jj + 1) H1 locs1 ls1 → W p l e room_1 (s.setDrawn d1) m #[Value.ref b] below meth c H1 locs1 (14 + (jj + 1)) (1295 + 6 * (jj + 1)) (lw_Z below #[Value.ref b] s) (F0 m 23 ls1 [])) (hg9 : g = 10) : W p l e room_1 (s.setDrawn d) m #[Value.ref b] below meth c H locs (14 + jj) (1295 + 6 * jj) (lw_Z below #[Value.ref b] s) (F0 m 128 ls []) := by
  obtain ⟨hx, hb, hr, hml, hown, hts0, hX, hbl, hlocks, hgv⟩ := C0
  have hown : s.vm.findClass RL = some m.cls := hown
  have hts1 : ∀ w ∈ wsL_law, w.before #[Value.ref b] s = true := fun w h => hts0 w (wsL_law_in w h)
  have hts := dr_words hts1 d
  have hA : ∀ q : Nat, s.heap.size ≤ q → (fun q : Nat => s.heap.size ≤ q) q := fun _ h => h
  have hbA : ¬ (fun q : Nat => s.heap.size ≤ q) b := Nat.not_le.mpr hbl
  obtain ⟨hg10, hr30, hOK, hz, hBk, hof, hDr, hCl, s0, hse, hct⟩ := id hI
  have hKd : va_K (dC, dI) vwCl (gcT kG ++ (gmT kM ++ ([(ok, .long)]))) (s.setDrawn d) := hK
  have hXd : va_X b L xs (s.setDrawn d) s.heap := hX
  have hKg := gOK_Kg hOK
  have hKr : K.1 ≤ 30 := by rw [hOK.1]; exact hr30
  have hLF : LF K g se ct := by rw [hse, hct]; exact LF_of hg10 hKg hCl s0
  have hc1024 : ct ≤ 1024 := hLF.2
  have hft : gFt cl g = decide (0 < ct) := by rw [hct]; exact ft_pos hg10 hKg hCl s0
  refine lv_aload_n hx hb dL_law_128 rfl (lv_at hl 2 rfl) ?_
  refine lv_aload_n hx hb dL_law_129 rfl (lv_at hl 4 rfl) ?_
  have hPc : va_P (dC, dI) vwCl (gcW aG kG f1 f2 dr cl tr se (nI g) (nI r) inf (nI ct) ++ ([(oa, .inl (ok, 1, .inr (.inl ou)))])) _ := hP.sub [0, 1, 2, 3, 4, 5, 6, 13] rfl
  have hKc : va_K (dC, dI) vwCl (gcT kG ++ ([(ok, .long)])) s := hK.sub [0, 1, 2, 3, 4, 5, 11] rfl
  have hDc : va_D (fun q : Nat => s.heap.size ≤ q) (gcW aG kG f1 f2 dr cl tr se (nI g) (nI r) inf (nI ct) ++ ([(oa, .inl (ok, 1, .inr (.inl ou)))])) := hD.sub [0, 1, 2, 3, 4, 5, 6, 13] (by decide) rfl
  have hFc := va_free (wc := (gcW aG kG f1 f2 dr cl tr se (nI g) (nI r) inf (nI ct) ++ ([(oa, .inl (ok, 1, .inr (.inl ou)))]))) hD hS hA [0, 1, 2, 3, 4, 5, 6, 13] rfl
  refine va_calli (vx_runSW (As := [.ref (aG 0), .ref oa]) (rest := []) ⟨hx, hb, hml, hown, hts⟩ (wx_invite l hgl dC dI aG kG f1 f2 dr cl tr se g r inf ct oa ok ou H.size (by first | assumption | omega)) (vx_cwSW 2 hts gL_law_L_invite rfl rfl rfl (by decide +kernel) ⟨Nat.le_of_ble_eq_true rfl, Nat.le_of_ble_eq_true rfl⟩) ⟨gcPN_blind, fun U hU hW => ⟨rfl, by rw [hU], by rw [hU]; exact hPc, va_K.moved hW.alike hKc, hDc.weaken (fun _ _ _ _ => trivial), gcXA_go hXA hS hU hW⟩⟩ rfl rfl hl.1 rfl (lv_room (Nat.le_of_ble_eq_true rfl)) dL_law_130 ⟨show 14 + jj + 1 ≤ 1046 by omega, show 1295 + 6 * jj + 6 ≤ 9535 by omega⟩) hS (fun q _ h => hFc q h) hFc (fun r1 u t H locs ht hvm hw hB hz1 hk1 hS => ?_)
  obtain ⟨hP1, hD1⟩ := hB
  rw [ht] at hP1
  obtain ⟨hP, hD⟩ := va_join (wr := [(aM 0, .inr (1, [.int th, .int (nI g), .int (nI r), .ref (aM 1), .ref (aM 2), .ref (aM 3), .int (-1), .int (-1), .ref (aM 4), .ref (aM 5)])), (aM 1, .inl (kM 1, 30, .inl f1)), (aM 2, .inl (kM 2, 30, .inl f2)), (aM 3, .inl (kM 3, 30, .inl of)), (aM 4, .inl (kM 4, 20, .inl ro)), (aM 5, .inl (kM 5, 20, .inl fa))]) (w1 := (gcW aG kG f1 f2 dr cl tr se (nI g) (nI r) inf (nI ct) ++ ([(oa, .inl (ok, 1, .inr (.inl ou)))]))) hP hD [0, 1, 2, 3, 4, 5, 6, 13] [7, 8, 9, 10, 11, 12] rfl rfl (by decide) (by decide) hk1 hFc hP1 hD1
  have hP : va_P (dC, dI) vwCl (gcW aG kG f1 f2 dr cl tr se (nI g) (nI r) inf (nI ct) ++ (gmW aM kM f1 f2 of ro fa th (nI g) (nI r) (-1) (-1) ++ ([(oa, .inl (ok, 1, .inr (.inl ou)))]))) H := hP.sub [6, 7, 8, 9, 10, 11, 12, 0, 1, 2, 3, 4, 5, 13] rfl
  have hD : va_D (fun q : Nat => s.heap.size ≤ q) (gcW aG kG f1 f2 dr cl tr se (nI g) (nI r) inf (nI ct) ++ (gmW aM kM f1 f2 of ro fa th (nI g) (nI r) (-1) (-1) ++ ([(oa, .inl (ok, 1, .inr (.inl ou)))]))) := hD.sub [6, 7, 8, 9, 10, 11, 12, 0, 1, 2, 3, 4, 5, 13] (by decide) rfl
  have hw : r1 = 1 := hw
  subst hw
  clear hw
  clear hz1 hk1 ht hvm hP1 hD1 hFc hDc
  clear hPc hKc
  refine lv_istore (lv' := [(5, .int 1), (4, .int (nI (3 * jj))), (0, .ref b), (1, .ref (aG 0)), (2, .ref (aM 0)), (3, .ref oa)]) hx hb dL_law_133 hl (by decide) rfl (fun ls hl => ?_)
  refine lv_aload_n hx hb dL_law_135 rfl (lv_at hl 4 rfl) ?_
  have hPc : va_P (dC, dI) vwCl (gmW aM kM f1 f2 of ro fa th (nI g) (nI r) (-1) (-1)) _ := hP.sub [7, 8, 9, 10, 11, 12] rfl
  have hKc : va_K (dC, dI) vwCl (gmT kM) s := hK.sub [6, 7, 8, 9, 10] rfl
  have hDc : va_D (fun q : Nat => s.heap.size ≤ q) (gmW aM kM f1 f2 of ro fa th (nI g) (nI r) (-1) (-1)) := hD.sub [7, 8, 9, 10, 11, 12] (by decide) rfl
  have hFc := va_free (wc := (gmW aM kM f1 f2 of ro fa th (nI g) (nI r) (-1) (-1))) hD hS hA [7, 8, 9, 10, 11, 12] rfl
  refine va_calli (va_runV (As := []) (rest := []) ⟨hx, hb, hml, hown, hts⟩ (c_X1_invite_no l dC dI aM kM f1 f2 of ro fa th g r (-1) (-1) H.size (by first | assumption | omega)) (cwV 0 hts gL_law_X1_invite rfl rfl rfl (by decide +kernel) ⟨Nat.le_of_ble_eq_true rfl, Nat.le_of_ble_eq_true rfl⟩) ⟨gcPM_blind, va_recv hK hP (ci := 1) (q0 := 7) rfl rfl, fun U hU hW => ⟨rfl, by rw [hU], by rw [hU]; exact hPc, va_K.moved hW.alike hKc, hDc.weaken (fun _ _ _ _ => trivial)⟩⟩ rfl rfl hl.1 rfl (lv_room (Nat.le_of_ble_eq_true rfl)) dL_law_136 ⟨show 14 + jj + 1 + 0 ≤ 1046 by omega, show 1295 + 6 * jj + 6 + 0 ≤ 9535 by omega⟩) hS (fun q _ h => hFc q h) hFc (fun r2 u t H locs ht hvm hw hB hz1 hk1 hS => ?_)
  obtain ⟨hP1, hD1⟩ := hB
  rw [ht] at hP1
  obtain ⟨hP, hD⟩ := va_join (wr := [(aG 0, .inr (0, [.ref (aG 1), .ref (aG 2), .ref (aG 3), .ref (aG 4), .ref (aG 5), .ref (aG 6), .int (nI g), .int (nI r), .int inf, .int (nI ct)])), (aG 1, .inl (kG 1, 30, .inl f1)), (aG 2, .inl (kG 2, 30, .inl f2)), (aG 3, .inl (kG 3, 20, .inl dr)), (aG 4, .inl (kG 4, 20, .inl cl)), (aG 5, .inl (kG 5, 20, .inl tr)), (aG 6, .inl (kG 6, 1024, .inl se)), (oa, .inl (ok, 1, .inr (.inl ou)))]) (w1 := (gmW aM kM f1 f2 of ro fa 1 (nI g) (nI r) (-1) (-1))) hP hD [7, 8, 9, 10, 11, 12] [0, 1, 2, 3, 4, 5, 6, 13] rfl rfl (by decide) (by decide) hk1 hFc hP1 hD1
  have hP : va_P (dC, dI) vwCl (gcW aG kG f1 f2 dr cl tr se (nI g) (nI r) inf (nI ct) ++ (gmW aM kM f1 f2 of ro fa 1 (nI g) (nI r) (-1) (-1) ++ ([(oa, .inl (ok, 1, .inr (.inl ou)))]))) H := hP.sub [0, 1, 2, 3, 4, 5, 6, 8, 9, 10, 11, 12, 13, 7] rfl
  have hD : va_D (fun q : Nat => s.heap.size ≤ q) (gcW aG kG f1 f2 dr cl tr se (nI g) (nI r) inf (nI ct) ++ (gmW aM kM f1 f2 of ro fa 1 (nI g) (nI r) (-1) (-1) ++ ([(oa, .inl (ok, 1, .inr (.inl ou)))]))) := hD.sub [0, 1, 2, 3, 4, 5, 6, 8, 9, 10, 11, 12, 13, 7] (by decide) rfl
  have hw_136 : True := hw
  clear hz1 hk1 ht hvm hP1 hD1 hFc hDc
  clear hPc hKc
  refine lv_istore (lv' := [(6, .int r2), (5, .int 1), (4, .int (nI (3 * jj))), (0, .ref b), (1, .ref (aG 0)), (2, .ref (aM 0)), (3, .ref oa)]) hx hb dL_law_139 hl (by decide) rfl (fun ls hl => ?_)
  refine lv_aload_n hx hb dL_law_141 rfl (lv_at hl 5 rfl) ?_
  have hPc : va_P (dC, dI) vwCl (gmW aM kM f1 f2 of ro fa 1 (nI g) (nI r) (-1) (-1)) _ := hP.sub [7, 8, 9, 10, 11, 12] rfl
  have hKc : va_K (dC, dI) vwCl (gmT kM) s := hK.sub [6, 7, 8, 9, 10] rfl
  refine va_calli (va_runV (As := []) (rest := []) ⟨hx, hb, hml, hown, hts⟩ (c_X1_thrown l dC dI aM kM f1 f2 of ro fa 1 g r (-1) (-1)) (cwV 0 hts gL_law_X1_thrown rfl rfl rfl (by decide +kernel) ⟨Nat.le_of_ble_eq_true rfl, Nat.le_of_ble_eq_true rfl⟩) ⟨gcPR_blind, va_recv hK hP (ci := 1) (q0 := 7) rfl rfl, fun U hU hW => ⟨rfl, by rw [hU]; exact hPc, va_K.moved hW.alike hKc⟩⟩ rfl rfl hl.1 rfl (lv_room (Nat.le_of_ble_eq_true rfl)) dL_law_142 ⟨show 14 + jj + 1 + 0 + 0 ≤ 1046 by omega, show 1295 + 6 * jj + 6 + 0 + 0 ≤ 9535 by omega⟩) hS (fun q _ h => h.elim) (fun q h => h.elim) (fun r3 u t H locs ht hvm hw hB hz1 hk1 hS => ?_)
  have hP := gc_keep hP hk1
  have hw : r3 = 1 := hw
  subst hw
  clear hw
  clear hB hz1 hk1 ht hvm
  clear hPc hKc
  refine lv_iload hx hb dL_law_145 (lv_at hl 1 rfl) ?_
  refine lv_icmp_eq (tgt := 152) hx hb dL_law_147 (by decide) (fun c_147 => ?_) (fun c_147 => absurd rfl c_147)
  refine lv_iload hx hb dL_law_152 (lv_at hl 1 rfl) ?_
  refine lv_if_ne (tgt := 169) hx hb dL_law_154 (by decide) (fun c_154 => ?_) (fun c_154 => ?_)
  · skip
    refine lv_goto (tgt := 951) hx hb dL_law_169 (by decide) ?_
    refine lv_iinc (v := nI (3 * (jj + 1))) (lv' := [(4, .int (nI (3 * (jj + 1)))), (6, .int r2), (5, .int 1), (0, .ref b), (1, .ref (aG 0)), (2, .ref (aM 0)), (3, .ref oa)]) hx hb dL_law_951 hl (k := 2) rfl (nI_3 jj) (by decide) rfl (fun ls hl => ?_)
    refine lv_goto (tgt := 23) hx hb dL_law_954 (by decide) ?_
    refine W.widen (k := 14 + (jj + 1)) (n := 1295 + 6 * (jj + 1)) (by omega) (by omega) ?_
    exact ih d H _ ls hd ⟨K, g, r, f1, f2, dr, cl, tr, se, inf, ct, of, ro, fa, 1, ou, hI, hP, hD, hS, lv_sub hl [0, 3, 4, 5, 6] rfl⟩
  · skip
    exact absurd c_154 (by decide)
set_option maxHeartbeats 4000000 in
set_option maxRecDepth 100000 in
theorem law_1 {p : Program} {e : Env} {s : State} {m : MethodId} {below : List Frame} {meth : Method} {c : Code} (l : Launch) (hgl : l.stackTraces = false) {b L : Nat} {xs : Nat → Int32} (hL : L ≤ 1536) (C0 : lw_At p s m meth c b L xs) {dC : Nat → ClassId} {dI : Nat → Nat → Nat} {aG : Nat → Nat} {kG : Nat → ClassId} {aM : Nat → Nat} {kM : Nat → ClassId} {oa : Nat} {ok : ClassId} (hK : va_K (dC, dI) vwCl (gcT kG ++ (gmT kM ++ ([(ok, .long)]))) s) (hXA : gcXA (fun q : Nat => s.heap.size ≤ q) s) {jj : Nat} (hj : 3 * jj + 3 ≤ L) {d : Drawn} (hd : s.drawn.sameBut d lw_cs) {K : Bk} {g r : Nat} {f1 f2 dr cl tr se : Nat → Int32} {inf : Int32} {ct : Nat} {of ro fa : Nat → Int32} {th : Int32} {ou : Nat → Int64} (hI : Inv K g r f1 f2 inf dr cl se ct of) {H : Heap} {locs : List Loc} {ls : Array Slot} (hP : va_P (dC, dI) vwCl (gcW aG kG f1 f2 dr cl tr se (nI g) (nI r) inf (nI ct) ++ (gmW aM kM f1 f2 of ro fa th (nI g) (nI r) (-1) (-1) ++ ([(oa, .inl (ok, 1, .inr (.inl ou)))]))) H) (hD : va_D (fun q : Nat => s.heap.size ≤ q) (gcW aG kG f1 f2 dr cl tr se (nI g) (nI r) inf (nI ct) ++ (gmW aM kM f1 f2 of ro fa th (nI g) (nI r) (-1) (-1) ++ ([(oa, .inl (ok, 1, .inr (.inl ou)))])))) (hS : va_S (fun q : Nat => s.heap.size ≤ q) s.heap H locs) (hl : lv_has ls 9 [(4, .int (nI (3 * jj))), (0, .ref b), (1, .ref (aG 0)), (2, .ref (aM 0)), (3, .ref oa)]) (ih : ∀ (d1 : Drawn) (H1 : Heap) (locs1 : List Loc) (ls1 : Array Slot), s.drawn.sameBut d1 lw_cs → LSt dC dI s b aG kG aM kM oa ok (jj + 1) H1 locs1 ls1 → W p l e room_1 (s.setDrawn d1) m #[Value.ref b] below meth c H1 locs1 (14 + (jj + 1)) (1295 + 6 * (jj + 1)) (lw_Z below #[Value.ref b] s) (F0 m 23 ls1 [])) {wa wb : Nat} (ha : wa < 2 * g) (hb2 : wb < 2 * g) (h1 : xs (3 * jj + 1) = nI wa) (h2 : xs (3 * jj + 2) = nI wb) (hr9 : r < 30) (hne : ¬ wa = wb) : W p l e room_1 (s.setDrawn d) m #[Value.ref b] below meth c H locs (14 + jj) (1295 + 6 * jj) (lw_Z below #[Value.ref b] s) (F0 m 172 ls []) := by
  obtain ⟨hx, hb, hr, hml, hown, hts0, hX, hbl, hlocks, hgv⟩ := C0
  have hown : s.vm.findClass RL = some m.cls := hown
  have hts1 : ∀ w ∈ wsL_law, w.before #[Value.ref b] s = true := fun w h => hts0 w (wsL_law_in w h)
  have hts := dr_words hts1 d
  have hA : ∀ q : Nat, s.heap.size ≤ q → (fun q : Nat => s.heap.size ≤ q) q := fun _ h => h
  have hbA : ¬ (fun q : Nat => s.heap.size ≤ q) b := Nat.not_le.mpr hbl
  obtain ⟨hg10, hr30, hOK, hz, hBk, hof, hDr, hCl, s0, hse, hct⟩ := id hI
  have hKd : va_K (dC, dI) vwCl (gcT kG ++ (gmT kM ++ ([(ok, .long)]))) (s.setDrawn d) := hK
  have hXd : va_X b L xs (s.setDrawn d) s.heap := hX
  have hKg := gOK_Kg hOK
  have hKr : K.1 ≤ 30 := by rw [hOK.1]; exact hr30
  have hLF : LF K g se ct := by rw [hse, hct]; exact LF_of hg10 hKg hCl s0
  have hc1024 : ct ≤ 1024 := hLF.2
  have hft : gFt cl g = decide (0 < ct) := by rw [hct]; exact ft_pos hg10 hKg hCl s0
  refine lv_aload_n hx hb dL_law_172 rfl (lv_at hl 2 rfl) ?_
  refine lv_aload_n hx hb dL_law_173 rfl (lv_at hl 1 rfl) ?_
  refine lv_iload hx hb dL_law_174 (lv_at hl 0 rfl) ?_
  refine lv_iconst (v := 1) hx hb dL_law_176 (by decide) ?_
  refine lv_iadd hx hb dL_law_177 ?_
  refine gc_topi (y := nI (3 * jj + 1)) (nI_add (3 * jj) 1) ?_
  refine va_sld hx hb hXd hbl hbA hS (vp_in_nI (n := (3 * jj + 1)) (by omega) (by omega)) dL_law_178 ?_
  rw [nI_clamp (n := (3 * jj + 1)) (by omega)]
  refine gc_topi (y := nI wa) (h1) ?_
  refine lv_aload_n hx hb dL_law_179 rfl (lv_at hl 1 rfl) ?_
  refine lv_iload hx hb dL_law_180 (lv_at hl 0 rfl) ?_
  refine lv_iconst (v := 2) hx hb dL_law_182 (by decide) ?_
  refine lv_iadd hx hb dL_law_183 ?_
  refine gc_topi (y := nI (3 * jj + 2)) (nI_add (3 * jj) 2) ?_
  refine va_sld hx hb hXd hbl hbA hS (vp_in_nI (n := (3 * jj + 2)) (by omega) (by omega)) dL_law_184 ?_
  rw [nI_clamp (n := (3 * jj + 2)) (by omega)]
  refine gc_topi (y := nI wb) (h2) ?_
  refine lv_aload_n hx hb dL_law_185 rfl (lv_at hl 4 rfl) ?_
  have hPc : va_P (dC, dI) vwCl (gcW aG kG f1 f2 dr cl tr se (nI g) (nI r) inf (nI ct) ++ ([(oa, .inl (ok, 1, .inr (.inl ou)))])) _ := hP.sub [0, 1, 2, 3, 4, 5, 6, 13] rfl
  have hKc : va_K (dC, dI) vwCl (gcT kG ++ ([(ok, .long)])) s := hK.sub [0, 1, 2, 3, 4, 5, 11] rfl
  have hDc : va_D (fun q : Nat => s.heap.size ≤ q) (gcW aG kG f1 f2 dr cl tr se (nI g) (nI r) inf (nI ct) ++ ([(oa, .inl (ok, 1, .inr (.inl ou)))])) := hD.sub [0, 1, 2, 3, 4, 5, 6, 13] (by decide) rfl
  have hFc := va_free (wc := (gcW aG kG f1 f2 dr cl tr se (nI g) (nI r) inf (nI ct) ++ ([(oa, .inl (ok, 1, .inr (.inl ou)))]))) hD hS hA [0, 1, 2, 3, 4, 5, 6, 13] rfl
  refine va_calli (vx_runSW (As := [.ref (aG 0), .int (nI wa), .int (nI wb), .ref oa]) (rest := []) ⟨hx, hb, hml, hown, hts⟩ (w_rule l dC dI aG kG f1 f2 dr cl tr se g r inf ct oa ok ou wa wb H.size (by first | assumption | omega) (by first | assumption | omega) (by first | assumption | omega) (by first | assumption | omega) (by first | assumption | omega)) (vx_cwSW 4 hts gL_law_L_rule rfl rfl rfl (by decide +kernel) ⟨Nat.le_of_ble_eq_true rfl, Nat.le_of_ble_eq_true rfl⟩) ⟨gcPM_blind, fun U hU hW => ⟨rfl, by rw [hU], by rw [hU]; exact hPc, va_K.moved hW.alike hKc, hDc.weaken (fun _ _ _ _ => trivial)⟩⟩ rfl rfl hl.1 rfl (lv_room (Nat.le_of_ble_eq_true rfl)) dL_law_186 ⟨show 14 + jj + 0 ≤ 1046 by omega, show 1295 + 6 * jj + 0 ≤ 9535 by omega⟩) hS (fun q _ h => hFc q h) hFc (fun r1 u t H locs ht hvm hw hB hz1 hk1 hS => ?_)
  obtain ⟨hP1, hD1⟩ := hB
  rw [ht] at hP1
  obtain ⟨hP, hD⟩ := va_join (wr := [(aM 0, .inr (1, [.int th, .int (nI g), .int (nI r), .ref (aM 1), .ref (aM 2), .ref (aM 3), .int (-1), .int (-1), .ref (aM 4), .ref (aM 5)])), (aM 1, .inl (kM 1, 30, .inl f1)), (aM 2, .inl (kM 2, 30, .inl f2)), (aM 3, .inl (kM 3, 30, .inl of)), (aM 4, .inl (kM 4, 20, .inl ro)), (aM 5, .inl (kM 5, 20, .inl fa))]) (w1 := (gcW aG kG (gPut 30 f1 (nI r) (nI wa)) (gPut 30 f2 (nI r) (nI wb)) (gLA (gPut 30 f1 (nI r) (nI wa)) (gPut 30 f2 (nI r) (nI wb)) (inf ||| ((1 : Int32) <<< (nI r &&& 31))) (-1) (r + 1) dr) (gCl (gLA (gPut 30 f1 (nI r) (nI wa)) (gPut 30 f2 (nI r) (nI wb)) (inf ||| ((1 : Int32) <<< (nI r &&& 31))) (-1) (r + 1) cl) 20) tr ((gLs (gCl (gLA (gPut 30 f1 (nI r) (nI wa)) (gPut 30 f2 (nI r) (nI wb)) (inf ||| ((1 : Int32) <<< (nI r &&& 31))) (-1) (r + 1) cl) 20) se g g).1) (nI g) (nI (r + 1)) (inf ||| ((1 : Int32) <<< (nI r &&& 31))) (nI (gLs (gCl (gLA (gPut 30 f1 (nI r) (nI wa)) (gPut 30 f2 (nI r) (nI wb)) (inf ||| ((1 : Int32) <<< (nI r &&& 31))) (-1) (r + 1) cl) 20) se g g).2) ++ ([(oa, .inl (ok, 1, .inr (.inl (vp_updL ou 0 ((nI r).toInt64)))))]))) hP hD [0, 1, 2, 3, 4, 5, 6, 13] [7, 8, 9, 10, 11, 12] rfl rfl (by decide) (by decide) hk1 hFc hP1 hD1
  have hP : va_P (dC, dI) vwCl (gcW aG kG (gPut 30 f1 (nI r) (nI wa)) (gPut 30 f2 (nI r) (nI wb)) (gLA (gPut 30 f1 (nI r) (nI wa)) (gPut 30 f2 (nI r) (nI wb)) (inf ||| ((1 : Int32) <<< (nI r &&& 31))) (-1) (r + 1) dr) (gCl (gLA (gPut 30 f1 (nI r) (nI wa)) (gPut 30 f2 (nI r) (nI wb)) (inf ||| ((1 : Int32) <<< (nI r &&& 31))) (-1) (r + 1) cl) 20) tr ((gLs (gCl (gLA (gPut 30 f1 (nI r) (nI wa)) (gPut 30 f2 (nI r) (nI wb)) (inf ||| ((1 : Int32) <<< (nI r &&& 31))) (-1) (r + 1) cl) 20) se g g).1) (nI g) (nI (r + 1)) (inf ||| ((1 : Int32) <<< (nI r &&& 31))) (nI (gLs (gCl (gLA (gPut 30 f1 (nI r) (nI wa)) (gPut 30 f2 (nI r) (nI wb)) (inf ||| ((1 : Int32) <<< (nI r &&& 31))) (-1) (r + 1) cl) 20) se g g).2) ++ (gmW aM kM f1 f2 of ro fa th (nI g) (nI r) (-1) (-1) ++ ([(oa, .inl (ok, 1, .inr (.inl (vp_updL ou 0 ((nI r).toInt64)))))]))) H := hP.sub [6, 7, 8, 9, 10, 11, 12, 0, 1, 2, 3, 4, 5, 13] rfl
  have hD : va_D (fun q : Nat => s.heap.size ≤ q) (gcW aG kG (gPut 30 f1 (nI r) (nI wa)) (gPut 30 f2 (nI r) (nI wb)) (gLA (gPut 30 f1 (nI r) (nI wa)) (gPut 30 f2 (nI r) (nI wb)) (inf ||| ((1 : Int32) <<< (nI r &&& 31))) (-1) (r + 1) dr) (gCl (gLA (gPut 30 f1 (nI r) (nI wa)) (gPut 30 f2 (nI r) (nI wb)) (inf ||| ((1 : Int32) <<< (nI r &&& 31))) (-1) (r + 1) cl) 20) tr ((gLs (gCl (gLA (gPut 30 f1 (nI r) (nI wa)) (gPut 30 f2 (nI r) (nI wb)) (inf ||| ((1 : Int32) <<< (nI r &&& 31))) (-1) (r + 1) cl) 20) se g g).1) (nI g) (nI (r + 1)) (inf ||| ((1 : Int32) <<< (nI r &&& 31))) (nI (gLs (gCl (gLA (gPut 30 f1 (nI r) (nI wa)) (gPut 30 f2 (nI r) (nI wb)) (inf ||| ((1 : Int32) <<< (nI r &&& 31))) (-1) (r + 1) cl) 20) se g g).2) ++ (gmW aM kM f1 f2 of ro fa th (nI g) (nI r) (-1) (-1) ++ ([(oa, .inl (ok, 1, .inr (.inl (vp_updL ou 0 ((nI r).toInt64)))))]))) := hD.sub [6, 7, 8, 9, 10, 11, 12, 0, 1, 2, 3, 4, 5, 13] (by decide) rfl
  have hw : r1 = 0 := hw
  subst hw
  clear hw
  clear hz1 hk1 ht hvm hP1 hD1 hFc hDc
  clear hPc hKc
  rw [gPut_in (n := 30) (j := r) hr9 (by decide) f1 (nI wa), gPut_in (n := 30) (j := r) hr9 (by decide) f2 (nI wb)] at hP hD
  have hP : va_P (dC, dI) vwCl (gcW aG kG (upd f1 r (nI wa)) (upd f2 r (nI wb)) (gLA (upd f1 r (nI wa)) (upd f2 r (nI wb)) (inf ||| ((1 : Int32) <<< (nI r &&& 31))) (-1) (r + 1) dr) (gCl (gLA (upd f1 r (nI wa)) (upd f2 r (nI wb)) (inf ||| ((1 : Int32) <<< (nI r &&& 31))) (-1) (r + 1) cl) 20) tr ((gLs (gCl (gLA (upd f1 r (nI wa)) (upd f2 r (nI wb)) (inf ||| ((1 : Int32) <<< (nI r &&& 31))) (-1) (r + 1) cl) 20) se g g).1) (nI g) (nI (r + 1)) (inf ||| ((1 : Int32) <<< (nI r &&& 31))) (nI (gLs (gCl (gLA (upd f1 r (nI wa)) (upd f2 r (nI wb)) (inf ||| ((1 : Int32) <<< (nI r &&& 31))) (-1) (r + 1) cl) 20) se g g).2) ++ (gmW aM kM f1 f2 of ro fa th (nI g) (nI r) (-1) (-1) ++ ([(oa, .inl (ok, 1, .inr (.inl (vp_updL ou 0 ((nI r).toInt64)))))]))) H := hP
  have hD : va_D (fun q : Nat => s.heap.size ≤ q) (gcW aG kG (upd f1 r (nI wa)) (upd f2 r (nI wb)) (gLA (upd f1 r (nI wa)) (upd f2 r (nI wb)) (inf ||| ((1 : Int32) <<< (nI r &&& 31))) (-1) (r + 1) dr) (gCl (gLA (upd f1 r (nI wa)) (upd f2 r (nI wb)) (inf ||| ((1 : Int32) <<< (nI r &&& 31))) (-1) (r + 1) cl) 20) tr ((gLs (gCl (gLA (upd f1 r (nI wa)) (upd f2 r (nI wb)) (inf ||| ((1 : Int32) <<< (nI r &&& 31))) (-1) (r + 1) cl) 20) se g g).1) (nI g) (nI (r + 1)) (inf ||| ((1 : Int32) <<< (nI r &&& 31))) (nI (gLs (gCl (gLA (upd f1 r (nI wa)) (upd f2 r (nI wb)) (inf ||| ((1 : Int32) <<< (nI r &&& 31))) (-1) (r + 1) cl) 20) se g g).2) ++ (gmW aM kM f1 f2 of ro fa th (nI g) (nI r) (-1) (-1) ++ ([(oa, .inl (ok, 1, .inr (.inl (vp_updL ou 0 ((nI r).toInt64)))))]))) := hD
  refine lv_istore (lv' := [(5, .int 0), (4, .int (nI (3 * jj))), (0, .ref b), (1, .ref (aG 0)), (2, .ref (aM 0)), (3, .ref oa)]) hx hb dL_law_189 hl (by decide) rfl (fun ls hl => ?_)
  refine lv_aload_n hx hb dL_law_191 rfl (lv_at hl 4 rfl) ?_
  refine lv_aload_n hx hb dL_law_192 rfl (lv_at hl 2 rfl) ?_
  refine lv_iload hx hb dL_law_193 (lv_at hl 1 rfl) ?_
  refine lv_iconst (v := 1) hx hb dL_law_195 (by decide) ?_
  refine lv_iadd hx hb dL_law_196 ?_
  refine gc_topi (y := nI (3 * jj + 1)) (nI_add (3 * jj) 1) ?_
  refine va_sld hx hb hXd hbl hbA hS (vp_in_nI (n := (3 * jj + 1)) (by omega) (by omega)) dL_law_197 ?_
  rw [nI_clamp (n := (3 * jj + 1)) (by omega)]
  refine gc_topi (y := nI wa) (h1) ?_
  refine lv_aload_n hx hb dL_law_198 rfl (lv_at hl 2 rfl) ?_
  refine lv_iload hx hb dL_law_199 (lv_at hl 1 rfl) ?_
  refine lv_iconst (v := 2) hx hb dL_law_201 (by decide) ?_
  refine lv_iadd hx hb dL_law_202 ?_
  refine gc_topi (y := nI (3 * jj + 2)) (nI_add (3 * jj) 2) ?_
  refine va_sld hx hb hXd hbl hbA hS (vp_in_nI (n := (3 * jj + 2)) (by omega) (by omega)) dL_law_203 ?_
  rw [nI_clamp (n := (3 * jj + 2)) (by omega)]
  refine gc_topi (y := nI wb) (h2) ?_
  have hPc : va_P (dC, dI) vwCl (gmW aM kM f1 f2 of ro fa th (nI g) (nI r) (-1) (-1)) _ := hP.sub [7, 8, 9, 10, 11, 12] rfl
  have hKc : va_K (dC, dI) vwCl (gmT kM) s := hK.sub [6, 7, 8, 9, 10] rfl
  have hDc : va_D (fun q : Nat => s.heap.size ≤ q) (gmW aM kM f1 f2 of ro fa th (nI g) (nI r) (-1) (-1)) := hD.sub [7, 8, 9, 10, 11, 12] (by decide) rfl
  have hFc := va_free (wc := (gmW aM kM f1 f2 of ro fa th (nI g) (nI r) (-1) (-1))) hD hS hA [7, 8, 9, 10, 11, 12] rfl
  refine va_calli (va_runV (As := [.int (nI wa), .int (nI wb)]) (rest := []) ⟨hx, hb, hml, hown, hts⟩ (c_X1_rule l dC dI aM kM f1 f2 of ro fa th g r (-1) (-1) wa wb H.size (by first | assumption | omega) (by first | assumption | omega) (by first | assumption | omega) (by first | assumption | omega) (by first | assumption | omega)) (cwV 2 hts gL_law_X1_rule rfl rfl rfl (by decide +kernel) ⟨Nat.le_of_ble_eq_true rfl, Nat.le_of_ble_eq_true rfl⟩) ⟨gcPM_blind, va_recv hK hP (ci := 1) (q0 := 7) rfl rfl, fun U hU hW => ⟨rfl, by rw [hU], by rw [hU]; exact hPc, va_K.moved hW.alike hKc, hDc.weaken (fun _ _ _ _ => trivial)⟩⟩ rfl rfl hl.1 rfl (lv_room (Nat.le_of_ble_eq_true rfl)) dL_law_204 ⟨show 14 + jj + 0 + 0 ≤ 1046 by omega, show 1295 + 6 * jj + 0 + 0 ≤ 9535 by omega⟩) hS (fun q _ h => hFc q h) hFc (fun r2 u t H locs ht hvm hw hB hz1 hk1 hS => ?_)
  obtain ⟨hP1, hD1⟩ := hB
  rw [ht] at hP1
  obtain ⟨hP, hD⟩ := va_join (wr := [(aG 0, .inr (0, [.ref (aG 1), .ref (aG 2), .ref (aG 3), .ref (aG 4), .ref (aG 5), .ref (aG 6), .int (nI g), .int (nI (r + 1)), .int (inf ||| ((1 : Int32) <<< (nI r &&& 31))), .int (nI (gLs (gCl (gLA (upd f1 r (nI wa)) (upd f2 r (nI wb)) (inf ||| ((1 : Int32) <<< (nI r &&& 31))) (-1) (r + 1) cl) 20) se g g).2)])), (aG 1, .inl (kG 1, 30, .inl (upd f1 r (nI wa)))), (aG 2, .inl (kG 2, 30, .inl (upd f2 r (nI wb)))), (aG 3, .inl (kG 3, 20, .inl (gLA (upd f1 r (nI wa)) (upd f2 r (nI wb)) (inf ||| ((1 : Int32) <<< (nI r &&& 31))) (-1) (r + 1) dr))), (aG 4, .inl (kG 4, 20, .inl (gCl (gLA (upd f1 r (nI wa)) (upd f2 r (nI wb)) (inf ||| ((1 : Int32) <<< (nI r &&& 31))) (-1) (r + 1) cl) 20))), (aG 5, .inl (kG 5, 20, .inl tr)), (aG 6, .inl (kG 6, 1024, .inl ((gLs (gCl (gLA (upd f1 r (nI wa)) (upd f2 r (nI wb)) (inf ||| ((1 : Int32) <<< (nI r &&& 31))) (-1) (r + 1) cl) 20) se g g).1))), (oa, .inl (ok, 1, .inr (.inl (vp_updL ou 0 ((nI r).toInt64)))))]) (w1 := (gmW aM kM (upd f1 r (nI wa)) (upd f2 r (nI wb)) of ro fa 0 (nI g) (nI (r + 1)) (-1) (-1))) hP hD [7, 8, 9, 10, 11, 12] [0, 1, 2, 3, 4, 5, 6, 13] rfl rfl (by decide) (by decide) hk1 hFc hP1 hD1
  have hP : va_P (dC, dI) vwCl (gcW aG kG (upd f1 r (nI wa)) (upd f2 r (nI wb)) (gLA (upd f1 r (nI wa)) (upd f2 r (nI wb)) (inf ||| ((1 : Int32) <<< (nI r &&& 31))) (-1) (r + 1) dr) (gCl (gLA (upd f1 r (nI wa)) (upd f2 r (nI wb)) (inf ||| ((1 : Int32) <<< (nI r &&& 31))) (-1) (r + 1) cl) 20) tr ((gLs (gCl (gLA (upd f1 r (nI wa)) (upd f2 r (nI wb)) (inf ||| ((1 : Int32) <<< (nI r &&& 31))) (-1) (r + 1) cl) 20) se g g).1) (nI g) (nI (r + 1)) (inf ||| ((1 : Int32) <<< (nI r &&& 31))) (nI (gLs (gCl (gLA (upd f1 r (nI wa)) (upd f2 r (nI wb)) (inf ||| ((1 : Int32) <<< (nI r &&& 31))) (-1) (r + 1) cl) 20) se g g).2) ++ (gmW aM kM (upd f1 r (nI wa)) (upd f2 r (nI wb)) of ro fa 0 (nI g) (nI (r + 1)) (-1) (-1) ++ ([(oa, .inl (ok, 1, .inr (.inl (vp_updL ou 0 ((nI r).toInt64)))))]))) H := hP.sub [0, 1, 2, 3, 4, 5, 6, 8, 9, 10, 11, 12, 13, 7] rfl
  have hD : va_D (fun q : Nat => s.heap.size ≤ q) (gcW aG kG (upd f1 r (nI wa)) (upd f2 r (nI wb)) (gLA (upd f1 r (nI wa)) (upd f2 r (nI wb)) (inf ||| ((1 : Int32) <<< (nI r &&& 31))) (-1) (r + 1) dr) (gCl (gLA (upd f1 r (nI wa)) (upd f2 r (nI wb)) (inf ||| ((1 : Int32) <<< (nI r &&& 31))) (-1) (r + 1) cl) 20) tr ((gLs (gCl (gLA (upd f1 r (nI wa)) (upd f2 r (nI wb)) (inf ||| ((1 : Int32) <<< (nI r &&& 31))) (-1) (r + 1) cl) 20) se g g).1) (nI g) (nI (r + 1)) (inf ||| ((1 : Int32) <<< (nI r &&& 31))) (nI (gLs (gCl (gLA (upd f1 r (nI wa)) (upd f2 r (nI wb)) (inf ||| ((1 : Int32) <<< (nI r &&& 31))) (-1) (r + 1) cl) 20) se g g).2) ++ (gmW aM kM (upd f1 r (nI wa)) (upd f2 r (nI wb)) of ro fa 0 (nI g) (nI (r + 1)) (-1) (-1) ++ ([(oa, .inl (ok, 1, .inr (.inl (vp_updL ou 0 ((nI r).toInt64)))))]))) := hD.sub [0, 1, 2, 3, 4, 5, 6, 8, 9, 10, 11, 12, 13, 7] (by decide) rfl
  have hw : r2 = nI r := hw
  subst hw
  clear hw
  clear hz1 hk1 ht hvm hP1 hD1 hFc hDc
  clear hPc hKc
  refine lv_istore (lv' := [(6, .int (nI r)), (5, .int 0), (4, .int (nI (3 * jj))), (0, .ref b), (1, .ref (aG 0)), (2, .ref (aM 0)), (3, .ref oa)]) hx hb dL_law_207 hl (by decide) rfl (fun ls hl => ?_)
  refine lv_aload_n hx hb dL_law_209 rfl (lv_at hl 5 rfl) ?_
  have hPc : va_P (dC, dI) vwCl (gmW aM kM (upd f1 r (nI wa)) (upd f2 r (nI wb)) of ro fa 0 (nI g) (nI (r + 1)) (-1) (-1)) _ := hP.sub [7, 8, 9, 10, 11, 12] rfl
  have hKc : va_K (dC, dI) vwCl (gmT kM) s := hK.sub [6, 7, 8, 9, 10] rfl
  refine va_calli (va_runV (As := []) (rest := []) ⟨hx, hb, hml, hown, hts⟩ (c_X1_thrown l dC dI aM kM (upd f1 r (nI wa)) (upd f2 r (nI wb)) of ro fa 0 g (r + 1) (-1) (-1)) (cwV 0 hts gL_law_X1_thrown rfl rfl rfl (by decide +kernel) ⟨Nat.le_of_ble_eq_true rfl, Nat.le_of_ble_eq_true rfl⟩) ⟨gcPR_blind, va_recv hK hP (ci := 1) (q0 := 7) rfl rfl, fun U hU hW => ⟨rfl, by rw [hU]; exact hPc, va_K.moved hW.alike hKc⟩⟩ rfl rfl hl.1 rfl (lv_room (Nat.le_of_ble_eq_true rfl)) dL_law_210 ⟨show 14 + jj + 0 + 0 + 0 ≤ 1046 by omega, show 1295 + 6 * jj + 0 + 0 + 0 ≤ 9535 by omega⟩) hS (fun q _ h => h.elim) (fun q h => h.elim) (fun r3 u t H locs ht hvm hw hB hz1 hk1 hS => ?_)
  have hP := gc_keep hP hk1
  have hw : r3 = 0 := hw
  subst hw
  clear hw
  clear hB hz1 hk1 ht hvm
  clear hPc hKc
  refine lv_iload hx hb dL_law_213 (lv_at hl 1 rfl) ?_
  refine lv_icmp_eq (tgt := 220) hx hb dL_law_215 (by decide) (fun c_215 => ?_) (fun c_215 => absurd rfl c_215)
  refine lv_iload hx hb dL_law_220 (lv_at hl 1 rfl) ?_
  refine lv_if_ne (tgt := 237) hx hb dL_law_222 (by decide) (fun c_222 => ?_) (fun c_222 => ?_)
  · skip
    exact absurd (by decide) c_222
  · skip
    refine lv_aload_n hx hb dL_law_225 rfl (lv_at hl 6 rfl) ?_
    refine lv_iconst (v := 0) hx hb dL_law_226 (by decide) ?_
    refine va_lald hx hb hKd hP 13 11 rfl rfl gc_in01 dL_law_227 ?_
    refine gc_topl (y := ((nI r).toInt64)) (by rw [sb_cl0]; exact pk_uLs) ?_
    refine lv_iload hx hb dL_law_228 (lv_at hl 0 rfl) ?_
    refine lv_i2l hx hb dL_law_230 rfl ?_
    refine W.lcmp hx hb dL_law_231 ?_
    refine gc_topi (y := 0) ((lg_cmp_eq _ _).mpr rfl) ?_
    refine lv_if_eq (tgt := 237) hx hb dL_law_232 (by decide) (fun c_232 => ?_) (fun c_232 => ?_)
    · skip
      refine lv_goto (tgt := 951) hx hb dL_law_237 (by decide) ?_
      refine lv_iinc (v := nI (3 * (jj + 1))) (lv' := [(4, .int (nI (3 * (jj + 1)))), (6, .int (nI r)), (5, .int 0), (0, .ref b), (1, .ref (aG 0)), (2, .ref (aM 0)), (3, .ref oa)]) hx hb dL_law_951 hl (k := 2) rfl (nI_3 jj) (by decide) rfl (fun ls hl => ?_)
      refine lv_goto (tgt := 23) hx hb dL_law_954 (by decide) ?_
      refine W.widen (k := 14 + (jj + 1)) (n := 1295 + 6 * (jj + 1)) (by omega) (by omega) ?_
      exact ih d H _ ls hd ⟨kAdd K r wa wb, g, (r + 1), (upd f1 r (nI wa)), (upd f2 r (nI wb)), (gLA (upd f1 r (nI wa)) (upd f2 r (nI wb)) (inf ||| ((1 : Int32) <<< (nI r &&& 31))) (-1) (r + 1) dr), (gCl (gLA (upd f1 r (nI wa)) (upd f2 r (nI wb)) (inf ||| ((1 : Int32) <<< (nI r &&& 31))) (-1) (r + 1) cl) 20), tr, ((gLs (gCl (gLA (upd f1 r (nI wa)) (upd f2 r (nI wb)) (inf ||| ((1 : Int32) <<< (nI r &&& 31))) (-1) (r + 1) cl) 20) se g g).1), (inf ||| ((1 : Int32) <<< (nI r &&& 31))), ((gLs (gCl (gLA (upd f1 r (nI wa)) (upd f2 r (nI wb)) (inf ||| ((1 : Int32) <<< (nI r &&& 31))) (-1) (r + 1) cl) 20) se g g).2), of, ro, fa, 0, (vp_updL ou 0 ((nI r).toInt64)), Inv_rule hI hr9 ha hb2, hP, hD, hS, lv_sub hl [0, 3, 4, 5, 6] rfl⟩
    · skip
      exact absurd (by decide) c_232
set_option maxHeartbeats 4000000 in
set_option maxRecDepth 100000 in
theorem law_1x {p : Program} {e : Env} {s : State} {m : MethodId} {below : List Frame} {meth : Method} {c : Code} (l : Launch) (hgl : l.stackTraces = false) {b L : Nat} {xs : Nat → Int32} (hL : L ≤ 1536) (C0 : lw_At p s m meth c b L xs) {dC : Nat → ClassId} {dI : Nat → Nat → Nat} {aG : Nat → Nat} {kG : Nat → ClassId} {aM : Nat → Nat} {kM : Nat → ClassId} {oa : Nat} {ok : ClassId} (hK : va_K (dC, dI) vwCl (gcT kG ++ (gmT kM ++ ([(ok, .long)]))) s) (hXA : gcXA (fun q : Nat => s.heap.size ≤ q) s) {jj : Nat} (hj : 3 * jj + 3 ≤ L) {d : Drawn} (hd : s.drawn.sameBut d lw_cs) {K : Bk} {g r : Nat} {f1 f2 dr cl tr se : Nat → Int32} {inf : Int32} {ct : Nat} {of ro fa : Nat → Int32} {th : Int32} {ou : Nat → Int64} (hI : Inv K g r f1 f2 inf dr cl se ct of) {H : Heap} {locs : List Loc} {ls : Array Slot} (hP : va_P (dC, dI) vwCl (gcW aG kG f1 f2 dr cl tr se (nI g) (nI r) inf (nI ct) ++ (gmW aM kM f1 f2 of ro fa th (nI g) (nI r) (-1) (-1) ++ ([(oa, .inl (ok, 1, .inr (.inl ou)))]))) H) (hD : va_D (fun q : Nat => s.heap.size ≤ q) (gcW aG kG f1 f2 dr cl tr se (nI g) (nI r) inf (nI ct) ++ (gmW aM kM f1 f2 of ro fa th (nI g) (nI r) (-1) (-1) ++ ([(oa, .inl (ok, 1, .inr (.inl ou)))])))) (hS : va_S (fun q : Nat => s.heap.size ≤ q) s.heap H locs) (hl : lv_has ls 9 [(4, .int (nI (3 * jj))), (0, .ref b), (1, .ref (aG 0)), (2, .ref (aM 0)), (3, .ref oa)]) (ih : ∀ (d1 : Drawn) (H1 : Heap) (locs1 : List Loc) (ls1 : Array Slot), s.drawn.sameBut d1 lw_cs → LSt dC dI s b aG kG aM kM oa ok (jj + 1) H1 locs1 ls1 → W p l e room_1 (s.setDrawn d1) m #[Value.ref b] below meth c H1 locs1 (14 + (jj + 1)) (1295 + 6 * (jj + 1)) (lw_Z below #[Value.ref b] s) (F0 m 23 ls1 [])) (hno : (∀ q : Nat, q < 2 * g → xs (3 * jj + 1) ≠ nI q) ∨ ∀ q : Nat, q < 2 * g → xs (3 * jj + 2) ≠ nI q) : W p l e room_1 (s.setDrawn d) m #[Value.ref b] below meth c H locs (14 + jj) (1295 + 6 * jj) (lw_Z below #[Value.ref b] s) (F0 m 172 ls []) := by
  obtain ⟨hx, hb, hr, hml, hown, hts0, hX, hbl, hlocks, hgv⟩ := C0
  have hown : s.vm.findClass RL = some m.cls := hown
  have hts1 : ∀ w ∈ wsL_law, w.before #[Value.ref b] s = true := fun w h => hts0 w (wsL_law_in w h)
  have hts := dr_words hts1 d
  have hA : ∀ q : Nat, s.heap.size ≤ q → (fun q : Nat => s.heap.size ≤ q) q := fun _ h => h
  have hbA : ¬ (fun q : Nat => s.heap.size ≤ q) b := Nat.not_le.mpr hbl
  obtain ⟨hg10, hr30, hOK, hz, hBk, hof, hDr, hCl, s0, hse, hct⟩ := id hI
  have hKd : va_K (dC, dI) vwCl (gcT kG ++ (gmT kM ++ ([(ok, .long)]))) (s.setDrawn d) := hK
  have hXd : va_X b L xs (s.setDrawn d) s.heap := hX
  have hKg := gOK_Kg hOK
  have hKr : K.1 ≤ 30 := by rw [hOK.1]; exact hr30
  have hLF : LF K g se ct := by rw [hse, hct]; exact LF_of hg10 hKg hCl s0
  have hc1024 : ct ≤ 1024 := hLF.2
  have hft : gFt cl g = decide (0 < ct) := by rw [hct]; exact ft_pos hg10 hKg hCl s0
  refine lv_aload_n hx hb dL_law_172 rfl (lv_at hl 2 rfl) ?_
  refine lv_aload_n hx hb dL_law_173 rfl (lv_at hl 1 rfl) ?_
  refine lv_iload hx hb dL_law_174 (lv_at hl 0 rfl) ?_
  refine lv_iconst (v := 1) hx hb dL_law_176 (by decide) ?_
  refine lv_iadd hx hb dL_law_177 ?_
  refine gc_topi (y := nI (3 * jj + 1)) (nI_add (3 * jj) 1) ?_
  refine va_sld hx hb hXd hbl hbA hS (vp_in_nI (n := (3 * jj + 1)) (by omega) (by omega)) dL_law_178 ?_
  rw [nI_clamp (n := (3 * jj + 1)) (by omega)]
  refine lv_aload_n hx hb dL_law_179 rfl (lv_at hl 1 rfl) ?_
  refine lv_iload hx hb dL_law_180 (lv_at hl 0 rfl) ?_
  refine lv_iconst (v := 2) hx hb dL_law_182 (by decide) ?_
  refine lv_iadd hx hb dL_law_183 ?_
  refine gc_topi (y := nI (3 * jj + 2)) (nI_add (3 * jj) 2) ?_
  refine va_sld hx hb hXd hbl hbA hS (vp_in_nI (n := (3 * jj + 2)) (by omega) (by omega)) dL_law_184 ?_
  rw [nI_clamp (n := (3 * jj + 2)) (by omega)]
  refine lv_aload_n hx hb dL_law_185 rfl (lv_at hl 4 rfl) ?_
  have hPc : va_P (dC, dI) vwCl (gcW aG kG f1 f2 dr cl tr se (nI g) (nI r) inf (nI ct) ++ ([(oa, .inl (ok, 1, .inr (.inl ou)))])) _ := hP.sub [0, 1, 2, 3, 4, 5, 6, 13] rfl
  have hKc : va_K (dC, dI) vwCl (gcT kG ++ ([(ok, .long)])) s := hK.sub [0, 1, 2, 3, 4, 5, 11] rfl
  have hDc : va_D (fun q : Nat => s.heap.size ≤ q) (gcW aG kG f1 f2 dr cl tr se (nI g) (nI r) inf (nI ct) ++ ([(oa, .inl (ok, 1, .inr (.inl ou)))])) := hD.sub [0, 1, 2, 3, 4, 5, 6, 13] (by decide) rfl
  have hFc := va_free (wc := (gcW aG kG f1 f2 dr cl tr se (nI g) (nI r) inf (nI ct) ++ ([(oa, .inl (ok, 1, .inr (.inl ou)))]))) hD hS hA [0, 1, 2, 3, 4, 5, 6, 13] rfl
  refine va_calli (vx_runSW (As := [.ref (aG 0), .int (xs (3 * jj + 1)), .int (xs (3 * jj + 2)), .ref oa]) (rest := []) ⟨hx, hb, hml, hown, hts⟩ (wx_rule_1 l hgl dC dI aG kG f1 f2 dr cl tr se g r inf ct oa ok ou (xs (3 * jj + 1)) (xs (3 * jj + 2)) H.size (by first | assumption | omega) (by first | exact hno | exact Or.inl hno | exact Or.inr hno)) (vx_cwSW 4 hts gL_law_L_rule rfl rfl rfl (by decide +kernel) ⟨Nat.le_of_ble_eq_true rfl, Nat.le_of_ble_eq_true rfl⟩) ⟨gcPN_blind, fun U hU hW => ⟨rfl, by rw [hU], by rw [hU]; exact hPc, va_K.moved hW.alike hKc, hDc.weaken (fun _ _ _ _ => trivial), gcXA_go hXA hS hU hW⟩⟩ rfl rfl hl.1 rfl (lv_room (Nat.le_of_ble_eq_true rfl)) dL_law_186 ⟨show 14 + jj + 1 ≤ 1046 by omega, show 1295 + 6 * jj + 6 ≤ 9535 by omega⟩) hS (fun q _ h => hFc q h) hFc (fun r1 u t H locs ht hvm hw hB hz1 hk1 hS => ?_)
  obtain ⟨hP1, hD1⟩ := hB
  rw [ht] at hP1
  obtain ⟨hP, hD⟩ := va_join (wr := [(aM 0, .inr (1, [.int th, .int (nI g), .int (nI r), .ref (aM 1), .ref (aM 2), .ref (aM 3), .int (-1), .int (-1), .ref (aM 4), .ref (aM 5)])), (aM 1, .inl (kM 1, 30, .inl f1)), (aM 2, .inl (kM 2, 30, .inl f2)), (aM 3, .inl (kM 3, 30, .inl of)), (aM 4, .inl (kM 4, 20, .inl ro)), (aM 5, .inl (kM 5, 20, .inl fa))]) (w1 := (gcW aG kG f1 f2 dr cl tr se (nI g) (nI r) inf (nI ct) ++ ([(oa, .inl (ok, 1, .inr (.inl ou)))]))) hP hD [0, 1, 2, 3, 4, 5, 6, 13] [7, 8, 9, 10, 11, 12] rfl rfl (by decide) (by decide) hk1 hFc hP1 hD1
  have hP : va_P (dC, dI) vwCl (gcW aG kG f1 f2 dr cl tr se (nI g) (nI r) inf (nI ct) ++ (gmW aM kM f1 f2 of ro fa th (nI g) (nI r) (-1) (-1) ++ ([(oa, .inl (ok, 1, .inr (.inl ou)))]))) H := hP.sub [6, 7, 8, 9, 10, 11, 12, 0, 1, 2, 3, 4, 5, 13] rfl
  have hD : va_D (fun q : Nat => s.heap.size ≤ q) (gcW aG kG f1 f2 dr cl tr se (nI g) (nI r) inf (nI ct) ++ (gmW aM kM f1 f2 of ro fa th (nI g) (nI r) (-1) (-1) ++ ([(oa, .inl (ok, 1, .inr (.inl ou)))]))) := hD.sub [6, 7, 8, 9, 10, 11, 12, 0, 1, 2, 3, 4, 5, 13] (by decide) rfl
  have hw : r1 = 1 := hw
  subst hw
  clear hw
  clear hz1 hk1 ht hvm hP1 hD1 hFc hDc
  clear hPc hKc
  refine lv_istore (lv' := [(5, .int 1), (4, .int (nI (3 * jj))), (0, .ref b), (1, .ref (aG 0)), (2, .ref (aM 0)), (3, .ref oa)]) hx hb dL_law_189 hl (by decide) rfl (fun ls hl => ?_)
  refine lv_aload_n hx hb dL_law_191 rfl (lv_at hl 4 rfl) ?_
  refine lv_aload_n hx hb dL_law_192 rfl (lv_at hl 2 rfl) ?_
  refine lv_iload hx hb dL_law_193 (lv_at hl 1 rfl) ?_
  refine lv_iconst (v := 1) hx hb dL_law_195 (by decide) ?_
  refine lv_iadd hx hb dL_law_196 ?_
  refine gc_topi (y := nI (3 * jj + 1)) (nI_add (3 * jj) 1) ?_
  refine va_sld hx hb hXd hbl hbA hS (vp_in_nI (n := (3 * jj + 1)) (by omega) (by omega)) dL_law_197 ?_
  rw [nI_clamp (n := (3 * jj + 1)) (by omega)]
  refine lv_aload_n hx hb dL_law_198 rfl (lv_at hl 2 rfl) ?_
  refine lv_iload hx hb dL_law_199 (lv_at hl 1 rfl) ?_
  refine lv_iconst (v := 2) hx hb dL_law_201 (by decide) ?_
  refine lv_iadd hx hb dL_law_202 ?_
  refine gc_topi (y := nI (3 * jj + 2)) (nI_add (3 * jj) 2) ?_
  refine va_sld hx hb hXd hbl hbA hS (vp_in_nI (n := (3 * jj + 2)) (by omega) (by omega)) dL_law_203 ?_
  rw [nI_clamp (n := (3 * jj + 2)) (by omega)]
  have hPc : va_P (dC, dI) vwCl (gmW aM kM f1 f2 of ro fa th (nI g) (nI r) (-1) (-1)) _ := hP.sub [7, 8, 9, 10, 11, 12] rfl
  have hKc : va_K (dC, dI) vwCl (gmT kM) s := hK.sub [6, 7, 8, 9, 10] rfl
  have hDc : va_D (fun q : Nat => s.heap.size ≤ q) (gmW aM kM f1 f2 of ro fa th (nI g) (nI r) (-1) (-1)) := hD.sub [7, 8, 9, 10, 11, 12] (by decide) rfl
  have hFc := va_free (wc := (gmW aM kM f1 f2 of ro fa th (nI g) (nI r) (-1) (-1))) hD hS hA [7, 8, 9, 10, 11, 12] rfl
  refine va_calli (va_runV (As := [.int (xs (3 * jj + 1)), .int (xs (3 * jj + 2))]) (rest := []) ⟨hx, hb, hml, hown, hts⟩ (c_X1_rule_no1 l dC dI aM kM f1 f2 of ro fa th g r (-1) (-1) (xs (3 * jj + 1)) (xs (3 * jj + 2)) H.size (by first | assumption | omega) (by first | exact hno | exact Or.inl hno | exact Or.inr hno)) (cwV 2 hts gL_law_X1_rule rfl rfl rfl (by decide +kernel) ⟨Nat.le_of_ble_eq_true rfl, Nat.le_of_ble_eq_true rfl⟩) ⟨gcPM_blind, va_recv hK hP (ci := 1) (q0 := 7) rfl rfl, fun U hU hW => ⟨rfl, by rw [hU], by rw [hU]; exact hPc, va_K.moved hW.alike hKc, hDc.weaken (fun _ _ _ _ => trivial)⟩⟩ rfl rfl hl.1 rfl (lv_room (Nat.le_of_ble_eq_true rfl)) dL_law_204 ⟨show 14 + jj + 1 + 0 ≤ 1046 by omega, show 1295 + 6 * jj + 6 + 0 ≤ 9535 by omega⟩) hS (fun q _ h => hFc q h) hFc (fun r2 u t H locs ht hvm hw hB hz1 hk1 hS => ?_)
  obtain ⟨hP1, hD1⟩ := hB
  rw [ht] at hP1
  obtain ⟨hP, hD⟩ := va_join (wr := [(aG 0, .inr (0, [.ref (aG 1), .ref (aG 2), .ref (aG 3), .ref (aG 4), .ref (aG 5), .ref (aG 6), .int (nI g), .int (nI r), .int inf, .int (nI ct)])), (aG 1, .inl (kG 1, 30, .inl f1)), (aG 2, .inl (kG 2, 30, .inl f2)), (aG 3, .inl (kG 3, 20, .inl dr)), (aG 4, .inl (kG 4, 20, .inl cl)), (aG 5, .inl (kG 5, 20, .inl tr)), (aG 6, .inl (kG 6, 1024, .inl se)), (oa, .inl (ok, 1, .inr (.inl ou)))]) (w1 := (gmW aM kM f1 f2 of ro fa 1 (nI g) (nI r) (-1) (-1))) hP hD [7, 8, 9, 10, 11, 12] [0, 1, 2, 3, 4, 5, 6, 13] rfl rfl (by decide) (by decide) hk1 hFc hP1 hD1
  have hP : va_P (dC, dI) vwCl (gcW aG kG f1 f2 dr cl tr se (nI g) (nI r) inf (nI ct) ++ (gmW aM kM f1 f2 of ro fa 1 (nI g) (nI r) (-1) (-1) ++ ([(oa, .inl (ok, 1, .inr (.inl ou)))]))) H := hP.sub [0, 1, 2, 3, 4, 5, 6, 8, 9, 10, 11, 12, 13, 7] rfl
  have hD : va_D (fun q : Nat => s.heap.size ≤ q) (gcW aG kG f1 f2 dr cl tr se (nI g) (nI r) inf (nI ct) ++ (gmW aM kM f1 f2 of ro fa 1 (nI g) (nI r) (-1) (-1) ++ ([(oa, .inl (ok, 1, .inr (.inl ou)))]))) := hD.sub [0, 1, 2, 3, 4, 5, 6, 8, 9, 10, 11, 12, 13, 7] (by decide) rfl
  have hw_204 : True := hw
  clear hz1 hk1 ht hvm hP1 hD1 hFc hDc
  clear hPc hKc
  refine lv_istore (lv' := [(6, .int r2), (5, .int 1), (4, .int (nI (3 * jj))), (0, .ref b), (1, .ref (aG 0)), (2, .ref (aM 0)), (3, .ref oa)]) hx hb dL_law_207 hl (by decide) rfl (fun ls hl => ?_)
  refine lv_aload_n hx hb dL_law_209 rfl (lv_at hl 5 rfl) ?_
  have hPc : va_P (dC, dI) vwCl (gmW aM kM f1 f2 of ro fa 1 (nI g) (nI r) (-1) (-1)) _ := hP.sub [7, 8, 9, 10, 11, 12] rfl
  have hKc : va_K (dC, dI) vwCl (gmT kM) s := hK.sub [6, 7, 8, 9, 10] rfl
  refine va_calli (va_runV (As := []) (rest := []) ⟨hx, hb, hml, hown, hts⟩ (c_X1_thrown l dC dI aM kM f1 f2 of ro fa 1 g r (-1) (-1)) (cwV 0 hts gL_law_X1_thrown rfl rfl rfl (by decide +kernel) ⟨Nat.le_of_ble_eq_true rfl, Nat.le_of_ble_eq_true rfl⟩) ⟨gcPR_blind, va_recv hK hP (ci := 1) (q0 := 7) rfl rfl, fun U hU hW => ⟨rfl, by rw [hU]; exact hPc, va_K.moved hW.alike hKc⟩⟩ rfl rfl hl.1 rfl (lv_room (Nat.le_of_ble_eq_true rfl)) dL_law_210 ⟨show 14 + jj + 1 + 0 + 0 ≤ 1046 by omega, show 1295 + 6 * jj + 6 + 0 + 0 ≤ 9535 by omega⟩) hS (fun q _ h => h.elim) (fun q h => h.elim) (fun r3 u t H locs ht hvm hw hB hz1 hk1 hS => ?_)
  have hP := gc_keep hP hk1
  have hw : r3 = 1 := hw
  subst hw
  clear hw
  clear hB hz1 hk1 ht hvm
  clear hPc hKc
  refine lv_iload hx hb dL_law_213 (lv_at hl 1 rfl) ?_
  refine lv_icmp_eq (tgt := 220) hx hb dL_law_215 (by decide) (fun c_215 => ?_) (fun c_215 => absurd rfl c_215)
  refine lv_iload hx hb dL_law_220 (lv_at hl 1 rfl) ?_
  refine lv_if_ne (tgt := 237) hx hb dL_law_222 (by decide) (fun c_222 => ?_) (fun c_222 => ?_)
  · skip
    refine lv_goto (tgt := 951) hx hb dL_law_237 (by decide) ?_
    refine lv_iinc (v := nI (3 * (jj + 1))) (lv' := [(4, .int (nI (3 * (jj + 1)))), (6, .int r2), (5, .int 1), (0, .ref b), (1, .ref (aG 0)), (2, .ref (aM 0)), (3, .ref oa)]) hx hb dL_law_951 hl (k := 2) rfl (nI_3 jj) (by decide) rfl (fun ls hl => ?_)
    refine lv_goto (tgt := 23) hx hb dL_law_954 (by decide) ?_
    refine W.widen (k := 14 + (jj + 1)) (n := 1295 + 6 * (jj + 1)) (by omega) (by omega) ?_
    exact ih d H _ ls hd ⟨K, g, r, f1, f2, dr, cl, tr, se, inf, ct, of, ro, fa, 1, ou, hI, hP, hD, hS, lv_sub hl [0, 3, 4, 5, 6] rfl⟩
  · skip
    exact absurd c_222 (by decide)
set_option maxHeartbeats 4000000 in
set_option maxRecDepth 100000 in
theorem law_1y {p : Program} {e : Env} {s : State} {m : MethodId} {below : List Frame} {meth : Method} {c : Code} (l : Launch) (hgl : l.stackTraces = false) {b L : Nat} {xs : Nat → Int32} (hL : L ≤ 1536) (C0 : lw_At p s m meth c b L xs) {dC : Nat → ClassId} {dI : Nat → Nat → Nat} {aG : Nat → Nat} {kG : Nat → ClassId} {aM : Nat → Nat} {kM : Nat → ClassId} {oa : Nat} {ok : ClassId} (hK : va_K (dC, dI) vwCl (gcT kG ++ (gmT kM ++ ([(ok, .long)]))) s) (hXA : gcXA (fun q : Nat => s.heap.size ≤ q) s) {jj : Nat} (hj : 3 * jj + 3 ≤ L) {d : Drawn} (hd : s.drawn.sameBut d lw_cs) {K : Bk} {g r : Nat} {f1 f2 dr cl tr se : Nat → Int32} {inf : Int32} {ct : Nat} {of ro fa : Nat → Int32} {th : Int32} {ou : Nat → Int64} (hI : Inv K g r f1 f2 inf dr cl se ct of) {H : Heap} {locs : List Loc} {ls : Array Slot} (hP : va_P (dC, dI) vwCl (gcW aG kG f1 f2 dr cl tr se (nI g) (nI r) inf (nI ct) ++ (gmW aM kM f1 f2 of ro fa th (nI g) (nI r) (-1) (-1) ++ ([(oa, .inl (ok, 1, .inr (.inl ou)))]))) H) (hD : va_D (fun q : Nat => s.heap.size ≤ q) (gcW aG kG f1 f2 dr cl tr se (nI g) (nI r) inf (nI ct) ++ (gmW aM kM f1 f2 of ro fa th (nI g) (nI r) (-1) (-1) ++ ([(oa, .inl (ok, 1, .inr (.inl ou)))])))) (hS : va_S (fun q : Nat => s.heap.size ≤ q) s.heap H locs) (hl : lv_has ls 9 [(4, .int (nI (3 * jj))), (0, .ref b), (1, .ref (aG 0)), (2, .ref (aM 0)), (3, .ref oa)]) (ih : ∀ (d1 : Drawn) (H1 : Heap) (locs1 : List Loc) (ls1 : Array Slot), s.drawn.sameBut d1 lw_cs → LSt dC dI s b aG kG aM kM oa ok (jj + 1) H1 locs1 ls1 → W p l e room_1 (s.setDrawn d1) m #[Value.ref b] below meth c H1 locs1 (14 + (jj + 1)) (1295 + 6 * (jj + 1)) (lw_Z below #[Value.ref b] s) (F0 m 23 ls1 [])) {wa : Nat} (ha : wa < 2 * g) (h1 : xs (3 * jj + 1) = nI wa) (h2 : xs (3 * jj + 2) = nI wa) : W p l e room_1 (s.setDrawn d) m #[Value.ref b] below meth c H locs (14 + jj) (1295 + 6 * jj) (lw_Z below #[Value.ref b] s) (F0 m 172 ls []) := by
  obtain ⟨hx, hb, hr, hml, hown, hts0, hX, hbl, hlocks, hgv⟩ := C0
  have hown : s.vm.findClass RL = some m.cls := hown
  have hts1 : ∀ w ∈ wsL_law, w.before #[Value.ref b] s = true := fun w h => hts0 w (wsL_law_in w h)
  have hts := dr_words hts1 d
  have hA : ∀ q : Nat, s.heap.size ≤ q → (fun q : Nat => s.heap.size ≤ q) q := fun _ h => h
  have hbA : ¬ (fun q : Nat => s.heap.size ≤ q) b := Nat.not_le.mpr hbl
  obtain ⟨hg10, hr30, hOK, hz, hBk, hof, hDr, hCl, s0, hse, hct⟩ := id hI
  have hKd : va_K (dC, dI) vwCl (gcT kG ++ (gmT kM ++ ([(ok, .long)]))) (s.setDrawn d) := hK
  have hXd : va_X b L xs (s.setDrawn d) s.heap := hX
  have hKg := gOK_Kg hOK
  have hKr : K.1 ≤ 30 := by rw [hOK.1]; exact hr30
  have hLF : LF K g se ct := by rw [hse, hct]; exact LF_of hg10 hKg hCl s0
  have hc1024 : ct ≤ 1024 := hLF.2
  have hft : gFt cl g = decide (0 < ct) := by rw [hct]; exact ft_pos hg10 hKg hCl s0
  refine lv_aload_n hx hb dL_law_172 rfl (lv_at hl 2 rfl) ?_
  refine lv_aload_n hx hb dL_law_173 rfl (lv_at hl 1 rfl) ?_
  refine lv_iload hx hb dL_law_174 (lv_at hl 0 rfl) ?_
  refine lv_iconst (v := 1) hx hb dL_law_176 (by decide) ?_
  refine lv_iadd hx hb dL_law_177 ?_
  refine gc_topi (y := nI (3 * jj + 1)) (nI_add (3 * jj) 1) ?_
  refine va_sld hx hb hXd hbl hbA hS (vp_in_nI (n := (3 * jj + 1)) (by omega) (by omega)) dL_law_178 ?_
  rw [nI_clamp (n := (3 * jj + 1)) (by omega)]
  refine gc_topi (y := nI wa) (h1) ?_
  refine lv_aload_n hx hb dL_law_179 rfl (lv_at hl 1 rfl) ?_
  refine lv_iload hx hb dL_law_180 (lv_at hl 0 rfl) ?_
  refine lv_iconst (v := 2) hx hb dL_law_182 (by decide) ?_
  refine lv_iadd hx hb dL_law_183 ?_
  refine gc_topi (y := nI (3 * jj + 2)) (nI_add (3 * jj) 2) ?_
  refine va_sld hx hb hXd hbl hbA hS (vp_in_nI (n := (3 * jj + 2)) (by omega) (by omega)) dL_law_184 ?_
  rw [nI_clamp (n := (3 * jj + 2)) (by omega)]
  refine gc_topi (y := nI wa) (h2) ?_
  refine lv_aload_n hx hb dL_law_185 rfl (lv_at hl 4 rfl) ?_
  have hPc : va_P (dC, dI) vwCl (gcW aG kG f1 f2 dr cl tr se (nI g) (nI r) inf (nI ct) ++ ([(oa, .inl (ok, 1, .inr (.inl ou)))])) _ := hP.sub [0, 1, 2, 3, 4, 5, 6, 13] rfl
  have hKc : va_K (dC, dI) vwCl (gcT kG ++ ([(ok, .long)])) s := hK.sub [0, 1, 2, 3, 4, 5, 11] rfl
  have hDc : va_D (fun q : Nat => s.heap.size ≤ q) (gcW aG kG f1 f2 dr cl tr se (nI g) (nI r) inf (nI ct) ++ ([(oa, .inl (ok, 1, .inr (.inl ou)))])) := hD.sub [0, 1, 2, 3, 4, 5, 6, 13] (by decide) rfl
  have hFc := va_free (wc := (gcW aG kG f1 f2 dr cl tr se (nI g) (nI r) inf (nI ct) ++ ([(oa, .inl (ok, 1, .inr (.inl ou)))]))) hD hS hA [0, 1, 2, 3, 4, 5, 6, 13] rfl
  refine va_calli (vx_runSW (As := [.ref (aG 0), .int (nI wa), .int (nI wa), .ref oa]) (rest := []) ⟨hx, hb, hml, hown, hts⟩ (wx_rule_2 l hgl dC dI aG kG f1 f2 dr cl tr se g r inf ct oa ok ou wa H.size (by first | assumption | omega) (by first | assumption | omega)) (vx_cwSW 4 hts gL_law_L_rule rfl rfl rfl (by decide +kernel) ⟨Nat.le_of_ble_eq_true rfl, Nat.le_of_ble_eq_true rfl⟩) ⟨gcPN_blind, fun U hU hW => ⟨rfl, by rw [hU], by rw [hU]; exact hPc, va_K.moved hW.alike hKc, hDc.weaken (fun _ _ _ _ => trivial), gcXA_go hXA hS hU hW⟩⟩ rfl rfl hl.1 rfl (lv_room (Nat.le_of_ble_eq_true rfl)) dL_law_186 ⟨show 14 + jj + 1 ≤ 1046 by omega, show 1295 + 6 * jj + 6 ≤ 9535 by omega⟩) hS (fun q _ h => hFc q h) hFc (fun r1 u t H locs ht hvm hw hB hz1 hk1 hS => ?_)
  obtain ⟨hP1, hD1⟩ := hB
  rw [ht] at hP1
  obtain ⟨hP, hD⟩ := va_join (wr := [(aM 0, .inr (1, [.int th, .int (nI g), .int (nI r), .ref (aM 1), .ref (aM 2), .ref (aM 3), .int (-1), .int (-1), .ref (aM 4), .ref (aM 5)])), (aM 1, .inl (kM 1, 30, .inl f1)), (aM 2, .inl (kM 2, 30, .inl f2)), (aM 3, .inl (kM 3, 30, .inl of)), (aM 4, .inl (kM 4, 20, .inl ro)), (aM 5, .inl (kM 5, 20, .inl fa))]) (w1 := (gcW aG kG f1 f2 dr cl tr se (nI g) (nI r) inf (nI ct) ++ ([(oa, .inl (ok, 1, .inr (.inl ou)))]))) hP hD [0, 1, 2, 3, 4, 5, 6, 13] [7, 8, 9, 10, 11, 12] rfl rfl (by decide) (by decide) hk1 hFc hP1 hD1
  have hP : va_P (dC, dI) vwCl (gcW aG kG f1 f2 dr cl tr se (nI g) (nI r) inf (nI ct) ++ (gmW aM kM f1 f2 of ro fa th (nI g) (nI r) (-1) (-1) ++ ([(oa, .inl (ok, 1, .inr (.inl ou)))]))) H := hP.sub [6, 7, 8, 9, 10, 11, 12, 0, 1, 2, 3, 4, 5, 13] rfl
  have hD : va_D (fun q : Nat => s.heap.size ≤ q) (gcW aG kG f1 f2 dr cl tr se (nI g) (nI r) inf (nI ct) ++ (gmW aM kM f1 f2 of ro fa th (nI g) (nI r) (-1) (-1) ++ ([(oa, .inl (ok, 1, .inr (.inl ou)))]))) := hD.sub [6, 7, 8, 9, 10, 11, 12, 0, 1, 2, 3, 4, 5, 13] (by decide) rfl
  have hw : r1 = 2 := hw
  subst hw
  clear hw
  clear hz1 hk1 ht hvm hP1 hD1 hFc hDc
  clear hPc hKc
  refine lv_istore (lv' := [(5, .int 2), (4, .int (nI (3 * jj))), (0, .ref b), (1, .ref (aG 0)), (2, .ref (aM 0)), (3, .ref oa)]) hx hb dL_law_189 hl (by decide) rfl (fun ls hl => ?_)
  refine lv_aload_n hx hb dL_law_191 rfl (lv_at hl 4 rfl) ?_
  refine lv_aload_n hx hb dL_law_192 rfl (lv_at hl 2 rfl) ?_
  refine lv_iload hx hb dL_law_193 (lv_at hl 1 rfl) ?_
  refine lv_iconst (v := 1) hx hb dL_law_195 (by decide) ?_
  refine lv_iadd hx hb dL_law_196 ?_
  refine gc_topi (y := nI (3 * jj + 1)) (nI_add (3 * jj) 1) ?_
  refine va_sld hx hb hXd hbl hbA hS (vp_in_nI (n := (3 * jj + 1)) (by omega) (by omega)) dL_law_197 ?_
  rw [nI_clamp (n := (3 * jj + 1)) (by omega)]
  refine gc_topi (y := nI wa) (h1) ?_
  refine lv_aload_n hx hb dL_law_198 rfl (lv_at hl 2 rfl) ?_
  refine lv_iload hx hb dL_law_199 (lv_at hl 1 rfl) ?_
  refine lv_iconst (v := 2) hx hb dL_law_201 (by decide) ?_
  refine lv_iadd hx hb dL_law_202 ?_
  refine gc_topi (y := nI (3 * jj + 2)) (nI_add (3 * jj) 2) ?_
  refine va_sld hx hb hXd hbl hbA hS (vp_in_nI (n := (3 * jj + 2)) (by omega) (by omega)) dL_law_203 ?_
  rw [nI_clamp (n := (3 * jj + 2)) (by omega)]
  refine gc_topi (y := nI wa) (h2) ?_
  have hPc : va_P (dC, dI) vwCl (gmW aM kM f1 f2 of ro fa th (nI g) (nI r) (-1) (-1)) _ := hP.sub [7, 8, 9, 10, 11, 12] rfl
  have hKc : va_K (dC, dI) vwCl (gmT kM) s := hK.sub [6, 7, 8, 9, 10] rfl
  have hDc : va_D (fun q : Nat => s.heap.size ≤ q) (gmW aM kM f1 f2 of ro fa th (nI g) (nI r) (-1) (-1)) := hD.sub [7, 8, 9, 10, 11, 12] (by decide) rfl
  have hFc := va_free (wc := (gmW aM kM f1 f2 of ro fa th (nI g) (nI r) (-1) (-1))) hD hS hA [7, 8, 9, 10, 11, 12] rfl
  refine va_calli (va_runV (As := [.int (nI wa), .int (nI wa)]) (rest := []) ⟨hx, hb, hml, hown, hts⟩ (c_X1_rule_no2 l dC dI aM kM f1 f2 of ro fa th g r (-1) (-1) wa H.size (by first | assumption | omega) (by first | assumption | omega)) (cwV 2 hts gL_law_X1_rule rfl rfl rfl (by decide +kernel) ⟨Nat.le_of_ble_eq_true rfl, Nat.le_of_ble_eq_true rfl⟩) ⟨gcPM_blind, va_recv hK hP (ci := 1) (q0 := 7) rfl rfl, fun U hU hW => ⟨rfl, by rw [hU], by rw [hU]; exact hPc, va_K.moved hW.alike hKc, hDc.weaken (fun _ _ _ _ => trivial)⟩⟩ rfl rfl hl.1 rfl (lv_room (Nat.le_of_ble_eq_true rfl)) dL_law_204 ⟨show 14 + jj + 1 + 0 ≤ 1046 by omega, show 1295 + 6 * jj + 6 + 0 ≤ 9535 by omega⟩) hS (fun q _ h => hFc q h) hFc (fun r2 u t H locs ht hvm hw hB hz1 hk1 hS => ?_)
  obtain ⟨hP1, hD1⟩ := hB
  rw [ht] at hP1
  obtain ⟨hP, hD⟩ := va_join (wr := [(aG 0, .inr (0, [.ref (aG 1), .ref (aG 2), .ref (aG 3), .ref (aG 4), .ref (aG 5), .ref (aG 6), .int (nI g), .int (nI r), .int inf, .int (nI ct)])), (aG 1, .inl (kG 1, 30, .inl f1)), (aG 2, .inl (kG 2, 30, .inl f2)), (aG 3, .inl (kG 3, 20, .inl dr)), (aG 4, .inl (kG 4, 20, .inl cl)), (aG 5, .inl (kG 5, 20, .inl tr)), (aG 6, .inl (kG 6, 1024, .inl se)), (oa, .inl (ok, 1, .inr (.inl ou)))]) (w1 := (gmW aM kM f1 f2 of ro fa 2 (nI g) (nI r) (-1) (-1))) hP hD [7, 8, 9, 10, 11, 12] [0, 1, 2, 3, 4, 5, 6, 13] rfl rfl (by decide) (by decide) hk1 hFc hP1 hD1
  have hP : va_P (dC, dI) vwCl (gcW aG kG f1 f2 dr cl tr se (nI g) (nI r) inf (nI ct) ++ (gmW aM kM f1 f2 of ro fa 2 (nI g) (nI r) (-1) (-1) ++ ([(oa, .inl (ok, 1, .inr (.inl ou)))]))) H := hP.sub [0, 1, 2, 3, 4, 5, 6, 8, 9, 10, 11, 12, 13, 7] rfl
  have hD : va_D (fun q : Nat => s.heap.size ≤ q) (gcW aG kG f1 f2 dr cl tr se (nI g) (nI r) inf (nI ct) ++ (gmW aM kM f1 f2 of ro fa 2 (nI g) (nI r) (-1) (-1) ++ ([(oa, .inl (ok, 1, .inr (.inl ou)))]))) := hD.sub [0, 1, 2, 3, 4, 5, 6, 8, 9, 10, 11, 12, 13, 7] (by decide) rfl
  have hw_204 : True := hw
  clear hz1 hk1 ht hvm hP1 hD1 hFc hDc
  clear hPc hKc
  refine lv_istore (lv' := [(6, .int r2), (5, .int 2), (4, .int (nI (3 * jj))), (0, .ref b), (1, .ref (aG 0)), (2, .ref (aM 0)), (3, .ref oa)]) hx hb dL_law_207 hl (by decide) rfl (fun ls hl => ?_)
  refine lv_aload_n hx hb dL_law_209 rfl (lv_at hl 5 rfl) ?_
  have hPc : va_P (dC, dI) vwCl (gmW aM kM f1 f2 of ro fa 2 (nI g) (nI r) (-1) (-1)) _ := hP.sub [7, 8, 9, 10, 11, 12] rfl
  have hKc : va_K (dC, dI) vwCl (gmT kM) s := hK.sub [6, 7, 8, 9, 10] rfl
  refine va_calli (va_runV (As := []) (rest := []) ⟨hx, hb, hml, hown, hts⟩ (c_X1_thrown l dC dI aM kM f1 f2 of ro fa 2 g r (-1) (-1)) (cwV 0 hts gL_law_X1_thrown rfl rfl rfl (by decide +kernel) ⟨Nat.le_of_ble_eq_true rfl, Nat.le_of_ble_eq_true rfl⟩) ⟨gcPR_blind, va_recv hK hP (ci := 1) (q0 := 7) rfl rfl, fun U hU hW => ⟨rfl, by rw [hU]; exact hPc, va_K.moved hW.alike hKc⟩⟩ rfl rfl hl.1 rfl (lv_room (Nat.le_of_ble_eq_true rfl)) dL_law_210 ⟨show 14 + jj + 1 + 0 + 0 ≤ 1046 by omega, show 1295 + 6 * jj + 6 + 0 + 0 ≤ 9535 by omega⟩) hS (fun q _ h => h.elim) (fun q h => h.elim) (fun r3 u t H locs ht hvm hw hB hz1 hk1 hS => ?_)
  have hP := gc_keep hP hk1
  have hw : r3 = 2 := hw
  subst hw
  clear hw
  clear hB hz1 hk1 ht hvm
  clear hPc hKc
  refine lv_iload hx hb dL_law_213 (lv_at hl 1 rfl) ?_
  refine lv_icmp_eq (tgt := 220) hx hb dL_law_215 (by decide) (fun c_215 => ?_) (fun c_215 => absurd rfl c_215)
  refine lv_iload hx hb dL_law_220 (lv_at hl 1 rfl) ?_
  refine lv_if_ne (tgt := 237) hx hb dL_law_222 (by decide) (fun c_222 => ?_) (fun c_222 => ?_)
  · skip
    refine lv_goto (tgt := 951) hx hb dL_law_237 (by decide) ?_
    refine lv_iinc (v := nI (3 * (jj + 1))) (lv' := [(4, .int (nI (3 * (jj + 1)))), (6, .int r2), (5, .int 2), (0, .ref b), (1, .ref (aG 0)), (2, .ref (aM 0)), (3, .ref oa)]) hx hb dL_law_951 hl (k := 2) rfl (nI_3 jj) (by decide) rfl (fun ls hl => ?_)
    refine lv_goto (tgt := 23) hx hb dL_law_954 (by decide) ?_
    refine W.widen (k := 14 + (jj + 1)) (n := 1295 + 6 * (jj + 1)) (by omega) (by omega) ?_
    exact ih d H _ ls hd ⟨K, g, r, f1, f2, dr, cl, tr, se, inf, ct, of, ro, fa, 2, ou, hI, hP, hD, hS, lv_sub hl [0, 3, 4, 5, 6] rfl⟩
  · skip
    exact absurd c_222 (by decide)
set_option maxHeartbeats 4000000 in
set_option maxRecDepth 100000 in
theorem law_1z {p : Program} {e : Env} {s : State} {m : MethodId} {below : List Frame} {meth : Method} {c : Code} (l : Launch) (hgl : l.stackTraces = false) {b L : Nat} {xs : Nat → Int32} (hL : L ≤ 1536) (C0 : lw_At p s m meth c b L xs) {dC : Nat → ClassId} {dI : Nat → Nat → Nat} {aG : Nat → Nat} {kG : Nat → ClassId} {aM : Nat → Nat} {kM : Nat → ClassId} {oa : Nat} {ok : ClassId} (hK : va_K (dC, dI) vwCl (gcT kG ++ (gmT kM ++ ([(ok, .long)]))) s) (hXA : gcXA (fun q : Nat => s.heap.size ≤ q) s) {jj : Nat} (hj : 3 * jj + 3 ≤ L) {d : Drawn} (hd : s.drawn.sameBut d lw_cs) {K : Bk} {g r : Nat} {f1 f2 dr cl tr se : Nat → Int32} {inf : Int32} {ct : Nat} {of ro fa : Nat → Int32} {th : Int32} {ou : Nat → Int64} (hI : Inv K g r f1 f2 inf dr cl se ct of) {H : Heap} {locs : List Loc} {ls : Array Slot} (hP : va_P (dC, dI) vwCl (gcW aG kG f1 f2 dr cl tr se (nI g) (nI r) inf (nI ct) ++ (gmW aM kM f1 f2 of ro fa th (nI g) (nI r) (-1) (-1) ++ ([(oa, .inl (ok, 1, .inr (.inl ou)))]))) H) (hD : va_D (fun q : Nat => s.heap.size ≤ q) (gcW aG kG f1 f2 dr cl tr se (nI g) (nI r) inf (nI ct) ++ (gmW aM kM f1 f2 of ro fa th (nI g) (nI r) (-1) (-1) ++ ([(oa, .inl (ok, 1, .inr (.inl ou)))])))) (hS : va_S (fun q : Nat => s.heap.size ≤ q) s.heap H locs) (hl : lv_has ls 9 [(4, .int (nI (3 * jj))), (0, .ref b), (1, .ref (aG 0)), (2, .ref (aM 0)), (3, .ref oa)]) (ih : ∀ (d1 : Drawn) (H1 : Heap) (locs1 : List Loc) (ls1 : Array Slot), s.drawn.sameBut d1 lw_cs → LSt dC dI s b aG kG aM kM oa ok (jj + 1) H1 locs1 ls1 → W p l e room_1 (s.setDrawn d1) m #[Value.ref b] below meth c H1 locs1 (14 + (jj + 1)) (1295 + 6 * (jj + 1)) (lw_Z below #[Value.ref b] s) (F0 m 23 ls1 [])) {wa wb : Nat} (ha : wa < 2 * g) (hb2 : wb < 2 * g) (h1 : xs (3 * jj + 1) = nI wa) (h2 : xs (3 * jj + 2) = nI wb) (hr9 : r = 30) (hne : ¬ wa = wb) : W p l e room_1 (s.setDrawn d) m #[Value.ref b] below meth c H locs (14 + jj) (1295 + 6 * jj) (lw_Z below #[Value.ref b] s) (F0 m 172 ls []) := by
  obtain ⟨hx, hb, hr, hml, hown, hts0, hX, hbl, hlocks, hgv⟩ := C0
  have hown : s.vm.findClass RL = some m.cls := hown
  have hts1 : ∀ w ∈ wsL_law, w.before #[Value.ref b] s = true := fun w h => hts0 w (wsL_law_in w h)
  have hts := dr_words hts1 d
  have hA : ∀ q : Nat, s.heap.size ≤ q → (fun q : Nat => s.heap.size ≤ q) q := fun _ h => h
  have hbA : ¬ (fun q : Nat => s.heap.size ≤ q) b := Nat.not_le.mpr hbl
  obtain ⟨hg10, hr30, hOK, hz, hBk, hof, hDr, hCl, s0, hse, hct⟩ := id hI
  have hKd : va_K (dC, dI) vwCl (gcT kG ++ (gmT kM ++ ([(ok, .long)]))) (s.setDrawn d) := hK
  have hXd : va_X b L xs (s.setDrawn d) s.heap := hX
  have hKg := gOK_Kg hOK
  have hKr : K.1 ≤ 30 := by rw [hOK.1]; exact hr30
  have hLF : LF K g se ct := by rw [hse, hct]; exact LF_of hg10 hKg hCl s0
  have hc1024 : ct ≤ 1024 := hLF.2
  have hft : gFt cl g = decide (0 < ct) := by rw [hct]; exact ft_pos hg10 hKg hCl s0
  refine lv_aload_n hx hb dL_law_172 rfl (lv_at hl 2 rfl) ?_
  refine lv_aload_n hx hb dL_law_173 rfl (lv_at hl 1 rfl) ?_
  refine lv_iload hx hb dL_law_174 (lv_at hl 0 rfl) ?_
  refine lv_iconst (v := 1) hx hb dL_law_176 (by decide) ?_
  refine lv_iadd hx hb dL_law_177 ?_
  refine gc_topi (y := nI (3 * jj + 1)) (nI_add (3 * jj) 1) ?_
  refine va_sld hx hb hXd hbl hbA hS (vp_in_nI (n := (3 * jj + 1)) (by omega) (by omega)) dL_law_178 ?_
  rw [nI_clamp (n := (3 * jj + 1)) (by omega)]
  refine gc_topi (y := nI wa) (h1) ?_
  refine lv_aload_n hx hb dL_law_179 rfl (lv_at hl 1 rfl) ?_
  refine lv_iload hx hb dL_law_180 (lv_at hl 0 rfl) ?_
  refine lv_iconst (v := 2) hx hb dL_law_182 (by decide) ?_
  refine lv_iadd hx hb dL_law_183 ?_
  refine gc_topi (y := nI (3 * jj + 2)) (nI_add (3 * jj) 2) ?_
  refine va_sld hx hb hXd hbl hbA hS (vp_in_nI (n := (3 * jj + 2)) (by omega) (by omega)) dL_law_184 ?_
  rw [nI_clamp (n := (3 * jj + 2)) (by omega)]
  refine gc_topi (y := nI wb) (h2) ?_
  refine lv_aload_n hx hb dL_law_185 rfl (lv_at hl 4 rfl) ?_
  have hPc : va_P (dC, dI) vwCl (gcW aG kG f1 f2 dr cl tr se (nI g) (nI r) inf (nI ct) ++ ([(oa, .inl (ok, 1, .inr (.inl ou)))])) _ := hP.sub [0, 1, 2, 3, 4, 5, 6, 13] rfl
  have hKc : va_K (dC, dI) vwCl (gcT kG ++ ([(ok, .long)])) s := hK.sub [0, 1, 2, 3, 4, 5, 11] rfl
  have hDc : va_D (fun q : Nat => s.heap.size ≤ q) (gcW aG kG f1 f2 dr cl tr se (nI g) (nI r) inf (nI ct) ++ ([(oa, .inl (ok, 1, .inr (.inl ou)))])) := hD.sub [0, 1, 2, 3, 4, 5, 6, 13] (by decide) rfl
  have hFc := va_free (wc := (gcW aG kG f1 f2 dr cl tr se (nI g) (nI r) inf (nI ct) ++ ([(oa, .inl (ok, 1, .inr (.inl ou)))]))) hD hS hA [0, 1, 2, 3, 4, 5, 6, 13] rfl
  refine va_calli (vx_runSW (As := [.ref (aG 0), .int (nI wa), .int (nI wb), .ref oa]) (rest := []) ⟨hx, hb, hml, hown, hts⟩ (wx_rule_3 l hgl dC dI aG kG f1 f2 dr cl tr se g r inf ct oa ok ou wa wb H.size (by first | assumption | omega) (by first | assumption | omega) (by first | assumption | omega) (by first | assumption | omega) (by first | assumption | omega)) (vx_cwSW 4 hts gL_law_L_rule rfl rfl rfl (by decide +kernel) ⟨Nat.le_of_ble_eq_true rfl, Nat.le_of_ble_eq_true rfl⟩) ⟨gcPN_blind, fun U hU hW => ⟨rfl, by rw [hU], by rw [hU]; exact hPc, va_K.moved hW.alike hKc, hDc.weaken (fun _ _ _ _ => trivial), gcXA_go hXA hS hU hW⟩⟩ rfl rfl hl.1 rfl (lv_room (Nat.le_of_ble_eq_true rfl)) dL_law_186 ⟨show 14 + jj + 1 ≤ 1046 by omega, show 1295 + 6 * jj + 6 ≤ 9535 by omega⟩) hS (fun q _ h => hFc q h) hFc (fun r1 u t H locs ht hvm hw hB hz1 hk1 hS => ?_)
  obtain ⟨hP1, hD1⟩ := hB
  rw [ht] at hP1
  obtain ⟨hP, hD⟩ := va_join (wr := [(aM 0, .inr (1, [.int th, .int (nI g), .int (nI r), .ref (aM 1), .ref (aM 2), .ref (aM 3), .int (-1), .int (-1), .ref (aM 4), .ref (aM 5)])), (aM 1, .inl (kM 1, 30, .inl f1)), (aM 2, .inl (kM 2, 30, .inl f2)), (aM 3, .inl (kM 3, 30, .inl of)), (aM 4, .inl (kM 4, 20, .inl ro)), (aM 5, .inl (kM 5, 20, .inl fa))]) (w1 := (gcW aG kG f1 f2 dr cl tr se (nI g) (nI r) inf (nI ct) ++ ([(oa, .inl (ok, 1, .inr (.inl ou)))]))) hP hD [0, 1, 2, 3, 4, 5, 6, 13] [7, 8, 9, 10, 11, 12] rfl rfl (by decide) (by decide) hk1 hFc hP1 hD1
  have hP : va_P (dC, dI) vwCl (gcW aG kG f1 f2 dr cl tr se (nI g) (nI r) inf (nI ct) ++ (gmW aM kM f1 f2 of ro fa th (nI g) (nI r) (-1) (-1) ++ ([(oa, .inl (ok, 1, .inr (.inl ou)))]))) H := hP.sub [6, 7, 8, 9, 10, 11, 12, 0, 1, 2, 3, 4, 5, 13] rfl
  have hD : va_D (fun q : Nat => s.heap.size ≤ q) (gcW aG kG f1 f2 dr cl tr se (nI g) (nI r) inf (nI ct) ++ (gmW aM kM f1 f2 of ro fa th (nI g) (nI r) (-1) (-1) ++ ([(oa, .inl (ok, 1, .inr (.inl ou)))]))) := hD.sub [6, 7, 8, 9, 10, 11, 12, 0, 1, 2, 3, 4, 5, 13] (by decide) rfl
  have hw : r1 = 3 := hw
  subst hw
  clear hw
  clear hz1 hk1 ht hvm hP1 hD1 hFc hDc
  clear hPc hKc
  refine lv_istore (lv' := [(5, .int 3), (4, .int (nI (3 * jj))), (0, .ref b), (1, .ref (aG 0)), (2, .ref (aM 0)), (3, .ref oa)]) hx hb dL_law_189 hl (by decide) rfl (fun ls hl => ?_)
  refine lv_aload_n hx hb dL_law_191 rfl (lv_at hl 4 rfl) ?_
  refine lv_aload_n hx hb dL_law_192 rfl (lv_at hl 2 rfl) ?_
  refine lv_iload hx hb dL_law_193 (lv_at hl 1 rfl) ?_
  refine lv_iconst (v := 1) hx hb dL_law_195 (by decide) ?_
  refine lv_iadd hx hb dL_law_196 ?_
  refine gc_topi (y := nI (3 * jj + 1)) (nI_add (3 * jj) 1) ?_
  refine va_sld hx hb hXd hbl hbA hS (vp_in_nI (n := (3 * jj + 1)) (by omega) (by omega)) dL_law_197 ?_
  rw [nI_clamp (n := (3 * jj + 1)) (by omega)]
  refine gc_topi (y := nI wa) (h1) ?_
  refine lv_aload_n hx hb dL_law_198 rfl (lv_at hl 2 rfl) ?_
  refine lv_iload hx hb dL_law_199 (lv_at hl 1 rfl) ?_
  refine lv_iconst (v := 2) hx hb dL_law_201 (by decide) ?_
  refine lv_iadd hx hb dL_law_202 ?_
  refine gc_topi (y := nI (3 * jj + 2)) (nI_add (3 * jj) 2) ?_
  refine va_sld hx hb hXd hbl hbA hS (vp_in_nI (n := (3 * jj + 2)) (by omega) (by omega)) dL_law_203 ?_
  rw [nI_clamp (n := (3 * jj + 2)) (by omega)]
  refine gc_topi (y := nI wb) (h2) ?_
  have hPc : va_P (dC, dI) vwCl (gmW aM kM f1 f2 of ro fa th (nI g) (nI r) (-1) (-1)) _ := hP.sub [7, 8, 9, 10, 11, 12] rfl
  have hKc : va_K (dC, dI) vwCl (gmT kM) s := hK.sub [6, 7, 8, 9, 10] rfl
  have hDc : va_D (fun q : Nat => s.heap.size ≤ q) (gmW aM kM f1 f2 of ro fa th (nI g) (nI r) (-1) (-1)) := hD.sub [7, 8, 9, 10, 11, 12] (by decide) rfl
  have hFc := va_free (wc := (gmW aM kM f1 f2 of ro fa th (nI g) (nI r) (-1) (-1))) hD hS hA [7, 8, 9, 10, 11, 12] rfl
  refine va_calli (va_runV (As := [.int (nI wa), .int (nI wb)]) (rest := []) ⟨hx, hb, hml, hown, hts⟩ (c_X1_rule_no3 l dC dI aM kM f1 f2 of ro fa th g r (-1) (-1) wa wb H.size (by first | assumption | omega) (by first | assumption | omega) (by first | assumption | omega) (by first | assumption | omega) (by first | assumption | omega)) (cwV 2 hts gL_law_X1_rule rfl rfl rfl (by decide +kernel) ⟨Nat.le_of_ble_eq_true rfl, Nat.le_of_ble_eq_true rfl⟩) ⟨gcPM_blind, va_recv hK hP (ci := 1) (q0 := 7) rfl rfl, fun U hU hW => ⟨rfl, by rw [hU], by rw [hU]; exact hPc, va_K.moved hW.alike hKc, hDc.weaken (fun _ _ _ _ => trivial)⟩⟩ rfl rfl hl.1 rfl (lv_room (Nat.le_of_ble_eq_true rfl)) dL_law_204 ⟨show 14 + jj + 1 + 0 ≤ 1046 by omega, show 1295 + 6 * jj + 6 + 0 ≤ 9535 by omega⟩) hS (fun q _ h => hFc q h) hFc (fun r2 u t H locs ht hvm hw hB hz1 hk1 hS => ?_)
  obtain ⟨hP1, hD1⟩ := hB
  rw [ht] at hP1
  obtain ⟨hP, hD⟩ := va_join (wr := [(aG 0, .inr (0, [.ref (aG 1), .ref (aG 2), .ref (aG 3), .ref (aG 4), .ref (aG 5), .ref (aG 6), .int (nI g), .int (nI r), .int inf, .int (nI ct)])), (aG 1, .inl (kG 1, 30, .inl f1)), (aG 2, .inl (kG 2, 30, .inl f2)), (aG 3, .inl (kG 3, 20, .inl dr)), (aG 4, .inl (kG 4, 20, .inl cl)), (aG 5, .inl (kG 5, 20, .inl tr)), (aG 6, .inl (kG 6, 1024, .inl se)), (oa, .inl (ok, 1, .inr (.inl ou)))]) (w1 := (gmW aM kM f1 f2 of ro fa 3 (nI g) (nI r) (-1) (-1))) hP hD [7, 8, 9, 10, 11, 12] [0, 1, 2, 3, 4, 5, 6, 13] rfl rfl (by decide) (by decide) hk1 hFc hP1 hD1
  have hP : va_P (dC, dI) vwCl (gcW aG kG f1 f2 dr cl tr se (nI g) (nI r) inf (nI ct) ++ (gmW aM kM f1 f2 of ro fa 3 (nI g) (nI r) (-1) (-1) ++ ([(oa, .inl (ok, 1, .inr (.inl ou)))]))) H := hP.sub [0, 1, 2, 3, 4, 5, 6, 8, 9, 10, 11, 12, 13, 7] rfl
  have hD : va_D (fun q : Nat => s.heap.size ≤ q) (gcW aG kG f1 f2 dr cl tr se (nI g) (nI r) inf (nI ct) ++ (gmW aM kM f1 f2 of ro fa 3 (nI g) (nI r) (-1) (-1) ++ ([(oa, .inl (ok, 1, .inr (.inl ou)))]))) := hD.sub [0, 1, 2, 3, 4, 5, 6, 8, 9, 10, 11, 12, 13, 7] (by decide) rfl
  have hw_204 : True := hw
  clear hz1 hk1 ht hvm hP1 hD1 hFc hDc
  clear hPc hKc
  refine lv_istore (lv' := [(6, .int r2), (5, .int 3), (4, .int (nI (3 * jj))), (0, .ref b), (1, .ref (aG 0)), (2, .ref (aM 0)), (3, .ref oa)]) hx hb dL_law_207 hl (by decide) rfl (fun ls hl => ?_)
  refine lv_aload_n hx hb dL_law_209 rfl (lv_at hl 5 rfl) ?_
  have hPc : va_P (dC, dI) vwCl (gmW aM kM f1 f2 of ro fa 3 (nI g) (nI r) (-1) (-1)) _ := hP.sub [7, 8, 9, 10, 11, 12] rfl
  have hKc : va_K (dC, dI) vwCl (gmT kM) s := hK.sub [6, 7, 8, 9, 10] rfl
  refine va_calli (va_runV (As := []) (rest := []) ⟨hx, hb, hml, hown, hts⟩ (c_X1_thrown l dC dI aM kM f1 f2 of ro fa 3 g r (-1) (-1)) (cwV 0 hts gL_law_X1_thrown rfl rfl rfl (by decide +kernel) ⟨Nat.le_of_ble_eq_true rfl, Nat.le_of_ble_eq_true rfl⟩) ⟨gcPR_blind, va_recv hK hP (ci := 1) (q0 := 7) rfl rfl, fun U hU hW => ⟨rfl, by rw [hU]; exact hPc, va_K.moved hW.alike hKc⟩⟩ rfl rfl hl.1 rfl (lv_room (Nat.le_of_ble_eq_true rfl)) dL_law_210 ⟨show 14 + jj + 1 + 0 + 0 ≤ 1046 by omega, show 1295 + 6 * jj + 6 + 0 + 0 ≤ 9535 by omega⟩) hS (fun q _ h => h.elim) (fun q h => h.elim) (fun r3 u t H locs ht hvm hw hB hz1 hk1 hS => ?_)
  have hP := gc_keep hP hk1
  have hw : r3 = 3 := hw
  subst hw
  clear hw
  clear hB hz1 hk1 ht hvm
  clear hPc hKc
  refine lv_iload hx hb dL_law_213 (lv_at hl 1 rfl) ?_
  refine lv_icmp_eq (tgt := 220) hx hb dL_law_215 (by decide) (fun c_215 => ?_) (fun c_215 => absurd rfl c_215)
  refine lv_iload hx hb dL_law_220 (lv_at hl 1 rfl) ?_
  refine lv_if_ne (tgt := 237) hx hb dL_law_222 (by decide) (fun c_222 => ?_) (fun c_222 => ?_)
  · skip
    refine lv_goto (tgt := 951) hx hb dL_law_237 (by decide) ?_
    refine lv_iinc (v := nI (3 * (jj + 1))) (lv' := [(4, .int (nI (3 * (jj + 1)))), (6, .int r2), (5, .int 3), (0, .ref b), (1, .ref (aG 0)), (2, .ref (aM 0)), (3, .ref oa)]) hx hb dL_law_951 hl (k := 2) rfl (nI_3 jj) (by decide) rfl (fun ls hl => ?_)
    refine lv_goto (tgt := 23) hx hb dL_law_954 (by decide) ?_
    refine W.widen (k := 14 + (jj + 1)) (n := 1295 + 6 * (jj + 1)) (by omega) (by omega) ?_
    exact ih d H _ ls hd ⟨K, g, r, f1, f2, dr, cl, tr, se, inf, ct, of, ro, fa, 3, ou, hI, hP, hD, hS, lv_sub hl [0, 3, 4, 5, 6] rfl⟩
  · skip
    exact absurd c_222 (by decide)
set_option maxHeartbeats 4000000 in
set_option maxRecDepth 100000 in
theorem law_2 {p : Program} {e : Env} {s : State} {m : MethodId} {below : List Frame} {meth : Method} {c : Code} (l : Launch) (hgl : l.stackTraces = false) {b L : Nat} {xs : Nat → Int32} (hL : L ≤ 1536) (C0 : lw_At p s m meth c b L xs) {dC : Nat → ClassId} {dI : Nat → Nat → Nat} {aG : Nat → Nat} {kG : Nat → ClassId} {aM : Nat → Nat} {kM : Nat → ClassId} {oa : Nat} {ok : ClassId} (hK : va_K (dC, dI) vwCl (gcT kG ++ (gmT kM ++ ([(ok, .long)]))) s) (hXA : gcXA (fun q : Nat => s.heap.size ≤ q) s) {jj : Nat} (hj : 3 * jj + 3 ≤ L) {d : Drawn} (hd : s.drawn.sameBut d lw_cs) {K : Bk} {g r : Nat} {f1 f2 dr cl tr se : Nat → Int32} {inf : Int32} {ct : Nat} {of ro fa : Nat → Int32} {th : Int32} {ou : Nat → Int64} (hI : Inv K g r f1 f2 inf dr cl se ct of) {H : Heap} {locs : List Loc} {ls : Array Slot} (hP : va_P (dC, dI) vwCl (gcW aG kG f1 f2 dr cl tr se (nI g) (nI r) inf (nI ct) ++ (gmW aM kM f1 f2 of ro fa th (nI g) (nI r) (-1) (-1) ++ ([(oa, .inl (ok, 1, .inr (.inl ou)))]))) H) (hD : va_D (fun q : Nat => s.heap.size ≤ q) (gcW aG kG f1 f2 dr cl tr se (nI g) (nI r) inf (nI ct) ++ (gmW aM kM f1 f2 of ro fa th (nI g) (nI r) (-1) (-1) ++ ([(oa, .inl (ok, 1, .inr (.inl ou)))])))) (hS : va_S (fun q : Nat => s.heap.size ≤ q) s.heap H locs) (hl : lv_has ls 9 [(4, .int (nI (3 * jj))), (0, .ref b), (1, .ref (aG 0)), (2, .ref (aM 0)), (3, .ref oa)]) (ih : ∀ (d1 : Drawn) (H1 : Heap) (locs1 : List Loc) (ls1 : Array Slot), s.drawn.sameBut d1 lw_cs → LSt dC dI s b aG kG aM kM oa ok (jj + 1) H1 locs1 ls1 → W p l e room_1 (s.setDrawn d1) m #[Value.ref b] below meth c H1 locs1 (14 + (jj + 1)) (1295 + 6 * (jj + 1)) (lw_Z below #[Value.ref b] s) (F0 m 23 ls1 [])) {x : Nat} (hx2 : x < r) (h1 : xs (3 * jj + 1) = nI x) : W p l e room_1 (s.setDrawn d) m #[Value.ref b] below meth c H locs (14 + jj) (1295 + 6 * jj) (lw_Z below #[Value.ref b] s) (F0 m 240 ls []) := by
  obtain ⟨hx, hb, hr, hml, hown, hts0, hX, hbl, hlocks, hgv⟩ := C0
  have hown : s.vm.findClass RL = some m.cls := hown
  have hts1 : ∀ w ∈ wsL_law, w.before #[Value.ref b] s = true := fun w h => hts0 w (wsL_law_in w h)
  have hts := dr_words hts1 d
  have hA : ∀ q : Nat, s.heap.size ≤ q → (fun q : Nat => s.heap.size ≤ q) q := fun _ h => h
  have hbA : ¬ (fun q : Nat => s.heap.size ≤ q) b := Nat.not_le.mpr hbl
  obtain ⟨hg10, hr30, hOK, hz, hBk, hof, hDr, hCl, s0, hse, hct⟩ := id hI
  have hKd : va_K (dC, dI) vwCl (gcT kG ++ (gmT kM ++ ([(ok, .long)]))) (s.setDrawn d) := hK
  have hXd : va_X b L xs (s.setDrawn d) s.heap := hX
  have hKg := gOK_Kg hOK
  have hKr : K.1 ≤ 30 := by rw [hOK.1]; exact hr30
  have hLF : LF K g se ct := by rw [hse, hct]; exact LF_of hg10 hKg hCl s0
  have hc1024 : ct ≤ 1024 := hLF.2
  have hft : gFt cl g = decide (0 < ct) := by rw [hct]; exact ft_pos hg10 hKg hCl s0
  refine lv_aload_n hx hb dL_law_240 rfl (lv_at hl 2 rfl) ?_
  refine lv_aload_n hx hb dL_law_241 rfl (lv_at hl 1 rfl) ?_
  refine lv_iload hx hb dL_law_242 (lv_at hl 0 rfl) ?_
  refine lv_iconst (v := 1) hx hb dL_law_244 (by decide) ?_
  refine lv_iadd hx hb dL_law_245 ?_
  refine gc_topi (y := nI (3 * jj + 1)) (nI_add (3 * jj) 1) ?_
  refine va_sld hx hb hXd hbl hbA hS (vp_in_nI (n := (3 * jj + 1)) (by omega) (by omega)) dL_law_246 ?_
  rw [nI_clamp (n := (3 * jj + 1)) (by omega)]
  refine gc_topi (y := nI x) (h1) ?_
  refine lv_aload_n hx hb dL_law_247 rfl (lv_at hl 4 rfl) ?_
  have hPc : va_P (dC, dI) vwCl (gcW aG kG f1 f2 dr cl tr se (nI g) (nI r) inf (nI ct) ++ ([(oa, .inl (ok, 1, .inr (.inl ou)))])) _ := hP.sub [0, 1, 2, 3, 4, 5, 6, 13] rfl
  have hKc : va_K (dC, dI) vwCl (gcT kG ++ ([(ok, .long)])) s := hK.sub [0, 1, 2, 3, 4, 5, 11] rfl
  have hDc : va_D (fun q : Nat => s.heap.size ≤ q) (gcW aG kG f1 f2 dr cl tr se (nI g) (nI r) inf (nI ct) ++ ([(oa, .inl (ok, 1, .inr (.inl ou)))])) := hD.sub [0, 1, 2, 3, 4, 5, 6, 13] (by decide) rfl
  have hFc := va_free (wc := (gcW aG kG f1 f2 dr cl tr se (nI g) (nI r) inf (nI ct) ++ ([(oa, .inl (ok, 1, .inr (.inl ou)))]))) hD hS hA [0, 1, 2, 3, 4, 5, 6, 13] rfl
  refine va_calli (vx_runSW (As := [.ref (aG 0), .int (nI x), .ref oa]) (rest := []) ⟨hx, hb, hml, hown, hts⟩ (w_turn l dC dI aG kG f1 f2 dr cl tr se g r inf ct oa ok ou x H.size (by first | assumption | omega) (by first | assumption | omega) (by first | assumption | omega)) (vx_cwSW 3 hts gL_law_L_turn rfl rfl rfl (by decide +kernel) ⟨Nat.le_of_ble_eq_true rfl, Nat.le_of_ble_eq_true rfl⟩) ⟨gcPM_blind, fun U hU hW => ⟨rfl, by rw [hU], by rw [hU]; exact hPc, va_K.moved hW.alike hKc, hDc.weaken (fun _ _ _ _ => trivial)⟩⟩ rfl rfl hl.1 rfl (lv_room (Nat.le_of_ble_eq_true rfl)) dL_law_248 ⟨show 14 + jj + 0 ≤ 1046 by omega, show 1295 + 6 * jj + 0 ≤ 9535 by omega⟩) hS (fun q _ h => hFc q h) hFc (fun r1 u t H locs ht hvm hw hB hz1 hk1 hS => ?_)
  obtain ⟨hP1, hD1⟩ := hB
  rw [ht] at hP1
  obtain ⟨hP, hD⟩ := va_join (wr := [(aM 0, .inr (1, [.int th, .int (nI g), .int (nI r), .ref (aM 1), .ref (aM 2), .ref (aM 3), .int (-1), .int (-1), .ref (aM 4), .ref (aM 5)])), (aM 1, .inl (kM 1, 30, .inl f1)), (aM 2, .inl (kM 2, 30, .inl f2)), (aM 3, .inl (kM 3, 30, .inl of)), (aM 4, .inl (kM 4, 20, .inl ro)), (aM 5, .inl (kM 5, 20, .inl fa))]) (w1 := (gcW aG kG f1 f2 (gLA f1 f2 (inf ^^^ ((1 : Int32) <<< (nI x &&& 31))) (-1) r dr) (gCl (gLA f1 f2 (inf ^^^ ((1 : Int32) <<< (nI x &&& 31))) (-1) r cl) 20) tr ((gLs (gCl (gLA f1 f2 (inf ^^^ ((1 : Int32) <<< (nI x &&& 31))) (-1) r cl) 20) se g g).1) (nI g) (nI r) (inf ^^^ ((1 : Int32) <<< (nI x &&& 31))) (nI (gLs (gCl (gLA f1 f2 (inf ^^^ ((1 : Int32) <<< (nI x &&& 31))) (-1) r cl) 20) se g g).2) ++ ([(oa, .inl (ok, 1, .inr (.inl (vp_updL ou 0 (gL (gHas (inf ^^^ ((1 : Int32) <<< (nI x &&& 31))) (nI x)))))))]))) hP hD [0, 1, 2, 3, 4, 5, 6, 13] [7, 8, 9, 10, 11, 12] rfl rfl (by decide) (by decide) hk1 hFc hP1 hD1
  have hP : va_P (dC, dI) vwCl (gcW aG kG f1 f2 (gLA f1 f2 (inf ^^^ ((1 : Int32) <<< (nI x &&& 31))) (-1) r dr) (gCl (gLA f1 f2 (inf ^^^ ((1 : Int32) <<< (nI x &&& 31))) (-1) r cl) 20) tr ((gLs (gCl (gLA f1 f2 (inf ^^^ ((1 : Int32) <<< (nI x &&& 31))) (-1) r cl) 20) se g g).1) (nI g) (nI r) (inf ^^^ ((1 : Int32) <<< (nI x &&& 31))) (nI (gLs (gCl (gLA f1 f2 (inf ^^^ ((1 : Int32) <<< (nI x &&& 31))) (-1) r cl) 20) se g g).2) ++ (gmW aM kM f1 f2 of ro fa th (nI g) (nI r) (-1) (-1) ++ ([(oa, .inl (ok, 1, .inr (.inl (vp_updL ou 0 (gL (gHas (inf ^^^ ((1 : Int32) <<< (nI x &&& 31))) (nI x)))))))]))) H := hP.sub [6, 7, 8, 9, 10, 11, 12, 0, 1, 2, 3, 4, 5, 13] rfl
  have hD : va_D (fun q : Nat => s.heap.size ≤ q) (gcW aG kG f1 f2 (gLA f1 f2 (inf ^^^ ((1 : Int32) <<< (nI x &&& 31))) (-1) r dr) (gCl (gLA f1 f2 (inf ^^^ ((1 : Int32) <<< (nI x &&& 31))) (-1) r cl) 20) tr ((gLs (gCl (gLA f1 f2 (inf ^^^ ((1 : Int32) <<< (nI x &&& 31))) (-1) r cl) 20) se g g).1) (nI g) (nI r) (inf ^^^ ((1 : Int32) <<< (nI x &&& 31))) (nI (gLs (gCl (gLA f1 f2 (inf ^^^ ((1 : Int32) <<< (nI x &&& 31))) (-1) r cl) 20) se g g).2) ++ (gmW aM kM f1 f2 of ro fa th (nI g) (nI r) (-1) (-1) ++ ([(oa, .inl (ok, 1, .inr (.inl (vp_updL ou 0 (gL (gHas (inf ^^^ ((1 : Int32) <<< (nI x &&& 31))) (nI x)))))))]))) := hD.sub [6, 7, 8, 9, 10, 11, 12, 0, 1, 2, 3, 4, 5, 13] (by decide) rfl
  have hw : r1 = 0 := hw
  subst hw
  clear hw
  clear hz1 hk1 ht hvm hP1 hD1 hFc hDc
  clear hPc hKc
  refine lv_istore (lv' := [(5, .int 0), (4, .int (nI (3 * jj))), (0, .ref b), (1, .ref (aG 0)), (2, .ref (aM 0)), (3, .ref oa)]) hx hb dL_law_251 hl (by decide) rfl (fun ls hl => ?_)
  refine lv_aload_n hx hb dL_law_253 rfl (lv_at hl 4 rfl) ?_
  refine lv_aload_n hx hb dL_law_254 rfl (lv_at hl 2 rfl) ?_
  refine lv_iload hx hb dL_law_255 (lv_at hl 1 rfl) ?_
  refine lv_iconst (v := 1) hx hb dL_law_257 (by decide) ?_
  refine lv_iadd hx hb dL_law_258 ?_
  refine gc_topi (y := nI (3 * jj + 1)) (nI_add (3 * jj) 1) ?_
  refine va_sld hx hb hXd hbl hbA hS (vp_in_nI (n := (3 * jj + 1)) (by omega) (by omega)) dL_law_259 ?_
  rw [nI_clamp (n := (3 * jj + 1)) (by omega)]
  refine gc_topi (y := nI x) (h1) ?_
  have hPc : va_P (dC, dI) vwCl (gmW aM kM f1 f2 of ro fa th (nI g) (nI r) (-1) (-1)) _ := hP.sub [7, 8, 9, 10, 11, 12] rfl
  have hKc : va_K (dC, dI) vwCl (gmT kM) s := hK.sub [6, 7, 8, 9, 10] rfl
  have hDc : va_D (fun q : Nat => s.heap.size ≤ q) (gmW aM kM f1 f2 of ro fa th (nI g) (nI r) (-1) (-1)) := hD.sub [7, 8, 9, 10, 11, 12] (by decide) rfl
  have hFc := va_free (wc := (gmW aM kM f1 f2 of ro fa th (nI g) (nI r) (-1) (-1))) hD hS hA [7, 8, 9, 10, 11, 12] rfl
  refine va_calli (va_runV (As := [.int (nI x)]) (rest := []) ⟨hx, hb, hml, hown, hts⟩ (c_X1_turn l dC dI aM kM f1 f2 of ro fa th g r (-1) (-1) K x H.size (by first | assumption | omega) (by first | assumption | omega) (by first | assumption | omega) (by first | assumption | omega)) (cwV 1 hts gL_law_X1_turn rfl rfl rfl (by decide +kernel) ⟨Nat.le_of_ble_eq_true rfl, Nat.le_of_ble_eq_true rfl⟩) ⟨gcPM_blind, va_recv hK hP (ci := 1) (q0 := 7) rfl rfl, fun U hU hW => ⟨rfl, by rw [hU], by rw [hU]; exact hPc, va_K.moved hW.alike hKc, hDc.weaken (fun _ _ _ _ => trivial)⟩⟩ rfl rfl hl.1 rfl (lv_room (Nat.le_of_ble_eq_true rfl)) dL_law_260 ⟨show 14 + jj + 0 + 0 ≤ 1046 by omega, show 1295 + 6 * jj + 0 + 0 ≤ 9535 by omega⟩) hS (fun q _ h => hFc q h) hFc (fun r2 u t H locs ht hvm hw hB hz1 hk1 hS => ?_)
  obtain ⟨hP1, hD1⟩ := hB
  rw [ht] at hP1
  obtain ⟨hP, hD⟩ := va_join (wr := [(aG 0, .inr (0, [.ref (aG 1), .ref (aG 2), .ref (aG 3), .ref (aG 4), .ref (aG 5), .ref (aG 6), .int (nI g), .int (nI r), .int (inf ^^^ ((1 : Int32) <<< (nI x &&& 31))), .int (nI (gLs (gCl (gLA f1 f2 (inf ^^^ ((1 : Int32) <<< (nI x &&& 31))) (-1) r cl) 20) se g g).2)])), (aG 1, .inl (kG 1, 30, .inl f1)), (aG 2, .inl (kG 2, 30, .inl f2)), (aG 3, .inl (kG 3, 20, .inl (gLA f1 f2 (inf ^^^ ((1 : Int32) <<< (nI x &&& 31))) (-1) r dr))), (aG 4, .inl (kG 4, 20, .inl (gCl (gLA f1 f2 (inf ^^^ ((1 : Int32) <<< (nI x &&& 31))) (-1) r cl) 20))), (aG 5, .inl (kG 5, 20, .inl tr)), (aG 6, .inl (kG 6, 1024, .inl ((gLs (gCl (gLA f1 f2 (inf ^^^ ((1 : Int32) <<< (nI x &&& 31))) (-1) r cl) 20) se g g).1))), (oa, .inl (ok, 1, .inr (.inl (vp_updL ou 0 (gL (gHas (inf ^^^ ((1 : Int32) <<< (nI x &&& 31))) (nI x)))))))]) (w1 := (gmW aM kM f1 f2 (upd of x (gB (K.2.2.2 x))) ro fa 0 (nI g) (nI r) (-1) (-1))) hP hD [7, 8, 9, 10, 11, 12] [0, 1, 2, 3, 4, 5, 6, 13] rfl rfl (by decide) (by decide) hk1 hFc hP1 hD1
  have hP : va_P (dC, dI) vwCl (gcW aG kG f1 f2 (gLA f1 f2 (inf ^^^ ((1 : Int32) <<< (nI x &&& 31))) (-1) r dr) (gCl (gLA f1 f2 (inf ^^^ ((1 : Int32) <<< (nI x &&& 31))) (-1) r cl) 20) tr ((gLs (gCl (gLA f1 f2 (inf ^^^ ((1 : Int32) <<< (nI x &&& 31))) (-1) r cl) 20) se g g).1) (nI g) (nI r) (inf ^^^ ((1 : Int32) <<< (nI x &&& 31))) (nI (gLs (gCl (gLA f1 f2 (inf ^^^ ((1 : Int32) <<< (nI x &&& 31))) (-1) r cl) 20) se g g).2) ++ (gmW aM kM f1 f2 (upd of x (gB (K.2.2.2 x))) ro fa 0 (nI g) (nI r) (-1) (-1) ++ ([(oa, .inl (ok, 1, .inr (.inl (vp_updL ou 0 (gL (gHas (inf ^^^ ((1 : Int32) <<< (nI x &&& 31))) (nI x)))))))]))) H := hP.sub [0, 1, 2, 3, 4, 5, 6, 8, 9, 10, 11, 12, 13, 7] rfl
  have hD : va_D (fun q : Nat => s.heap.size ≤ q) (gcW aG kG f1 f2 (gLA f1 f2 (inf ^^^ ((1 : Int32) <<< (nI x &&& 31))) (-1) r dr) (gCl (gLA f1 f2 (inf ^^^ ((1 : Int32) <<< (nI x &&& 31))) (-1) r cl) 20) tr ((gLs (gCl (gLA f1 f2 (inf ^^^ ((1 : Int32) <<< (nI x &&& 31))) (-1) r cl) 20) se g g).1) (nI g) (nI r) (inf ^^^ ((1 : Int32) <<< (nI x &&& 31))) (nI (gLs (gCl (gLA f1 f2 (inf ^^^ ((1 : Int32) <<< (nI x &&& 31))) (-1) r cl) 20) se g g).2) ++ (gmW aM kM f1 f2 (upd of x (gB (K.2.2.2 x))) ro fa 0 (nI g) (nI r) (-1) (-1) ++ ([(oa, .inl (ok, 1, .inr (.inl (vp_updL ou 0 (gL (gHas (inf ^^^ ((1 : Int32) <<< (nI x &&& 31))) (nI x)))))))]))) := hD.sub [0, 1, 2, 3, 4, 5, 6, 8, 9, 10, 11, 12, 13, 7] (by decide) rfl
  have hw : r2 = gB (!K.2.2.2 x) := hw
  subst hw
  clear hw
  clear hz1 hk1 ht hvm hP1 hD1 hFc hDc
  clear hPc hKc
  refine lv_istore (lv' := [(6, .int (gB (!K.2.2.2 x))), (5, .int 0), (4, .int (nI (3 * jj))), (0, .ref b), (1, .ref (aG 0)), (2, .ref (aM 0)), (3, .ref oa)]) hx hb dL_law_263 hl (by decide) rfl (fun ls hl => ?_)
  refine lv_aload_n hx hb dL_law_265 rfl (lv_at hl 5 rfl) ?_
  have hPc : va_P (dC, dI) vwCl (gmW aM kM f1 f2 (upd of x (gB (K.2.2.2 x))) ro fa 0 (nI g) (nI r) (-1) (-1)) _ := hP.sub [7, 8, 9, 10, 11, 12] rfl
  have hKc : va_K (dC, dI) vwCl (gmT kM) s := hK.sub [6, 7, 8, 9, 10] rfl
  refine va_calli (va_runV (As := []) (rest := []) ⟨hx, hb, hml, hown, hts⟩ (c_X1_thrown l dC dI aM kM f1 f2 (upd of x (gB (K.2.2.2 x))) ro fa 0 g r (-1) (-1)) (cwV 0 hts gL_law_X1_thrown rfl rfl rfl (by decide +kernel) ⟨Nat.le_of_ble_eq_true rfl, Nat.le_of_ble_eq_true rfl⟩) ⟨gcPR_blind, va_recv hK hP (ci := 1) (q0 := 7) rfl rfl, fun U hU hW => ⟨rfl, by rw [hU]; exact hPc, va_K.moved hW.alike hKc⟩⟩ rfl rfl hl.1 rfl (lv_room (Nat.le_of_ble_eq_true rfl)) dL_law_266 ⟨show 14 + jj + 0 + 0 + 0 ≤ 1046 by omega, show 1295 + 6 * jj + 0 + 0 + 0 ≤ 9535 by omega⟩) hS (fun q _ h => h.elim) (fun q h => h.elim) (fun r3 u t H locs ht hvm hw hB hz1 hk1 hS => ?_)
  have hP := gc_keep hP hk1
  have hw : r3 = 0 := hw
  subst hw
  clear hw
  clear hB hz1 hk1 ht hvm
  clear hPc hKc
  refine lv_iload hx hb dL_law_269 (lv_at hl 1 rfl) ?_
  refine lv_icmp_eq (tgt := 276) hx hb dL_law_271 (by decide) (fun c_271 => ?_) (fun c_271 => absurd rfl c_271)
  refine lv_iload hx hb dL_law_276 (lv_at hl 1 rfl) ?_
  refine lv_if_ne (tgt := 300) hx hb dL_law_278 (by decide) (fun c_278 => ?_) (fun c_278 => ?_)
  · skip
    exact absurd (by decide) c_278
  · skip
    refine lv_aload_n hx hb dL_law_281 rfl (lv_at hl 6 rfl) ?_
    refine lv_iconst (v := 0) hx hb dL_law_282 (by decide) ?_
    refine va_lald hx hb hKd hP 13 11 rfl rfl gc_in01 dL_law_283 ?_
    refine gc_topl (y := (gL (gHas (inf ^^^ ((1 : Int32) <<< (nI x &&& 31))) (nI x)))) (by rw [sb_cl0]; exact pk_uLs) ?_
    refine gc_topl (y := (gL (!K.2.2.2 x))) (by rw [turn_eq hOK hr30 hx2]) ?_
    refine lv_iload hx hb dL_law_284 (lv_at hl 0 rfl) ?_
    refine lv_if_eq (tgt := 293) hx hb dL_law_286 (by decide) (fun c_286 => ?_) (fun c_286 => ?_)
    · skip
      have c_286 := gB_f c_286
      refine lv_lconst (v := 0) hx hb dL_law_293 (by decide) ?_
      refine W.lcmp hx hb dL_law_294 ?_
      refine gc_topi (y := 0) ((lg_cmp_eq _ _).mpr (by rw [c_286]; rfl)) ?_
      refine lv_if_eq (tgt := 300) hx hb dL_law_295 (by decide) (fun c_295 => ?_) (fun c_295 => ?_)
      · skip
        refine lv_goto (tgt := 951) hx hb dL_law_300 (by decide) ?_
        refine lv_iinc (v := nI (3 * (jj + 1))) (lv' := [(4, .int (nI (3 * (jj + 1)))), (6, .int (gB (!K.2.2.2 x))), (5, .int 0), (0, .ref b), (1, .ref (aG 0)), (2, .ref (aM 0)), (3, .ref oa)]) hx hb dL_law_951 hl (k := 2) rfl (nI_3 jj) (by decide) rfl (fun ls hl => ?_)
        refine lv_goto (tgt := 23) hx hb dL_law_954 (by decide) ?_
        refine W.widen (k := 14 + (jj + 1)) (n := 1295 + 6 * (jj + 1)) (by omega) (by omega) ?_
        exact ih d H _ ls hd ⟨kTurn K x, g, r, f1, f2, (gLA f1 f2 (inf ^^^ ((1 : Int32) <<< (nI x &&& 31))) (-1) r dr), (gCl (gLA f1 f2 (inf ^^^ ((1 : Int32) <<< (nI x &&& 31))) (-1) r cl) 20), tr, ((gLs (gCl (gLA f1 f2 (inf ^^^ ((1 : Int32) <<< (nI x &&& 31))) (-1) r cl) 20) se g g).1), (inf ^^^ ((1 : Int32) <<< (nI x &&& 31))), ((gLs (gCl (gLA f1 f2 (inf ^^^ ((1 : Int32) <<< (nI x &&& 31))) (-1) r cl) 20) se g g).2), (upd of x (gB (K.2.2.2 x))), ro, fa, 0, (vp_updL ou 0 (gL (gHas (inf ^^^ ((1 : Int32) <<< (nI x &&& 31))) (nI x)))), Inv_turn hI hx2, hP, hD, hS, lv_sub hl [0, 3, 4, 5, 6] rfl⟩
      · skip
        exact absurd (by decide) c_295
    · skip
      have c_286 := gB_t c_286
      refine lv_lconst (v := 1) hx hb dL_law_289 (by decide) ?_
      refine lv_goto (tgt := 294) hx hb dL_law_290 (by decide) ?_
      refine W.lcmp hx hb dL_law_294 ?_
      refine gc_topi (y := 0) ((lg_cmp_eq _ _).mpr (by rw [c_286]; rfl)) ?_
      refine lv_if_eq (tgt := 300) hx hb dL_law_295 (by decide) (fun c_295 => ?_) (fun c_295 => ?_)
      · skip
        refine lv_goto (tgt := 951) hx hb dL_law_300 (by decide) ?_
        refine lv_iinc (v := nI (3 * (jj + 1))) (lv' := [(4, .int (nI (3 * (jj + 1)))), (6, .int (gB (!K.2.2.2 x))), (5, .int 0), (0, .ref b), (1, .ref (aG 0)), (2, .ref (aM 0)), (3, .ref oa)]) hx hb dL_law_951 hl (k := 2) rfl (nI_3 jj) (by decide) rfl (fun ls hl => ?_)
        refine lv_goto (tgt := 23) hx hb dL_law_954 (by decide) ?_
        refine W.widen (k := 14 + (jj + 1)) (n := 1295 + 6 * (jj + 1)) (by omega) (by omega) ?_
        exact ih d H _ ls hd ⟨kTurn K x, g, r, f1, f2, (gLA f1 f2 (inf ^^^ ((1 : Int32) <<< (nI x &&& 31))) (-1) r dr), (gCl (gLA f1 f2 (inf ^^^ ((1 : Int32) <<< (nI x &&& 31))) (-1) r cl) 20), tr, ((gLs (gCl (gLA f1 f2 (inf ^^^ ((1 : Int32) <<< (nI x &&& 31))) (-1) r cl) 20) se g g).1), (inf ^^^ ((1 : Int32) <<< (nI x &&& 31))), ((gLs (gCl (gLA f1 f2 (inf ^^^ ((1 : Int32) <<< (nI x &&& 31))) (-1) r cl) 20) se g g).2), (upd of x (gB (K.2.2.2 x))), ro, fa, 0, (vp_updL ou 0 (gL (gHas (inf ^^^ ((1 : Int32) <<< (nI x &&& 31))) (nI x)))), Inv_turn hI hx2, hP, hD, hS, lv_sub hl [0, 3, 4, 5, 6] rfl⟩
      · skip
        exact absurd (by decide) c_295
set_option maxHeartbeats 4000000 in
set_option maxRecDepth 100000 in
theorem law_2x {p : Program} {e : Env} {s : State} {m : MethodId} {below : List Frame} {meth : Method} {c : Code} (l : Launch) (hgl : l.stackTraces = false) {b L : Nat} {xs : Nat → Int32} (hL : L ≤ 1536) (C0 : lw_At p s m meth c b L xs) {dC : Nat → ClassId} {dI : Nat → Nat → Nat} {aG : Nat → Nat} {kG : Nat → ClassId} {aM : Nat → Nat} {kM : Nat → ClassId} {oa : Nat} {ok : ClassId} (hK : va_K (dC, dI) vwCl (gcT kG ++ (gmT kM ++ ([(ok, .long)]))) s) (hXA : gcXA (fun q : Nat => s.heap.size ≤ q) s) {jj : Nat} (hj : 3 * jj + 3 ≤ L) {d : Drawn} (hd : s.drawn.sameBut d lw_cs) {K : Bk} {g r : Nat} {f1 f2 dr cl tr se : Nat → Int32} {inf : Int32} {ct : Nat} {of ro fa : Nat → Int32} {th : Int32} {ou : Nat → Int64} (hI : Inv K g r f1 f2 inf dr cl se ct of) {H : Heap} {locs : List Loc} {ls : Array Slot} (hP : va_P (dC, dI) vwCl (gcW aG kG f1 f2 dr cl tr se (nI g) (nI r) inf (nI ct) ++ (gmW aM kM f1 f2 of ro fa th (nI g) (nI r) (-1) (-1) ++ ([(oa, .inl (ok, 1, .inr (.inl ou)))]))) H) (hD : va_D (fun q : Nat => s.heap.size ≤ q) (gcW aG kG f1 f2 dr cl tr se (nI g) (nI r) inf (nI ct) ++ (gmW aM kM f1 f2 of ro fa th (nI g) (nI r) (-1) (-1) ++ ([(oa, .inl (ok, 1, .inr (.inl ou)))])))) (hS : va_S (fun q : Nat => s.heap.size ≤ q) s.heap H locs) (hl : lv_has ls 9 [(4, .int (nI (3 * jj))), (0, .ref b), (1, .ref (aG 0)), (2, .ref (aM 0)), (3, .ref oa)]) (ih : ∀ (d1 : Drawn) (H1 : Heap) (locs1 : List Loc) (ls1 : Array Slot), s.drawn.sameBut d1 lw_cs → LSt dC dI s b aG kG aM kM oa ok (jj + 1) H1 locs1 ls1 → W p l e room_1 (s.setDrawn d1) m #[Value.ref b] below meth c H1 locs1 (14 + (jj + 1)) (1295 + 6 * (jj + 1)) (lw_Z below #[Value.ref b] s) (F0 m 23 ls1 [])) (hno : ∀ q : Nat, q < r → xs (3 * jj + 1) ≠ nI q) : W p l e room_1 (s.setDrawn d) m #[Value.ref b] below meth c H locs (14 + jj) (1295 + 6 * jj) (lw_Z below #[Value.ref b] s) (F0 m 240 ls []) := by
  obtain ⟨hx, hb, hr, hml, hown, hts0, hX, hbl, hlocks, hgv⟩ := C0
  have hown : s.vm.findClass RL = some m.cls := hown
  have hts1 : ∀ w ∈ wsL_law, w.before #[Value.ref b] s = true := fun w h => hts0 w (wsL_law_in w h)
  have hts := dr_words hts1 d
  have hA : ∀ q : Nat, s.heap.size ≤ q → (fun q : Nat => s.heap.size ≤ q) q := fun _ h => h
  have hbA : ¬ (fun q : Nat => s.heap.size ≤ q) b := Nat.not_le.mpr hbl
  obtain ⟨hg10, hr30, hOK, hz, hBk, hof, hDr, hCl, s0, hse, hct⟩ := id hI
  have hKd : va_K (dC, dI) vwCl (gcT kG ++ (gmT kM ++ ([(ok, .long)]))) (s.setDrawn d) := hK
  have hXd : va_X b L xs (s.setDrawn d) s.heap := hX
  have hKg := gOK_Kg hOK
  have hKr : K.1 ≤ 30 := by rw [hOK.1]; exact hr30
  have hLF : LF K g se ct := by rw [hse, hct]; exact LF_of hg10 hKg hCl s0
  have hc1024 : ct ≤ 1024 := hLF.2
  have hft : gFt cl g = decide (0 < ct) := by rw [hct]; exact ft_pos hg10 hKg hCl s0
  refine lv_aload_n hx hb dL_law_240 rfl (lv_at hl 2 rfl) ?_
  refine lv_aload_n hx hb dL_law_241 rfl (lv_at hl 1 rfl) ?_
  refine lv_iload hx hb dL_law_242 (lv_at hl 0 rfl) ?_
  refine lv_iconst (v := 1) hx hb dL_law_244 (by decide) ?_
  refine lv_iadd hx hb dL_law_245 ?_
  refine gc_topi (y := nI (3 * jj + 1)) (nI_add (3 * jj) 1) ?_
  refine va_sld hx hb hXd hbl hbA hS (vp_in_nI (n := (3 * jj + 1)) (by omega) (by omega)) dL_law_246 ?_
  rw [nI_clamp (n := (3 * jj + 1)) (by omega)]
  refine lv_aload_n hx hb dL_law_247 rfl (lv_at hl 4 rfl) ?_
  have hPc : va_P (dC, dI) vwCl (gcW aG kG f1 f2 dr cl tr se (nI g) (nI r) inf (nI ct) ++ ([(oa, .inl (ok, 1, .inr (.inl ou)))])) _ := hP.sub [0, 1, 2, 3, 4, 5, 6, 13] rfl
  have hKc : va_K (dC, dI) vwCl (gcT kG ++ ([(ok, .long)])) s := hK.sub [0, 1, 2, 3, 4, 5, 11] rfl
  have hDc : va_D (fun q : Nat => s.heap.size ≤ q) (gcW aG kG f1 f2 dr cl tr se (nI g) (nI r) inf (nI ct) ++ ([(oa, .inl (ok, 1, .inr (.inl ou)))])) := hD.sub [0, 1, 2, 3, 4, 5, 6, 13] (by decide) rfl
  have hFc := va_free (wc := (gcW aG kG f1 f2 dr cl tr se (nI g) (nI r) inf (nI ct) ++ ([(oa, .inl (ok, 1, .inr (.inl ou)))]))) hD hS hA [0, 1, 2, 3, 4, 5, 6, 13] rfl
  refine va_calli (vx_runSW (As := [.ref (aG 0), .int (xs (3 * jj + 1)), .ref oa]) (rest := []) ⟨hx, hb, hml, hown, hts⟩ (wx_turn l hgl dC dI aG kG f1 f2 dr cl tr se g r inf ct oa ok ou (xs (3 * jj + 1)) H.size (by first | assumption | omega) (by first | exact hno | exact Or.inl hno | exact Or.inr hno)) (vx_cwSW 3 hts gL_law_L_turn rfl rfl rfl (by decide +kernel) ⟨Nat.le_of_ble_eq_true rfl, Nat.le_of_ble_eq_true rfl⟩) ⟨gcPN_blind, fun U hU hW => ⟨rfl, by rw [hU], by rw [hU]; exact hPc, va_K.moved hW.alike hKc, hDc.weaken (fun _ _ _ _ => trivial), gcXA_go hXA hS hU hW⟩⟩ rfl rfl hl.1 rfl (lv_room (Nat.le_of_ble_eq_true rfl)) dL_law_248 ⟨show 14 + jj + 1 ≤ 1046 by omega, show 1295 + 6 * jj + 6 ≤ 9535 by omega⟩) hS (fun q _ h => hFc q h) hFc (fun r1 u t H locs ht hvm hw hB hz1 hk1 hS => ?_)
  obtain ⟨hP1, hD1⟩ := hB
  rw [ht] at hP1
  obtain ⟨hP, hD⟩ := va_join (wr := [(aM 0, .inr (1, [.int th, .int (nI g), .int (nI r), .ref (aM 1), .ref (aM 2), .ref (aM 3), .int (-1), .int (-1), .ref (aM 4), .ref (aM 5)])), (aM 1, .inl (kM 1, 30, .inl f1)), (aM 2, .inl (kM 2, 30, .inl f2)), (aM 3, .inl (kM 3, 30, .inl of)), (aM 4, .inl (kM 4, 20, .inl ro)), (aM 5, .inl (kM 5, 20, .inl fa))]) (w1 := (gcW aG kG f1 f2 dr cl tr se (nI g) (nI r) inf (nI ct) ++ ([(oa, .inl (ok, 1, .inr (.inl ou)))]))) hP hD [0, 1, 2, 3, 4, 5, 6, 13] [7, 8, 9, 10, 11, 12] rfl rfl (by decide) (by decide) hk1 hFc hP1 hD1
  have hP : va_P (dC, dI) vwCl (gcW aG kG f1 f2 dr cl tr se (nI g) (nI r) inf (nI ct) ++ (gmW aM kM f1 f2 of ro fa th (nI g) (nI r) (-1) (-1) ++ ([(oa, .inl (ok, 1, .inr (.inl ou)))]))) H := hP.sub [6, 7, 8, 9, 10, 11, 12, 0, 1, 2, 3, 4, 5, 13] rfl
  have hD : va_D (fun q : Nat => s.heap.size ≤ q) (gcW aG kG f1 f2 dr cl tr se (nI g) (nI r) inf (nI ct) ++ (gmW aM kM f1 f2 of ro fa th (nI g) (nI r) (-1) (-1) ++ ([(oa, .inl (ok, 1, .inr (.inl ou)))]))) := hD.sub [6, 7, 8, 9, 10, 11, 12, 0, 1, 2, 3, 4, 5, 13] (by decide) rfl
  have hw : r1 = 1 := hw
  subst hw
  clear hw
  clear hz1 hk1 ht hvm hP1 hD1 hFc hDc
  clear hPc hKc
  refine lv_istore (lv' := [(5, .int 1), (4, .int (nI (3 * jj))), (0, .ref b), (1, .ref (aG 0)), (2, .ref (aM 0)), (3, .ref oa)]) hx hb dL_law_251 hl (by decide) rfl (fun ls hl => ?_)
  refine lv_aload_n hx hb dL_law_253 rfl (lv_at hl 4 rfl) ?_
  refine lv_aload_n hx hb dL_law_254 rfl (lv_at hl 2 rfl) ?_
  refine lv_iload hx hb dL_law_255 (lv_at hl 1 rfl) ?_
  refine lv_iconst (v := 1) hx hb dL_law_257 (by decide) ?_
  refine lv_iadd hx hb dL_law_258 ?_
  refine gc_topi (y := nI (3 * jj + 1)) (nI_add (3 * jj) 1) ?_
  refine va_sld hx hb hXd hbl hbA hS (vp_in_nI (n := (3 * jj + 1)) (by omega) (by omega)) dL_law_259 ?_
  rw [nI_clamp (n := (3 * jj + 1)) (by omega)]
  have hPc : va_P (dC, dI) vwCl (gmW aM kM f1 f2 of ro fa th (nI g) (nI r) (-1) (-1)) _ := hP.sub [7, 8, 9, 10, 11, 12] rfl
  have hKc : va_K (dC, dI) vwCl (gmT kM) s := hK.sub [6, 7, 8, 9, 10] rfl
  have hDc : va_D (fun q : Nat => s.heap.size ≤ q) (gmW aM kM f1 f2 of ro fa th (nI g) (nI r) (-1) (-1)) := hD.sub [7, 8, 9, 10, 11, 12] (by decide) rfl
  have hFc := va_free (wc := (gmW aM kM f1 f2 of ro fa th (nI g) (nI r) (-1) (-1))) hD hS hA [7, 8, 9, 10, 11, 12] rfl
  refine va_calli (va_runV (As := [.int (xs (3 * jj + 1))]) (rest := []) ⟨hx, hb, hml, hown, hts⟩ (c_X1_turn_no l dC dI aM kM f1 f2 of ro fa th g r (-1) (-1) (xs (3 * jj + 1)) H.size (by first | assumption | omega) (by first | exact hno | exact Or.inl hno | exact Or.inr hno)) (cwV 1 hts gL_law_X1_turn rfl rfl rfl (by decide +kernel) ⟨Nat.le_of_ble_eq_true rfl, Nat.le_of_ble_eq_true rfl⟩) ⟨gcPM_blind, va_recv hK hP (ci := 1) (q0 := 7) rfl rfl, fun U hU hW => ⟨rfl, by rw [hU], by rw [hU]; exact hPc, va_K.moved hW.alike hKc, hDc.weaken (fun _ _ _ _ => trivial)⟩⟩ rfl rfl hl.1 rfl (lv_room (Nat.le_of_ble_eq_true rfl)) dL_law_260 ⟨show 14 + jj + 1 + 0 ≤ 1046 by omega, show 1295 + 6 * jj + 6 + 0 ≤ 9535 by omega⟩) hS (fun q _ h => hFc q h) hFc (fun r2 u t H locs ht hvm hw hB hz1 hk1 hS => ?_)
  obtain ⟨hP1, hD1⟩ := hB
  rw [ht] at hP1
  obtain ⟨hP, hD⟩ := va_join (wr := [(aG 0, .inr (0, [.ref (aG 1), .ref (aG 2), .ref (aG 3), .ref (aG 4), .ref (aG 5), .ref (aG 6), .int (nI g), .int (nI r), .int inf, .int (nI ct)])), (aG 1, .inl (kG 1, 30, .inl f1)), (aG 2, .inl (kG 2, 30, .inl f2)), (aG 3, .inl (kG 3, 20, .inl dr)), (aG 4, .inl (kG 4, 20, .inl cl)), (aG 5, .inl (kG 5, 20, .inl tr)), (aG 6, .inl (kG 6, 1024, .inl se)), (oa, .inl (ok, 1, .inr (.inl ou)))]) (w1 := (gmW aM kM f1 f2 of ro fa 1 (nI g) (nI r) (-1) (-1))) hP hD [7, 8, 9, 10, 11, 12] [0, 1, 2, 3, 4, 5, 6, 13] rfl rfl (by decide) (by decide) hk1 hFc hP1 hD1
  have hP : va_P (dC, dI) vwCl (gcW aG kG f1 f2 dr cl tr se (nI g) (nI r) inf (nI ct) ++ (gmW aM kM f1 f2 of ro fa 1 (nI g) (nI r) (-1) (-1) ++ ([(oa, .inl (ok, 1, .inr (.inl ou)))]))) H := hP.sub [0, 1, 2, 3, 4, 5, 6, 8, 9, 10, 11, 12, 13, 7] rfl
  have hD : va_D (fun q : Nat => s.heap.size ≤ q) (gcW aG kG f1 f2 dr cl tr se (nI g) (nI r) inf (nI ct) ++ (gmW aM kM f1 f2 of ro fa 1 (nI g) (nI r) (-1) (-1) ++ ([(oa, .inl (ok, 1, .inr (.inl ou)))]))) := hD.sub [0, 1, 2, 3, 4, 5, 6, 8, 9, 10, 11, 12, 13, 7] (by decide) rfl
  have hw_260 : True := hw
  clear hz1 hk1 ht hvm hP1 hD1 hFc hDc
  clear hPc hKc
  refine lv_istore (lv' := [(6, .int r2), (5, .int 1), (4, .int (nI (3 * jj))), (0, .ref b), (1, .ref (aG 0)), (2, .ref (aM 0)), (3, .ref oa)]) hx hb dL_law_263 hl (by decide) rfl (fun ls hl => ?_)
  refine lv_aload_n hx hb dL_law_265 rfl (lv_at hl 5 rfl) ?_
  have hPc : va_P (dC, dI) vwCl (gmW aM kM f1 f2 of ro fa 1 (nI g) (nI r) (-1) (-1)) _ := hP.sub [7, 8, 9, 10, 11, 12] rfl
  have hKc : va_K (dC, dI) vwCl (gmT kM) s := hK.sub [6, 7, 8, 9, 10] rfl
  refine va_calli (va_runV (As := []) (rest := []) ⟨hx, hb, hml, hown, hts⟩ (c_X1_thrown l dC dI aM kM f1 f2 of ro fa 1 g r (-1) (-1)) (cwV 0 hts gL_law_X1_thrown rfl rfl rfl (by decide +kernel) ⟨Nat.le_of_ble_eq_true rfl, Nat.le_of_ble_eq_true rfl⟩) ⟨gcPR_blind, va_recv hK hP (ci := 1) (q0 := 7) rfl rfl, fun U hU hW => ⟨rfl, by rw [hU]; exact hPc, va_K.moved hW.alike hKc⟩⟩ rfl rfl hl.1 rfl (lv_room (Nat.le_of_ble_eq_true rfl)) dL_law_266 ⟨show 14 + jj + 1 + 0 + 0 ≤ 1046 by omega, show 1295 + 6 * jj + 6 + 0 + 0 ≤ 9535 by omega⟩) hS (fun q _ h => h.elim) (fun q h => h.elim) (fun r3 u t H locs ht hvm hw hB hz1 hk1 hS => ?_)
  have hP := gc_keep hP hk1
  have hw : r3 = 1 := hw
  subst hw
  clear hw
  clear hB hz1 hk1 ht hvm
  clear hPc hKc
  refine lv_iload hx hb dL_law_269 (lv_at hl 1 rfl) ?_
  refine lv_icmp_eq (tgt := 276) hx hb dL_law_271 (by decide) (fun c_271 => ?_) (fun c_271 => absurd rfl c_271)
  refine lv_iload hx hb dL_law_276 (lv_at hl 1 rfl) ?_
  refine lv_if_ne (tgt := 300) hx hb dL_law_278 (by decide) (fun c_278 => ?_) (fun c_278 => ?_)
  · skip
    refine lv_goto (tgt := 951) hx hb dL_law_300 (by decide) ?_
    refine lv_iinc (v := nI (3 * (jj + 1))) (lv' := [(4, .int (nI (3 * (jj + 1)))), (6, .int r2), (5, .int 1), (0, .ref b), (1, .ref (aG 0)), (2, .ref (aM 0)), (3, .ref oa)]) hx hb dL_law_951 hl (k := 2) rfl (nI_3 jj) (by decide) rfl (fun ls hl => ?_)
    refine lv_goto (tgt := 23) hx hb dL_law_954 (by decide) ?_
    refine W.widen (k := 14 + (jj + 1)) (n := 1295 + 6 * (jj + 1)) (by omega) (by omega) ?_
    exact ih d H _ ls hd ⟨K, g, r, f1, f2, dr, cl, tr, se, inf, ct, of, ro, fa, 1, ou, hI, hP, hD, hS, lv_sub hl [0, 3, 4, 5, 6] rfl⟩
  · skip
    exact absurd c_278 (by decide)
