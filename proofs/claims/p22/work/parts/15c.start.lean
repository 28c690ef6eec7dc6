set_option maxHeartbeats 4000000 in
set_option maxRecDepth 100000 in
/-- THE LAW, from its entry -/
theorem whole_start {p : Program} {e : Env} {s : State} {m : MethodId} {below : List Frame} {meth : Method} {c : Code} (l : Launch) (hflags : l.flags = flags0) {b L : Nat} {xs : Nat → Int32} (hL : L ≤ 260) (C0 : lw_At p s m meth c b L xs) : W p l e room_1 s m #[Value.ref b] below meth c s.heap [] 0 0 (lw_Z below #[Value.ref b] s) (entryFrame m ([Value.ref b] : List Value).toArray 17) := by
  obtain ⟨hx, hb, hr, hml, hown, hts0, hX, hbl, hlocks, hgv⟩ := id C0
  have hA : ∀ q : Nat, s.heap.size ≤ q → (fun q : Nat => s.heap.size ≤ q) q := fun _ h => h
  obtain ⟨c0, iS0, hKn0⟩ := u_known (C := RX0) (T := TX0) (N := 10) (n := 10) hts0 inX0 (hts0 (.instantiable RX0 10) (by decide +kernel))
  obtain ⟨c1, iS1, hKn1⟩ := u_known (C := RX1) (T := TX1) (N := 5) (n := 5) hts0 inX1 (hts0 (.instantiable RX1 5) (by decide +kernel))
  obtain ⟨dC, dI, hKc⟩ : ∃ (dC : Nat → ClassId) (dI : Nat → Nat → Nat), ∀ (k : Nat) (q : vw_C), vwCl[k]? = some q → u_Kn s q.1 q.2.1 q.2.2 (dC k) (dI k) := by
    refine ⟨fun k => if k = 0 then c0 else c1, fun k => if k = 0 then iS0 else iS1, ?_⟩
    intro k q hq
    match k, hq with
    | 0, hq => cases hq; exact hKn0
    | 1, hq => cases hq; exact hKn1
    | k + 2, hq => simp [vwCl] at hq
  have hS : va_S (fun q : Nat => s.heap.size ≤ q) s.heap s.heap [] := va_S.rf
  have hK : va_K (dC, dI) vwCl [] s := ⟨hKc, fun k q h => by simp at h⟩
  have hP : va_P (dC, dI) vwCl [] s.heap := fun k q h => by simp at h
  have hD : va_D (fun q : Nat => s.heap.size ≤ q) [] := ⟨fun i j p q h => by simp at h, fun k q h => by simp at h⟩
  have hd := Drawn.sameBut.refl s.drawn lw_cs
  refine W.base ?_
  have hown : s.vm.findClass RL = some m.cls := hown
  have hts1 : ∀ w ∈ wsL_law, w.before #[Value.ref b] s = true := fun w h => hts0 w (wsL_law_in w h)
  have hts := dr_words hts1 s.drawn
  have hO : va_AOA .int s := va_AOA.of (hts0 (.arrayOver (.array .int)) (by decide +kernel))
  have hN : va_Nw (.methodLinkNest RL 42 yX1_init RL) s := va_Nw.of rfl (hts0 (.methodLinkNest RL 42 yX1_init RL) (by decide +kernel))
  have hbA : ¬ (fun q : Nat => s.heap.size ≤ q) b := Nat.not_le.mpr hbl
  have hL31 : L < 2 ^ 31 := by omega
  have hl := lv_entry ([.ref b]) (n := 17) (Nat.le_of_ble_eq_true rfl)
  rw [lg_entry_eq]
  generalize (lg_sl ([.ref b]) ++ List.replicate (17 - (lg_sl ([.ref b])).length) Slot.unset).toArray = ls at hl ⊢
  have hl : lv_has ls 17 [(0, .ref b)] := hl
  refine va_new (ci := 0) (fs := [.null, .null, .null, .null, .null, .null, .int 0, .int 0, .int 0, .int 0]) (C := RX0) (T := TX0) (N := 10) hx hb hts inlX0 tyX0 tyX0_ok hown (hts (.classLink RL 26 RX0) (by decide +kernel)) (hts (.instantiable RX0 10) (by decide +kernel)) (hts (.initialized RX0) (by decide +kernel)) hK hP hD hS hA rfl (fun j hj => by rcases (show j = 0 ∨ j = 1 ∨ j = 2 ∨ j = 3 ∨ j = 4 ∨ j = 5 ∨ j = 6 ∨ j = 7 ∨ j = 8 ∨ j = 9 by omega) with rfl | rfl | rfl | rfl | rfl | rfl | rfl | rfl | rfl | rfl <;> rfl) (Nat.le_of_ble_eq_true rfl) (Nat.le_of_ble_eq_true rfl) dL_law_0 (fun q0 H hP hD hS => ?_)
  have hP : va_P (dC, dI) vwCl [(q0, .inr (0, [.null, .null, .null, .null, .null, .null, .int 0, .int 0, .int 0, .int 0]))] H := hP
  have hD : va_D (fun q : Nat => s.heap.size ≤ q) [(q0, .inr (0, [.null, .null, .null, .null, .null, .null, .int 0, .int 0, .int 0, .int 0]))] := hD
  refine W.widen (k := 1) (n := 10) (by decide) (by decide) ?_
  refine lv_dup hx hb dL_law_3 rfl ?_
  have hFc := va_free (wc := [(q0, .inr (0, [.null, .null, .null, .null, .null, .null, .int 0, .int 0, .int 0, .int 0]))]) hD hS hA [0] rfl
  refine va_callv (va_runI (As := []) (rest := [.ref q0]) ⟨hx, hb, hml, hown, hts⟩ (c_X0_init l dC dI q0 H.size) (cwI 0 hts gL_law_X0_init rfl rfl rfl (hts (.initialized RX0) (by decide +kernel)) (hts (.methodLink RL 51 yX0_init) (by decide +kernel)) (hts (.instanceMethod yX0_init) (by decide +kernel)) rfl (by decide +kernel) ⟨Nat.le_of_ble_eq_true rfl, Nat.le_of_ble_eq_true rfl⟩) ⟨gcPM_blind, fun U hU hW => ⟨rfl, by rw [hU], by rw [hU]; exact hP, va_K.moved hW.alike hK, hD.weaken (fun _ _ _ _ => trivial)⟩⟩ rfl rfl hl.1 rfl (lv_room (Nat.le_of_ble_eq_true rfl)) dL_law_4 ⟨Nat.le_of_ble_eq_true rfl, Nat.le_of_ble_eq_true rfl⟩) hS (fun q _ h => hFc q h) hFc (fun u t H locs ht hvm hw hB hz1 hk1 hS => ?_)
  obtain ⟨aG, kG⟩ := u
  obtain ⟨hP1, hD1, hK1⟩ := hB
  rw [ht] at hP1
  have hK : va_K (dC, dI) vwCl (gcT kG) s := va_K.moved hvm.symm hK1
  have hw : aG 0 = q0 := hw
  subst hw
  obtain ⟨hP, hD⟩ := va_join (wr := []) (w1 := gcN aG kG) hP hD [0] [] rfl rfl (by decide) (by decide) hk1 hFc hP1 hD1
  clear hP1 hD1 hFc hk1 hz1 ht hK1 hvm
  refine W.widen (k := 7) (n := 1154) (by decide) (by decide) ?_
  have hP : va_P (dC, dI) vwCl (gcW aG kG (fun _ => 0) (fun _ => 0) (gLA (fun _ => 0) (fun _ => 0) 0 (-1) 0 (fun _ => 0)) (gCl (gLA (fun _ => 0) (fun _ => 0) 0 (-1) 0 (fun _ => 0)) 20) (fun _ => 0) ((gLs (gCl (gLA (fun _ => 0) (fun _ => 0) 0 (-1) 0 (fun _ => 0)) 20) (fun _ => 0) 0 0).1) (nI 0) (nI 0) 0 (nI (gLs (gCl (gLA (fun _ => 0) (fun _ => 0) 0 (-1) 0 (fun _ => 0)) 20) (fun _ => 0) 0 0).2)) H := hP
  have hD : va_D (fun q : Nat => s.heap.size ≤ q) (gcW aG kG (fun _ => 0) (fun _ => 0) (gLA (fun _ => 0) (fun _ => 0) 0 (-1) 0 (fun _ => 0)) (gCl (gLA (fun _ => 0) (fun _ => 0) 0 (-1) 0 (fun _ => 0)) 20) (fun _ => 0) ((gLs (gCl (gLA (fun _ => 0) (fun _ => 0) 0 (-1) 0 (fun _ => 0)) 20) (fun _ => 0) 0 0).1) (nI 0) (nI 0) 0 (nI (gLs (gCl (gLA (fun _ => 0) (fun _ => 0) 0 (-1) 0 (fun _ => 0)) 20) (fun _ => 0) 0 0).2)) := hD
  refine lv_astore_n (lv' := [(1, .ref (aG 0)), (0, .ref b)]) hx hb dL_law_7 rfl hl (by decide) rfl (fun ls hl => ?_)
  refine lv_aload_n hx hb dL_law_8 rfl (lv_at hl 0 rfl) ?_
  refine lv_aload_n hx hb dL_law_9 rfl (lv_at hl 1 rfl) ?_
  have hXc : va_X b L xs s H := hX.kept (hS.2.1 b hbl hbA)
  have hbc : b < H.size := Nat.lt_of_lt_of_le hbl hS.1
  have hPc : va_P (dC, dI) vwCl (gcW aG kG (fun _ => 0) (fun _ => 0) (gLA (fun _ => 0) (fun _ => 0) 0 (-1) 0 (fun _ => 0)) (gCl (gLA (fun _ => 0) (fun _ => 0) 0 (-1) 0 (fun _ => 0)) 20) (fun _ => 0) ((gLs (gCl (gLA (fun _ => 0) (fun _ => 0) 0 (-1) 0 (fun _ => 0)) 20) (fun _ => 0) 0 0).1) (nI 0) (nI 0) 0 (nI ((gLs (gCl (gLA (fun _ => 0) (fun _ => 0) 0 (-1) 0 (fun _ => 0)) 20) (fun _ => 0) 0 0).2))) _ := hP.sub [0, 1, 2, 3, 4, 5, 6] rfl
  have hKc : va_K (dC, dI) vwCl (gcT kG) s := hK.sub [0, 1, 2, 3, 4, 5] rfl
  have hDc : va_D (fun q : Nat => s.heap.size ≤ q) (gcW aG kG (fun _ => 0) (fun _ => 0) (gLA (fun _ => 0) (fun _ => 0) 0 (-1) 0 (fun _ => 0)) (gCl (gLA (fun _ => 0) (fun _ => 0) 0 (-1) 0 (fun _ => 0)) 20) (fun _ => 0) ((gLs (gCl (gLA (fun _ => 0) (fun _ => 0) 0 (-1) 0 (fun _ => 0)) 20) (fun _ => 0) 0 0).1) (nI 0) (nI 0) 0 (nI ((gLs (gCl (gLA (fun _ => 0) (fun _ => 0) 0 (-1) 0 (fun _ => 0)) 20) (fun _ => 0) 0 0).2))) := hD.sub [0, 1, 2, 3, 4, 5, 6] (by decide) rfl
  have hFc := va_free (wc := (gcW aG kG (fun _ => 0) (fun _ => 0) (gLA (fun _ => 0) (fun _ => 0) 0 (-1) 0 (fun _ => 0)) (gCl (gLA (fun _ => 0) (fun _ => 0) 0 (-1) 0 (fun _ => 0)) 20) (fun _ => 0) ((gLs (gCl (gLA (fun _ => 0) (fun _ => 0) 0 (-1) 0 (fun _ => 0)) 20) (fun _ => 0) 0 0).1) (nI 0) (nI 0) 0 (nI ((gLs (gCl (gLA (fun _ => 0) (fun _ => 0) 0 (-1) 0 (fun _ => 0)) 20) (fun _ => 0) 0 0).2)))) hD hS hA [0, 1, 2, 3, 4, 5, 6] rfl
  refine va_callr (va_runS (As := [.ref (aG 0), .ref b]) (rest := []) ⟨hx, hb, hml, hown, hts⟩ (c_L_build l dC dI aG kG (fun _ => 0) (fun _ => 0) (gLA (fun _ => 0) (fun _ => 0) 0 (-1) 0 (fun _ => 0)) (gCl (gLA (fun _ => 0) (fun _ => 0) 0 (-1) 0 (fun _ => 0)) 20) (fun _ => 0) ((gLs (gCl (gLA (fun _ => 0) (fun _ => 0) 0 (-1) 0 (fun _ => 0)) 20) (fun _ => 0) 0 0).1) 0 ((gLs (gCl (gLA (fun _ => 0) (fun _ => 0) 0 (-1) 0 (fun _ => 0)) 20) (fun _ => 0) 0 0).2) (0, fun _ => 0, fun _ => 0, fun _ => false) b L xs H.size (Inv_new) (by omega)) (va_cwS 2 hts gL_law_L_build rfl rfl rfl (by decide +kernel) ⟨Nat.le_of_ble_eq_true rfl, Nat.le_of_ble_eq_true rfl⟩) ⟨qaPT_blind, fun U hU hW => ⟨rfl, by rw [hU], by rw [hU]; exact hPc, va_K.moved hW.alike hKc, hDc.weaken (fun _ _ _ _ => trivial), va_AOA.moved hW.alike hO, va_X.moved hW.alike (by rw [hU]; exact hXc), hbc, qaS_off hDc hbA, va_Nw.warmM hW hN⟩⟩ rfl rfl hl.1 rfl (lv_room (Nat.le_of_ble_eq_true rfl)) dL_law_10 ⟨by show _ ≤ (600172 : Nat); omega, by show _ ≤ (7300668 : Nat); omega⟩) hS (fun q _ h => hFc q h) hFc (fun u ra t H locs ht hvm hw hB hz1 hk1 hS => ?_)
  clear hXc hbc
  obtain ⟨K2, g2, r2, f1z, f2z, drz, clz, trz, sez, infz, ctz, ruz, rrz, kA, kI⟩ := u
  obtain ⟨sa, e_ra⟩ : ∃ z, z = ra := ⟨_, rfl⟩
  subst e_ra
  obtain ⟨hP1, hK1, hD1⟩ := hB
  rw [ht] at hP1
  have hK : va_K (dC, dI) vwCl (gcT kG ++ [(kA, .array .int), (kI, .int)]) s := va_K.moved hvm.symm hK1
  clear hK1
  obtain ⟨hP, hD⟩ := va_join (wr := []) (w1 := ((gcW aG kG f1z f2z drz clz trz sez (nI g2) (nI r2) infz (nI ctz) ++ ([(sa, .inr (1, [.int (nI g2), .ref ruz, .null, .null, .int 0]))] ++ ([(ruz, qa_R kA r2 (qa_up r2 rrz))]))) ++ (qT r2 rrz (qE kI 3 (qF K2)) ++ []))) hP hD [0, 1, 2, 3, 4, 5, 6] [] rfl rfl (by decide) (by decide) hk1 hFc hP1 hD1
  have hP : va_P (dC, dI) vwCl ((gcW aG kG f1z f2z drz clz trz sez (nI g2) (nI r2) infz (nI ctz) ++ ([(sa, .inr (1, [.int (nI g2), .ref ruz, .null, .null, .int 0]))] ++ ([(ruz, qa_R kA r2 (qa_up r2 rrz))]))) ++ (qT r2 rrz (qE kI 3 (qF K2)) ++ [])) H := hP
  have hD : va_D (fun q : Nat => s.heap.size ≤ q) ((gcW aG kG f1z f2z drz clz trz sez (nI g2) (nI r2) infz (nI ctz) ++ ([(sa, .inr (1, [.int (nI g2), .ref ruz, .null, .null, .int 0]))] ++ ([(ruz, qa_R kA r2 (qa_up r2 rrz))]))) ++ (qT r2 rrz (qE kI 3 (qF K2)) ++ [])) := hD
  have hw_10 : 1 ≤ g2 ∧ Inv K2 g2 r2 f1z f2z infz drz clz sez ctz := hw
  clear hz1 hk1 ht hvm hP1 hD1 hFc hDc
  clear hPc hKc
  refine lv_astore_n (lv' := [(2, .ref sa), (1, .ref (aG 0)), (0, .ref b)]) hx hb dL_law_13 rfl hl (by decide) rfl (fun ls hl => ?_)
  refine lv_aload_n hx hb dL_law_14 rfl (lv_at hl 0 rfl) ?_
  refine lv_ifnonnull (tgt := 20) hx hb dL_law_15 (by decide) ?_
  refine lv_iconst (v := 0) hx hb dL_law_20 (by decide) ?_
  refine lv_istore_n (lv' := [(3, .int 0), (2, .ref sa), (1, .ref (aG 0)), (0, .ref b)]) hx hb dL_law_21 rfl hl (by decide) rfl (fun ls hl => ?_)
  refine W.widen (k := 33) (n := 1567) (by omega) (by omega) ?_
  refine law_rounds (k0 := 33) (n0 := 1567) 6 102 8 (LSt dC dI (fun q : Nat => s.heap.size ≤ q) s b aG kG sa kA kI) (fun t d H locs ls ht hd hLS ih => law_round l hL C0 (fun _ h => h) (fun _ h => h) hK ht hd hLS ih) hd ?_
  exact ⟨K2, g2, r2, f1z, f2z, drz, clz, trz, sez, infz, ctz, ruz, rrz, hw_10.1, hw_10.2, hP, hD, hS, lv_sub hl [0, 3, 2, 1] rfl⟩
