/-! BY HAND: its constructor; a book that cells choose. -/
/-- premises of build: it makes arrays of arrays, reads the script, and calls a nest mate's private constructor -/
abbrev qaPT (D : va_G) (As : List Value) (ws : va_W) (tys : List (ClassId × FieldType)) (sz b L : Nat) (xs : Nat → Int32) : Array Value → State → Prop := va_Pc As (fun U => U.heap.size = sz ∧ va_P D vwCl ws U.heap ∧ va_K D vwCl tys U ∧ va_D (fun _ => True) ws ∧ va_AOA .int U ∧ va_X b L xs U U.heap ∧ b < sz ∧ (∀ (k : Nat) (e : va_E), ws[k]? ≠ some (b, e)) ∧ va_Nw (.methodLinkNest RL 42 yX1_init RL) U)
theorem qaPT_blind {D : va_G} {As : List Value} {ws : va_W} {tys : List (ClassId × FieldType)} {sz b L : Nat} {xs : Nat → Int32} : FrameBlind (qaPT D As ws tys sz b L xs) := fun a U g mk q => by
  obtain ⟨q0, q1, qP, qK, qD, qO, qX, qb, qn, qN⟩ := q
  exact ⟨q0, q1, qP, va_K.moved (u := U) (U := U.calling g mk a) (Vm.Alike.refl U.vm) qK, qD, va_AOA.moved (u := U) (U := U.calling g mk a) (Vm.Alike.refl U.vm) qO, va_X.moved (u := U) (U := U.calling g mk a) (Vm.Alike.refl U.vm) qX, qb, qn, va_Nw.same (u := U) (U := U.calling g mk a) rfl rfl qN⟩
set_option maxHeartbeats 4000000 in
set_option maxRecDepth 100000 in
theorem c_X1_init (l : Launch) (dC : Nat → ClassId) (dI : Nat → Nat → Nat) (h0 : Nat) (sz : Nat) : Met l yX1_init wsX1_init ({ frames := 2, cells := 1, slots := 0, locals := 32 }) (qaPM (dC, dI) [.ref h0] [(h0, .inr (1, [.int 0, .null, .null, .null, .int 0]))] [] sz) (va_Qv (fun (_u : Nat × ClassId) => True) (fun u t9 => va_P (dC, dI) vwCl [(h0, .inr (1, [.int 0, .ref u.1, .null, .null, .int 0])), (u.1, qa_R u.2 0 (fun _ => none))] t9.heap ∧ va_D (va_A [(h0, .inr (1, [.int 0, .null, .null, .null, .int 0]))] sz) [(h0, .inr (1, [.int 0, .ref u.1, .null, .null, .int 0])), (u.1, qa_R u.2 0 (fun _ => none))] ∧ va_K (dC, dI) vwCl [(u.2, .array .int)] t9) (va_A [(h0, .inr (1, [.int 0, .null, .null, .null, .int 0]))] sz)) 1 0 (va_A [(h0, .inr (1, [.int 0, .null, .null, .null, .int 0]))] sz) := by
  refine Met.ofW (cc := cX1_init) (maxL := 1) (ret := none) (by decide) rfl ?_
  intro p e s m args below meth c s₁ B hml hv
  obtain ⟨rfl, hsz, hP, hK, hD0, hO⟩ := hv
  have hx := B.exec
  have hb := B.bytes
  have hr := B.returns
  have hts := atoms_spec (ws := wsX1_init) B.pre
  have hown : s.vm.findClass RX1 = some m.cls := findClass_of_methodNamed B.named
  have hlocks := B.notSynchronized
  subst hsz
  have hD := hD0.self (sz := s.heap.size)
  generalize hAe : va_A [(h0, .inr (1, [.int 0, .null, .null, .null, .int 0]))] s.heap.size = A at hD ⊢
  have hA : ∀ q : Nat, s.heap.size ≤ q → A q := fun q h => by rw [← hAe]; exact Or.inr h
  have hS : va_S A s.heap s.heap [] := va_S.rf
  have hP : va_P (dC, dI) vwCl [(h0, .inr (1, [.int 0, .null, .null, .null, .int 0]))] s.heap := hP
  have hin1 : ∀ w ∈ wsX10, w ∈ wsX1_init := by decide +kernel
  have hl := lv_entry [.ref h0] (n := 1) (Nat.le_of_ble_eq_true rfl)
  rw [lg_entry_eq]
  generalize (lg_sl [.ref h0] ++ List.replicate (1 - (lg_sl [.ref h0]).length) Slot.unset).toArray = ls at hl ⊢
  have hl : lv_has ls 1 [(0, .ref h0)] := hl
  refine lv_aload_n hx hb dX1_init_0 rfl (lv_at hl 0 rfl) ?_
  refine W.objInit hx hb hown (hts (.methodLink RX1 1 objectInit) (by decide +kernel)) (hts (.instanceMethod objectInit) (by decide +kernel)) (hts (.code objectInit ⟨#[0xb1]⟩ 1 none) (by decide +kernel)) rfl (by rw [hml]; exact hl.1) rfl dX1_init_1 (Nat.le_of_ble_eq_true rfl) (Nat.le_of_ble_eq_true rfl) ?_
  refine W.eq (g2 := F0 m 4 ls []) rfl ?_
  refine lv_aload_n hx hb dX1_init_4 rfl (lv_at hl 0 rfl) ?_
  refine lv_iconst (v := 0) hx hb dX1_init_5 (by decide) ?_
  refine qa_new hx hb hown (hts (.classLink RX1 7 "[I") (by decide +kernel)) hO hK hP hD hS hA (n := 0) (N' := 0) (by decide) rfl (by decide) (Nat.le_of_ble_eq_true rfl) (Nat.le_of_ble_eq_true rfl) dX1_init_6 (fun q1 kA H hK hP hD hS => ?_)
  have hP : va_P (dC, dI) vwCl [(h0, .inr (1, [.int 0, .null, .null, .null, .int 0])), (q1, qa_R kA 0 (fun _ => none))] H := hP
  have hD : va_D A [(h0, .inr (1, [.int 0, .null, .null, .null, .int 0])), (q1, qa_R kA 0 (fun _ => none))] := hD
  have hK : va_K (dC, dI) vwCl [(kA, .array .int)] s := hK
  refine W.widen (k := 1) (n := 0) (by decide) (by decide) ?_
  refine va_put (D := (dC, dI)) (ci := 1) (v := .ref q1) (ty := (.array (.array .int))) (C := RX1) (T := TX1) (N := 5) hx hb hts hin1 tyX1 tyX1_ok nmX1 hown hK hP hD hS 0 rfl rfl 1 (by decide) (hts (.fieldLink RX1 9 "GuestChairsLaw$Sim" "rules" "[[I") (by decide +kernel)) (fun _ h9 => h9) rfl (by decide +kernel) rfl rfl (Nat.le_of_ble_eq_true rfl) dX1_init_9 (fun H locs hP hD hS => ?_)
  have hP : va_P (dC, dI) vwCl [(h0, .inr (1, [.int 0, .ref q1, .null, .null, .int 0])), (q1, qa_R kA 0 (fun _ => none))] H := hP
  have hD : va_D A [(h0, .inr (1, [.int 0, .ref q1, .null, .null, .int 0])), (q1, qa_R kA 0 (fun _ => none))] := hD
  exact W.vret hx hb hr (fun t ht hW => ⟨⟨(q1, kA), rfl, trivial, by rw [ht]; exact hP, hD, va_K.moved hW.alike hK⟩, hS.F ht⟩) hS.2.2 dX1_init_12
set_option maxHeartbeats 4000000 in
set_option maxRecDepth 100000 in
theorem c_L_build (l : Launch) (dC : Nat → ClassId) (dI : Nat → Nat → Nat) (h : Nat → Nat) (kc : Nat → ClassId) (f1 : Nat → Int32) (f2 : Nat → Int32) (dr : Nat → Int32) (cl : Nat → Int32) (tr : Nat → Int32) (se : Nat → Int32) (inf : Int32) (ct : Nat) (K : Bk) (b L : Nat) (xs : Nat → Int32) (sz : Nat) (hI : Inv K 0 0 f1 f2 inf dr cl se ct) (hL : L < 2 ^ 31) : Met l yL_build wsL_build ({ frames := 8, cells := 26, slots := 413, locals := 177 }) (qaPT (dC, dI) [.ref (h 0), .ref b] (gcW h kc f1 f2 dr cl tr se (nI 0) (nI 0) inf (nI ct)) (gcT kc) sz b L xs) (va_Qr (fun (u : (Bk) × (Nat) × (Nat) × (Nat → Int32) × (Nat → Int32) × (Nat → Int32) × (Nat → Int32) × (Nat → Int32) × (Nat → Int32) × (Int32) × (Nat) × (Nat) × (Nat → Nat) × (ClassId) × (ClassId)) => (match u with | (K2, g2, r2, f1z, f2z, drz, clz, trz, sez, infz, ctz, ruz, rrz, kA, kI) => 1 ≤ g2 ∧ Inv K2 g2 r2 f1z f2z infz drz clz sez ctz)) (fun u rv t9 => va_P (dC, dI) vwCl (match u with | (K2, g2, r2, f1z, f2z, drz, clz, trz, sez, infz, ctz, ruz, rrz, kA, kI) => ((gcW h kc f1z f2z drz clz trz sez (nI g2) (nI r2) infz (nI ctz) ++ ([(rv, .inr (1, [.int (nI g2), .ref ruz, .null, .null, .int 0]))] ++ ([(ruz, qa_R kA r2 (qa_up r2 rrz))]))) ++ (qT r2 rrz (qE kI 3 (qF K2)) ++ []))) t9.heap ∧ va_K (dC, dI) vwCl (match u with | (K2, g2, r2, f1z, f2z, drz, clz, trz, sez, infz, ctz, ruz, rrz, kA, kI) => (gcT kc ++ [(kA, .array .int), (kI, .int)])) t9 ∧ va_D (va_A (gcW h kc f1 f2 dr cl tr se (nI 0) (nI 0) inf (nI ct)) sz) (match u with | (K2, g2, r2, f1z, f2z, drz, clz, trz, sez, infz, ctz, ruz, rrz, kA, kI) => ((gcW h kc f1z f2z drz clz trz sez (nI g2) (nI r2) infz (nI ctz) ++ ([(rv, .inr (1, [.int (nI g2), .ref ruz, .null, .null, .int 0]))] ++ ([(ruz, qa_R kA r2 (qa_up r2 rrz))]))) ++ (qT r2 rrz (qE kI 3 (qF K2)) ++ [])))) (va_A (gcW h kc f1 f2 dr cl tr se (nI 0) (nI 0) inf (nI ct)) sz)) 26 413 (va_A (gcW h kc f1 f2 dr cl tr se (nI 0) (nI 0) inf (nI ct)) sz) := by
  refine Met.ofW (cc := cL_build) (maxL := 5) (ret := (some (.object "GuestChairsLaw$Sim"))) (by decide) rfl ?_
  intro p e s m args below meth c s₁ B hml hv
  obtain ⟨rfl, hsz, hP, hK, hD0, hO, hX, hbl, hbn, hN⟩ := hv
  have hx := B.exec
  have hb := B.bytes
  have hr := B.returns
  have hts := atoms_spec (ws := wsL_build) B.pre
  have hown : s.vm.findClass RL = some m.cls := findClass_of_methodNamed B.named
  have hlocks := B.notSynchronized
  subst hsz
  have hD := hD0.self (sz := s.heap.size)
  have hbA := qaS_not hbl hbn
  generalize hAe : va_A (gcW h kc f1 f2 dr cl tr se (nI 0) (nI 0) inf (nI ct)) s.heap.size = A at hD hbA ⊢
  have hA : ∀ q : Nat, s.heap.size ≤ q → A q := fun q h => by rw [← hAe]; exact Or.inr h
  have hS : va_S A s.heap s.heap [] := va_S.rf
  have hP : va_P (dC, dI) vwCl (gcW h kc f1 f2 dr cl tr se (nI 0) (nI 0) inf (nI ct)) s.heap := hP
  have hin1 : ∀ w ∈ wsX10, w ∈ wsL_build := by decide +kernel
  have hl := lv_entry [.ref (h 0), .ref b] (n := 5) (Nat.le_of_ble_eq_true rfl)
  rw [lg_entry_eq]
  generalize (lg_sl [.ref (h 0), .ref b] ++ List.replicate (5 - (lg_sl [.ref (h 0), .ref b]).length) Slot.unset).toArray = ls at hl ⊢
  have hl : lv_has ls 5 [(0, .ref (h 0)), (1, .ref b)] := hl
  refine va_new (ci := 1) (fs := [.int 0, .null, .null, .null, .int 0]) (C := RX1) (T := TX1) (N := 5) hx hb hts hin1 tyX1 tyX1_ok hown (hts (.classLink RL 10 RX1) (by decide +kernel)) (hts (.instantiable RX1 5) (by decide +kernel)) (hts (.initialized RX1) (by decide +kernel)) hK hP hD hS hA rfl (fun j hj => by rcases (show j = 0 ∨ j = 1 ∨ j = 2 ∨ j = 3 ∨ j = 4 by omega) with rfl | rfl | rfl | rfl | rfl <;> rfl) (by show _ ≤ (26 : Nat); omega) (by show _ ≤ (413 : Nat); omega) dL_build_0 (fun qs H hP hD hS => ?_)
  have hP : va_P (dC, dI) vwCl (gcW h kc f1 f2 dr cl tr se (nI 0) (nI 0) inf (nI ct) ++ [(qs, .inr (1, [.int 0, .null, .null, .null, .int 0]))]) H := hP
  have hD : va_D A (gcW h kc f1 f2 dr cl tr se (nI 0) (nI 0) inf (nI ct) ++ [(qs, .inr (1, [.int 0, .null, .null, .null, .int 0]))]) := hD
  refine W.widen (k := 1) (n := 5) (by decide) (by decide) ?_
  refine lv_dup hx hb dL_build_3 rfl ?_
  have hPc : va_P (dC, dI) vwCl [(qs, .inr (1, [.int 0, .null, .null, .null, .int 0]))] _ := hP.sub [7] rfl
  have hDc : va_D A [(qs, .inr (1, [.int 0, .null, .null, .null, .int 0]))] := hD.sub [7] (by decide) rfl
  have hKc : va_K (dC, dI) vwCl [] s := hK.sub [] rfl
  have hFc := va_free (wc := [(qs, .inr (1, [.int 0, .null, .null, .null, .int 0]))]) hD hS hA [7] rfl
  refine va_callv (va_runIN (As := []) (rest := [.ref qs]) ⟨hx, hb, hml, hown, hts⟩ (c_X1_init l dC dI qs H.size) ⟨va_cnB 0 hts gL_build_X1_init_n42 rfl rfl rfl hN (hts (.initialized RX1) (by decide +kernel)) (by decide +kernel) ⟨Nat.le_of_ble_eq_true rfl, Nat.le_of_ble_eq_true rfl⟩, rfl, hts (.instanceMethod yX1_init) (by decide +kernel)⟩ ⟨qaPM_blind, fun U hU hW => ⟨rfl, by rw [hU], by rw [hU]; exact hPc, va_K.moved hW.alike hKc, hDc.weaken (fun _ _ _ _ => trivial), va_AOA.moved hW.alike hO⟩⟩ rfl rfl hl.1 rfl (lv_room (Nat.le_of_ble_eq_true rfl)) dL_build_4 ⟨by show _ ≤ (26 : Nat); omega, by show _ ≤ (413 : Nat); omega⟩) hS (fun q _ h => hFc q h) hFc (fun u t H locs ht hvm hw hB hz1 hk1 hS => ?_)
  obtain ⟨q1, kA⟩ := u
  obtain ⟨hP1, hD1, hK1⟩ := hB
  rw [ht] at hP1
  have hP1 : va_P (dC, dI) vwCl [(qs, .inr (1, [.int 0, .ref q1, .null, .null, .int 0])), (q1, qa_R kA 0 (fun _ => none))] H := hP1
  have hD1 : va_D _ [(qs, .inr (1, [.int 0, .ref q1, .null, .null, .int 0])), (q1, qa_R kA 0 (fun _ => none))] := hD1
  obtain ⟨hP, hD⟩ := va_join (wr := gcW h kc f1 f2 dr cl tr se (nI 0) (nI 0) inf (nI ct)) (w1 := [(qs, .inr (1, [.int 0, .ref q1, .null, .null, .int 0])), (q1, qa_R kA 0 (fun _ => none))]) hP hD [7] [0, 1, 2, 3, 4, 5, 6] rfl rfl (by decide) (by decide) hk1 hFc hP1 hD1
  have hK1 : va_K (dC, dI) vwCl [(kA, .array .int)] s := va_K.moved hvm.symm hK1
  have hK := hK.app hK1
  have hK : ∃ kI : ClassId, va_K (dC, dI) vwCl (gcT kc ++ [(kA, .array .int), (kI, .int)]) s := ⟨kc 1, hK.sub [0, 1, 2, 3, 4, 5, 6, 0] rfl⟩
  obtain ⟨kI, hK⟩ := hK
  rw [qa_up_0 (fun _ => 0)] at hP hD
  have hP : va_P (dC, dI) vwCl (gcW h kc f1 f2 dr cl tr se (nI 0) (nI 0) inf (nI ct) ++ ([(qs, .inr (1, [.int (nI 0), .ref q1, .null, .null, .int 0]))] ++ ([(q1, qa_R kA 0 (qa_up 0 (fun _ => 0)))]))) H := hP
  have hD : va_D A (gcW h kc f1 f2 dr cl tr se (nI 0) (nI 0) inf (nI ct) ++ ([(qs, .inr (1, [.int (nI 0), .ref q1, .null, .null, .int 0]))] ++ ([(q1, qa_R kA 0 (qa_up 0 (fun _ => 0)))]))) := hD
  have hP : va_P (dC, dI) vwCl ((gcW h kc f1 f2 dr cl tr se (nI 0) (nI 0) inf (nI ct) ++ ([(qs, .inr (1, [.int (nI 0), .ref q1, .null, .null, .int 0]))] ++ ([(q1, qa_R kA 0 (qa_up 0 (fun _ => 0)))]))) ++ (qT 0 (fun _ => 0) (qE kI 3 (qF K)) ++ [])) H := by show va_P _ _ ((gcW h kc f1 f2 dr cl tr se (nI 0) (nI 0) inf (nI ct) ++ ([(qs, .inr (1, [.int (nI 0), .ref q1, .null, .null, .int 0]))] ++ ([(q1, qa_R kA 0 (qa_up 0 (fun _ => 0)))]))) ++ []) H; rw [List.append_nil]; exact hP
  have hD : va_D A ((gcW h kc f1 f2 dr cl tr se (nI 0) (nI 0) inf (nI ct) ++ ([(qs, .inr (1, [.int (nI 0), .ref q1, .null, .null, .int 0]))] ++ ([(q1, qa_R kA 0 (qa_up 0 (fun _ => 0)))]))) ++ (qT 0 (fun _ => 0) (qE kI 3 (qF K)) ++ [])) := by show va_D A ((gcW h kc f1 f2 dr cl tr se (nI 0) (nI 0) inf (nI ct) ++ ([(qs, .inr (1, [.int (nI 0), .ref q1, .null, .null, .int 0]))] ++ ([(q1, qa_R kA 0 (qa_up 0 (fun _ => 0)))]))) ++ []); rw [List.append_nil]; exact hD
  clear hP1 hD1 hFc hDc hPc hKc hk1 hz1 ht hvm hw hK1
  refine W.widen (k := 2) (n := 5) (by decide) (by decide) ?_
  refine lv_astore_n (lv' := [(2, .ref qs), (0, .ref (h 0)), (1, .ref b)]) hx hb dL_build_7 rfl hl (by decide) rfl (fun ls hl => ?_)
  refine lv_iconst (v := 1) hx hb dL_build_8 (by decide) ?_
  refine lv_aload_n hx hb dL_build_9 rfl (lv_at hl 2 rfl) ?_
  refine lv_iconst (v := 0) hx hb dL_build_10 (by decide) ?_
  have hXc : va_X b L xs s H := hX.kept (hS.2.1 b hbl hbA)
  have hbc : b < H.size := Nat.lt_of_lt_of_le hbl hS.1
  refine va_calli (va_runS (As := [.ref b, .int 0]) (rest := [.int 1]) ⟨hx, hb, hml, hown, hts⟩ (c_L_cell l 0 b L xs (by first | assumption | omega) (by omega)) (va_cwS 2 hts gL_build_L_cell rfl rfl rfl (by decide +kernel) ⟨Nat.le_of_ble_eq_true rfl, Nat.le_of_ble_eq_true rfl⟩) ⟨qaPC_blind, fun U hU hW => ⟨rfl, va_X.moved hW.alike (by rw [hU]; exact hXc), by rw [hU]; exact hbc⟩⟩ rfl rfl hl.1 rfl (lv_room (Nat.le_of_ble_eq_true rfl)) dL_build_11 ⟨by show _ ≤ (26 : Nat); omega, by show _ ≤ (413 : Nat); omega⟩) hS (fun q _ h => h.elim) (fun q h => h.elim) (fun r1 u t H locs ht hvm hw hB hz1 hk1 hS => ?_)
  clear hXc hbc
  have hP := gc_keep hP hk1
  have hw : r1 = ceV L xs 0 := hw
  subst hw
  clear hw
  clear hB hz1 hk1 ht hvm
  refine lv_bipush (v := 7) hx hb dL_build_14 (by decide) ?_
  refine va_calli (va_runS (As := [.int (ceV L xs 0), .int 7]) (rest := [.int 1]) ⟨hx, hb, hml, hown, hts⟩ (c_L_below l (ceV L xs 0) 7 (by first | assumption | omega) (by first | assumption | omega)) (va_cwS 2 hts gL_build_L_below rfl rfl rfl (by decide +kernel) ⟨Nat.le_of_ble_eq_true rfl, Nat.le_of_ble_eq_true rfl⟩) ⟨fun a U g mk q => q, fun U hU hW => ⟨rfl, trivial⟩⟩ rfl rfl hl.1 rfl (lv_room (Nat.le_of_ble_eq_true rfl)) dL_build_16 ⟨by show _ ≤ (26 : Nat); omega, by show _ ≤ (413 : Nat); omega⟩) hS (fun q _ h => h.elim) (fun q h => h.elim) (fun r2 u t H locs ht hvm hw hB hz1 hk1 hS => ?_)
  have hP := gc_keep hP hk1
  have hw : r2 = nI ((ceV L xs 0).toBitVec.toNat % 2 ^ 31 % 7) := hw
  subst hw
  clear hw
  clear hB hz1 hk1 ht hvm
  obtain ⟨n9, hn9, en9⟩ : ∃ k : Nat, k < 7 ∧ (ceV L xs 0).toBitVec.toNat % 2 ^ 31 % 7 = k := ⟨_, Nat.mod_lt _ (by decide), rfl⟩
  rw [en9]
  refine lv_iadd hx hb dL_build_19 ?_
  refine gc_topi (y := nI (1 + n9)) (nI_add 1 n9) ?_
  refine lv_istore_n (lv' := [(3, .int (nI (1 + n9))), (2, .ref qs), (0, .ref (h 0)), (1, .ref b)]) hx hb dL_build_20 rfl hl (by decide) rfl (fun ls hl => ?_)
  refine lv_iconst (v := 0) hx hb dL_build_21 (by decide) ?_
  refine lv_istore (lv' := [(4, .int 0), (3, .int (nI (1 + n9))), (2, .ref qs), (0, .ref (h 0)), (1, .ref b)]) hx hb dL_build_22 hl (by decide) rfl (fun ls hl => ?_)
  refine gc_loop (1 + n9) (fun (i : Nat) (H : Heap) (locs : List Loc) (ls : Array Slot) => ∃ (drk : Nat → Int32) (clk : Nat → Int32) (sek : Nat → Int32) (ctk : Nat), (Inv K i 0 f1 f2 inf drk clk sek ctk) ∧ va_P (dC, dI) vwCl ((gcW h kc f1 f2 drk clk tr sek (nI i) (nI 0) inf (nI ctk) ++ ([(qs, .inr (1, [.int (nI i), .ref q1, .null, .null, .int 0]))] ++ ([(q1, qa_R kA 0 (qa_up 0 (fun _ => 0)))]))) ++ (qT 0 (fun _ => 0) (qE kI 3 (qF K)) ++ [])) H ∧ va_D A ((gcW h kc f1 f2 drk clk tr sek (nI i) (nI 0) inf (nI ctk) ++ ([(qs, .inr (1, [.int (nI i), .ref q1, .null, .null, .int 0]))] ++ ([(q1, qa_R kA 0 (qa_up 0 (fun _ => 0)))]))) ++ (qT 0 (fun _ => 0) (qE kI 3 (qF K)) ++ [])) ∧ va_S A s.heap H locs ∧ lv_has ls 5 [(4, .int (nI i)), (3, .int (nI (1 + n9))), (2, .ref qs), (0, .ref (h 0)), (1, .ref b)]) 0 (Nat.zero_le _) ⟨dr, cl, se, ct, (hI), hP, hD, hS, lv_sub hl [0, 1, 2, 3, 4] rfl⟩ ?_
  intro i H locs ls hi hI ihi
  obtain ⟨drk, clk, sek, ctk, hIk, hP, hD, hS, hl⟩ := hI
  refine lv_iload hx hb dL_build_24 (lv_at hl 0 rfl) ?_
  refine lv_iload_n hx hb dL_build_26 rfl (lv_at hl 1 rfl) ?_
  refine lv_icmp_ge (tgt := 57) hx hb dL_build_27 (by decide) (fun c_27 => ?_) (fun c_27 => ?_)
  · skip
    have hEi : i = 1 + n9 := gc_ge c_27 (by omega) (by omega)
    refine lv_iconst (v := 0) hx hb dL_build_57 (by decide) ?_
    refine lv_istore (lv' := [(4, .int 0), (3, .int (nI (1 + n9))), (2, .ref qs), (0, .ref (h 0)), (1, .ref b)]) hx hb dL_build_58 hl (by decide) rfl (fun ls hl => ?_)
    refine W.widen (k := 2) (n := 5) (by omega) (by omega) ?_
    refine gc_loopG 2 34 (12) (fun (j : Nat) (H : Heap) (locs : List Loc) (ls : Array Slot) => ∃ (Kq : Bk) (gq : Nat) (rq : Nat) (f1q : Nat → Int32) (f2q : Nat → Int32) (drq : Nat → Int32) (clq : Nat → Int32) (trq : Nat → Int32) (seq : Nat → Int32) (infq : Int32) (ctq : Nat) (ruq : Nat) (rrq : Nat → Nat), (1 ≤ gq) ∧ (Inv Kq gq rq f1q f2q infq drq clq seq ctq) ∧ va_P (dC, dI) vwCl ((gcW h kc f1q f2q drq clq trq seq (nI gq) (nI rq) infq (nI ctq) ++ ([(qs, .inr (1, [.int (nI gq), .ref ruq, .null, .null, .int 0]))] ++ ([(ruq, qa_R kA rq (qa_up rq rrq))]))) ++ (qT rq rrq (qE kI 3 (qF Kq)) ++ [])) H ∧ va_D A ((gcW h kc f1q f2q drq clq trq seq (nI gq) (nI rq) infq (nI ctq) ++ ([(qs, .inr (1, [.int (nI gq), .ref ruq, .null, .null, .int 0]))] ++ ([(ruq, qa_R kA rq (qa_up rq rrq))]))) ++ (qT rq rrq (qE kI 3 (qF Kq)) ++ [])) ∧ va_S A s.heap H locs ∧ lv_has ls 5 [(4, .int (nI j)), (3, .int (nI (1 + n9))), (2, .ref qs), (0, .ref (h 0)), (1, .ref b)]) ⟨K, i, 0, f1, f2, drk, clk, tr, sek, inf, ctk, q1, (fun _ => 0), (by omega), (hIk), hP, hD, hS, lv_sub hl [0, 1, 2, 3, 4] rfl⟩ ?_
    intro j H locs ls hj hI ihj
    obtain ⟨Kq, gq, rq, f1q, f2q, drq, clq, trq, seq, infq, ctq, ruq, rrq, hg1q, hIq, hP, hD, hS, hl⟩ := hI
    refine lv_iload hx hb dL_build_60 (lv_at hl 0 rfl) ?_
    refine lv_bipush (v := 12) hx hb dL_build_62 (by decide) ?_
    refine lv_icmp_ge (tgt := 96) hx hb dL_build_64 (by decide) (fun c_64 => ?_) (fun c_64 => ?_)
    · skip
      have hEj : j = 12 := gc_ge c_64 (by omega) (by omega)
      refine lv_aload_n hx hb dL_build_96 rfl (lv_at hl 2 rfl) ?_
      have hpost : 1 ≤ gq ∧ Inv Kq gq rq f1q f2q infq drq clq seq ctq := ⟨hg1q, hIq⟩
      refine W.widen (k := 26) (n := 413) (by omega) (by omega) ?_
      exact W.aret (v := .ref qs) hx hb hr (Or.inl ⟨_, rfl⟩) (Or.inr ⟨_, rfl⟩) (fun t ht hW => ⟨⟨(Kq, gq, rq, f1q, f2q, drq, clq, trq, seq, infq, ctq, ruq, rrq, kA, kI), qs, rfl, hpost, ⟨by rw [ht]; exact hP, va_K.moved hW.alike hK, hD⟩⟩, hS.F ht⟩) hS.2.2 dL_build_97
    · skip
      have hLj : j < 12 := gc_lt c_64 (by omega) (by omega)
      refine lv_aload_n hx hb dL_build_67 rfl (lv_at hl 3 rfl) ?_
      refine lv_aload_n hx hb dL_build_68 rfl (lv_at hl 2 rfl) ?_
      refine lv_aload_n hx hb dL_build_69 rfl (lv_at hl 4 rfl) ?_
      refine lv_iload hx hb dL_build_70 (lv_at hl 0 rfl) ?_
      have hXc : va_X b L xs s H := hX.kept (hS.2.1 b hbl hbA)
      have hbc : b < H.size := Nat.lt_of_lt_of_le hbl hS.1
      refine va_calli (va_runS (As := [.ref b, .int (nI j)]) (rest := [.ref qs, .ref (h 0)]) ⟨hx, hb, hml, hown, hts⟩ (c_L_cell l j b L xs (by first | assumption | omega) (by omega)) (va_cwS 2 hts gL_build_L_cell rfl rfl rfl (by decide +kernel) ⟨Nat.le_of_ble_eq_true rfl, Nat.le_of_ble_eq_true rfl⟩) ⟨qaPC_blind, fun U hU hW => ⟨rfl, va_X.moved hW.alike (by rw [hU]; exact hXc), by rw [hU]; exact hbc⟩⟩ rfl rfl hl.1 rfl (lv_room (Nat.le_of_ble_eq_true rfl)) dL_build_72 ⟨by show _ ≤ (26 : Nat); omega, by show _ ≤ (413 : Nat); omega⟩) hS (fun q _ h => h.elim) (fun q h => h.elim) (fun r3 u t H locs ht hvm hw hB hz1 hk1 hS => ?_)
      clear hXc hbc
      have hP := gc_keep hP hk1
      have hw : r3 = ceV L xs j := hw
      subst hw
      clear hw
      clear hB hz1 hk1 ht hvm
      refine lv_sipush (v := 229) hx hb dL_build_75 (by decide) ?_
      refine lv_iload hx hb dL_build_78 (lv_at hl 0 rfl) ?_
      refine lv_imul hx hb dL_build_80 ?_
      refine lv_iadd hx hb dL_build_81 ?_
      have hPc : va_P (dC, dI) vwCl ((gcW h kc f1q f2q drq clq trq seq (nI gq) (nI rq) infq (nI ctq) ++ ([(qs, .inr (1, [.int (nI gq), .ref ruq, .null, .null, .int 0]))] ++ ([(ruq, qa_R kA rq (qa_up rq rrq))]))) ++ (qT rq rrq (qE kI 3 (qF Kq)) ++ [])) _ := hP.part [0, 1, 2, 3, 4, 5, 6, 7, 8] rfl
      have hKc : va_K (dC, dI) vwCl (gcT kc ++ [(kA, .array .int), (kI, .int)]) s := hK.sub [0, 1, 2, 3, 4, 5, 6, 7] rfl
      have hDc : va_D A ((gcW h kc f1q f2q drq clq trq seq (nI gq) (nI rq) infq (nI ctq) ++ ([(qs, .inr (1, [.int (nI gq), .ref ruq, .null, .null, .int 0]))] ++ ([(ruq, qa_R kA rq (qa_up rq rrq))]))) ++ (qT rq rrq (qE kI 3 (qF Kq)) ++ [])) := hD.part [0, 1, 2, 3, 4, 5, 6, 7, 8] (by decide) rfl
      have hFc := va_freeP (cx := (gcW h kc f1q f2q drq clq trq seq (nI gq) (nI rq) infq (nI ctq) ++ ([(qs, .inr (1, [.int (nI gq), .ref ruq, .null, .null, .int 0]))] ++ ([(ruq, qa_R kA rq (qa_up rq rrq))])))) hD hS hA [0, 1, 2, 3, 4, 5, 6, 7, 8] rfl
      refine va_calli (va_runS (As := [.ref (h 0), .ref qs, .int (ceV L xs j + (229 * nI j))]) (rest := []) ⟨hx, hb, hml, hown, hts⟩ (c_L_act l dC dI h kc f1q f2q drq clq trq seq gq rq infq ctq qs ruq kA kI rrq Kq (ceV L xs j + (229 * nI j)) H.size (by first | assumption | omega) (by first | assumption | omega)) (va_cwS 3 hts gL_build_L_act rfl rfl rfl (by decide +kernel) ⟨Nat.le_of_ble_eq_true rfl, Nat.le_of_ble_eq_true rfl⟩) ⟨qaPM_blind, fun U hU hW => ⟨rfl, by rw [hU], by rw [hU]; exact hPc, va_K.moved hW.alike hKc, hDc.weaken (fun _ _ _ _ => trivial), va_AOA.moved hW.alike hO⟩⟩ rfl rfl hl.1 rfl (lv_room (Nat.le_of_ble_eq_true rfl)) dL_build_82 ⟨by show _ ≤ (26 : Nat); omega, by show _ ≤ (413 : Nat); omega⟩) hS (fun q _ h => hFc q h) hFc (fun r4 u t H locs ht hvm hw hB hz1 hk1 hS => ?_)
      obtain ⟨K2, g2, r2, f1z, f2z, drz, clz, trz, sez, infz, ctz, ruz, rrz⟩ := u
      obtain ⟨hP1, hD1⟩ := hB
      rw [ht] at hP1
      obtain ⟨hP, hD⟩ := va_joinP (wr := []) (rx := (gcW h kc f1z f2z drz clz trz sez (nI g2) (nI r2) infz (nI ctz) ++ ([(qs, .inr (1, [.int (nI g2), .ref ruz, .null, .null, .int 0]))] ++ ([(ruz, qa_R kA r2 (qa_up r2 rrz))])))) (pl1 := (qT r2 rrz (qE kI 3 (qF K2)) ++ [])) hP hD [0, 1, 2, 3, 4, 5, 6, 7, 8] [] rfl rfl (by decide) (by decide) hk1 hFc hP1 hD1
      have hP : va_P (dC, dI) vwCl ((gcW h kc f1z f2z drz clz trz sez (nI g2) (nI r2) infz (nI ctz) ++ ([(qs, .inr (1, [.int (nI g2), .ref ruz, .null, .null, .int 0]))] ++ ([(ruz, qa_R kA r2 (qa_up r2 rrz))]))) ++ (qT r2 rrz (qE kI 3 (qF K2)) ++ [])) H := hP.part [0, 1, 2, 3, 4, 5, 6, 7, 8] rfl
      have hD : va_D A ((gcW h kc f1z f2z drz clz trz sez (nI g2) (nI r2) infz (nI ctz) ++ ([(qs, .inr (1, [.int (nI g2), .ref ruz, .null, .null, .int 0]))] ++ ([(ruz, qa_R kA r2 (qa_up r2 rrz))]))) ++ (qT r2 rrz (qE kI 3 (qF K2)) ++ [])) := hD.part [0, 1, 2, 3, 4, 5, 6, 7, 8] (by decide) rfl
      have hw_82 : r4 = 1 ∧ 1 ≤ g2 ∧ Inv K2 g2 r2 f1z f2z infz drz clz sez ctz := hw
      clear hz1 hk1 ht hvm hP1 hD1 hFc hDc
      clear hPc hKc
      refine gc_topi (y := 1) (hw_82.1) ?_
      refine lv_if_ne (tgt := 90) hx hb dL_build_85 (by decide) (fun c_85 => ?_) (fun c_85 => ?_)
      · skip
        refine lv_iinc (v := nI (j + 1)) (lv' := [(4, .int (nI (j + 1))), (3, .int (nI (1 + n9))), (2, .ref qs), (0, .ref (h 0)), (1, .ref b)]) hx hb dL_build_90 hl (k := 0) rfl (nI_1 j) (by decide) rfl (fun ls hl => ?_)
        refine lv_goto (tgt := 60) hx hb dL_build_93 (by decide) ?_
        refine W.widen (k := 2 + 2 * (j + 1)) (n := 5 + 34 * (j + 1)) (by omega) (by omega) ?_
        exact ihj H _ ls (by omega) ⟨K2, g2, r2, f1z, f2z, drz, clz, trz, sez, infz, ctz, ruz, rrz, (hw_82.2.1), (hw_82.2.2), hP, hD, hS, lv_sub hl [0, 1, 2, 3, 4] rfl⟩
      · skip
        exact absurd c_85 (by decide)
  · skip
    have hLi : i < 1 + n9 := gc_lt c_27 (by omega) (by omega)
    refine lv_aload_n hx hb dL_build_30 rfl (lv_at hl 3 rfl) ?_
    have hPc : va_P (dC, dI) vwCl (gcW h kc f1 f2 drk clk tr sek (nI i) (nI 0) inf (nI ctk)) _ := hP.sub [0, 1, 2, 3, 4, 5, 6] rfl
    have hKc : va_K (dC, dI) vwCl (gcT kc) s := hK.sub [0, 1, 2, 3, 4, 5] rfl
    have hDc : va_D A (gcW h kc f1 f2 drk clk tr sek (nI i) (nI 0) inf (nI ctk)) := hD.sub [0, 1, 2, 3, 4, 5, 6] (by decide) rfl
    have hFc := va_free (wc := (gcW h kc f1 f2 drk clk tr sek (nI i) (nI 0) inf (nI ctk))) hD hS hA [0, 1, 2, 3, 4, 5, 6] rfl
    refine va_calli (va_runV (As := []) (rest := []) ⟨hx, hb, hml, hown, hts⟩ (c_X0_invite l dC dI h kc f1 f2 drk clk tr sek i 0 inf ctk H.size (by first | assumption | omega) (by first | assumption | omega)) (cwV 0 hts gL_build_X0_invite rfl rfl rfl (by decide +kernel) ⟨Nat.le_of_ble_eq_true rfl, Nat.le_of_ble_eq_true rfl⟩) ⟨gcPM_blind, va_recv hK hP (ci := 0) (q0 := 0) rfl rfl, fun U hU hW => ⟨rfl, by rw [hU], by rw [hU]; exact hPc, va_K.moved hW.alike hKc, hDc.weaken (fun _ _ _ _ => trivial)⟩⟩ rfl rfl hl.1 rfl (lv_room (Nat.le_of_ble_eq_true rfl)) dL_build_31 ⟨by show _ ≤ (26 : Nat); omega, by show _ ≤ (413 : Nat); omega⟩) hS (fun q _ h => hFc q h) hFc (fun r5 u t H locs ht hvm hw hB hz1 hk1 hS => ?_)
    obtain ⟨hP1, hD1⟩ := hB
    rw [ht] at hP1
    obtain ⟨hP, hD⟩ := va_joinQ (wr := [(qs, .inr (1, [.int (nI i), .ref q1, .null, .null, .int 0])), (q1, qa_R kA 0 (qa_up 0 (fun _ => 0)))]) (w1 := (gcW h kc f1 f2 (gLA f1 f2 inf (-1) 0 drk) (gCl (gLA f1 f2 inf (-1) 0 clk) 20) tr ((gLs (gCl (gLA f1 f2 inf (-1) 0 clk) 20) sek (i + 1) (i + 1)).1) (nI (i + 1)) (nI 0) inf (nI (gLs (gCl (gLA f1 f2 inf (-1) 0 clk) 20) sek (i + 1) (i + 1)).2))) hP hD [0, 1, 2, 3, 4, 5, 6] [7, 8] rfl rfl (by decide) (by decide) hk1 hFc hP1 hD1
    have hP : va_P (dC, dI) vwCl ((gcW h kc f1 f2 (gLA f1 f2 inf (-1) 0 drk) (gCl (gLA f1 f2 inf (-1) 0 clk) 20) tr ((gLs (gCl (gLA f1 f2 inf (-1) 0 clk) 20) sek (i + 1) (i + 1)).1) (nI (i + 1)) (nI 0) inf (nI (gLs (gCl (gLA f1 f2 inf (-1) 0 clk) 20) sek (i + 1) (i + 1)).2) ++ ([(qs, .inr (1, [.int (nI i), .ref q1, .null, .null, .int 0]))] ++ ([(q1, qa_R kA 0 (qa_up 0 (fun _ => 0)))]))) ++ (qT 0 (fun _ => 0) (qE kI 3 (qF K)) ++ [])) H := hP.part [2, 3, 4, 5, 6, 7, 8, 0, 1] rfl
    have hD : va_D A ((gcW h kc f1 f2 (gLA f1 f2 inf (-1) 0 drk) (gCl (gLA f1 f2 inf (-1) 0 clk) 20) tr ((gLs (gCl (gLA f1 f2 inf (-1) 0 clk) 20) sek (i + 1) (i + 1)).1) (nI (i + 1)) (nI 0) inf (nI (gLs (gCl (gLA f1 f2 inf (-1) 0 clk) 20) sek (i + 1) (i + 1)).2) ++ ([(qs, .inr (1, [.int (nI i), .ref q1, .null, .null, .int 0]))] ++ ([(q1, qa_R kA 0 (qa_up 0 (fun _ => 0)))]))) ++ (qT 0 (fun _ => 0) (qE kI 3 (qF K)) ++ [])) := hD.part [2, 3, 4, 5, 6, 7, 8, 0, 1] (by decide) rfl
    have hw : r5 = nI i := hw
    subst hw
    clear hw
    clear hz1 hk1 ht hvm hP1 hD1 hFc hDc
    clear hPc hKc
    refine lv_iload hx hb dL_build_34 (lv_at hl 0 rfl) ?_
    refine lv_icmp_eq (tgt := 41) hx hb dL_build_36 (by decide) (fun _ => ?_) (fun h => absurd rfl h)
    refine lv_aload_n hx hb dL_build_41 rfl (lv_at hl 2 rfl) ?_
    refine lv_dup hx hb dL_build_42 rfl ?_
    refine va_get (D := (dC, dI)) (ci := 1) (v := .int (nI i)) (C := RX1) (T := TX1) (N := 5) hx hb hts hin1 hown hK hP 7 rfl rfl 0 (by decide) (hts (.fieldLink RL 9 "GuestChairsLaw$Sim" "guests" "I") (by decide +kernel)) (fun _ h9 => h9) rfl dL_build_43 ?_
    refine lv_iconst (v := 1) hx hb dL_build_46 (by decide) ?_
    refine lv_iadd hx hb dL_build_47 ?_
    refine gc_topi (y := nI (i + 1)) (nI_1 i) ?_
    refine va_put (D := (dC, dI)) (ci := 1) (v := .int (nI (i + 1))) (ty := .int) (C := RX1) (T := TX1) (N := 5) hx hb hts hin1 tyX1 tyX1_ok nmX1 hown hK hP hD hS 7 rfl rfl 0 (by decide) (hts (.fieldLink RL 9 "GuestChairsLaw$Sim" "guests" "I") (by decide +kernel)) (fun _ h9 => h9) rfl (by decide +kernel) rfl rfl (Nat.le_of_ble_eq_true rfl) dL_build_48 (fun H locs hP hD hS => ?_)
    have hP : va_P (dC, dI) vwCl ((gcW h kc f1 f2 (gLA f1 f2 inf (-1) 0 drk) (gCl (gLA f1 f2 inf (-1) 0 clk) 20) tr ((gLs (gCl (gLA f1 f2 inf (-1) 0 clk) 20) sek (i + 1) (i + 1)).1) (nI (i + 1)) (nI 0) inf (nI (gLs (gCl (gLA f1 f2 inf (-1) 0 clk) 20) sek (i + 1) (i + 1)).2) ++ ([(qs, .inr (1, [.int (nI (i + 1)), .ref q1, .null, .null, .int 0]))] ++ ([(q1, qa_R kA 0 (qa_up 0 (fun _ => 0)))]))) ++ (qT 0 (fun _ => 0) (qE kI 3 (qF K)) ++ [])) H := hP
    have hD : va_D A ((gcW h kc f1 f2 (gLA f1 f2 inf (-1) 0 drk) (gCl (gLA f1 f2 inf (-1) 0 clk) 20) tr ((gLs (gCl (gLA f1 f2 inf (-1) 0 clk) 20) sek (i + 1) (i + 1)).1) (nI (i + 1)) (nI 0) inf (nI (gLs (gCl (gLA f1 f2 inf (-1) 0 clk) 20) sek (i + 1) (i + 1)).2) ++ ([(qs, .inr (1, [.int (nI (i + 1)), .ref q1, .null, .null, .int 0]))] ++ ([(q1, qa_R kA 0 (qa_up 0 (fun _ => 0)))]))) ++ (qT 0 (fun _ => 0) (qE kI 3 (qF K)) ++ [])) := hD
    refine lv_iinc (v := nI (i + 1)) (lv' := [(4, .int (nI (i + 1))), (3, .int (nI (1 + n9))), (2, .ref qs), (0, .ref (h 0)), (1, .ref b)]) hx hb dL_build_51 hl (k := 0) rfl (nI_1 i) (by decide) rfl (fun ls hl => ?_)
    refine lv_goto (tgt := 24) hx hb dL_build_54 (by decide) ?_
    exact ihi H _ ls (by omega) ⟨(gLA f1 f2 inf (-1) 0 drk), (gCl (gLA f1 f2 inf (-1) 0 clk) 20), ((gLs (gCl (gLA f1 f2 inf (-1) 0 clk) 20) sek (i + 1) (i + 1)).1), ((gLs (gCl (gLA f1 f2 inf (-1) 0 clk) 20) sek (i + 1) (i + 1)).2), (Inv_invite hIk (by omega)), hP, hD, hS, lv_sub hl [0, 1, 2, 3, 4] rfl⟩
