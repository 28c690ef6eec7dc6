/-! THE LAW'S HELPERS: a call of the book, its answer put into out[0], or the number of what it threw. -/
def gL (b : Bool) : Int64 := if b then 1 else 0
theorem gc_in01 : vp_in (0 : Int32) 1 := vp_in_nI (n := 0) (N := 1) (by decide) (by decide)

theorem gStp_ex (dr : Nat → Int32) (g wa wb : Nat) : ∃ x : Int32, x = gFst (gSp dr g wa wb) 20 := ⟨_, rfl⟩
noncomputable def gStp (dr : Nat → Int32) (g wa wb : Nat) : Int32 := Classical.choose (gStp_ex dr g wa wb)
theorem gStp_eq (dr : Nat → Int32) (g wa wb : Nat) : gStp dr g wa wb = gFst (gSp dr g wa wb) 20 := Classical.choose_spec (gStp_ex dr g wa wb)
theorem c_X0_stepsB (l : Launch) (dC : Nat → ClassId) (dI : Nat → Nat → Nat) (h : Nat → Nat) (kc : Nat → ClassId) (f1 : Nat → Int32) (f2 : Nat → Int32) (dr : Nat → Int32) (cl : Nat → Int32) (tr : Nat → Int32) (se : Nat → Int32) (g : Nat) (r : Nat) (inf : Int32) (ct : Nat) (wa : Nat) (wb : Nat) (hg : g ≤ 10) (ha : wa < 2 * g) (hb2 : wb < 2 * g) : Met l yX0_steps wsX0_steps ({ frames := 2, cells := 0, slots := 0, locals := 44 }) (gcPR (dC, dI) [.ref (h 0), .int (nI wa), .int (nI wb)] (gcW h kc f1 f2 dr cl tr se (nI g) (nI r) inf (nI ct)) (gcT kc)) (va_Qi (fun (rv : Int32) (_u : Unit) => rv = gStp dr g wa wb) (fun _ _ => True) (fun _ => False)) 0 0 (fun _ => False) := by
  rw [gStp_eq]
  exact c_X0_steps l dC dI h kc f1 f2 dr cl tr se g r inf ct wa wb hg ha hb2
set_option maxHeartbeats 4000000 in
set_option maxRecDepth 100000 in
theorem w_invite (l : Launch) (dC : Nat → ClassId) (dI : Nat → Nat → Nat) (h : Nat → Nat) (kc : Nat → ClassId) (f1 : Nat → Int32) (f2 : Nat → Int32) (dr : Nat → Int32) (cl : Nat → Int32) (tr : Nat → Int32) (se : Nat → Int32) (g : Nat) (r : Nat) (inf : Int32) (ct : Nat) (oa : Nat) (ok : ClassId) (ou : Nat → Int64) (sz : Nat) (hr30 : r ≤ 30) (hg9 : g < 10) : Met l yL_invite wsL_invite ({ frames := 7, cells := 0, slots := 0, locals := 148 }) (gcPM (dC, dI) [.ref (h 0), .ref oa] (gcW h kc f1 f2 dr cl tr se (nI g) (nI r) inf (nI ct) ++ ([(oa, .inl (ok, 1, .inr (.inl ou)))])) (gcT kc ++ ([(ok, .long)])) sz) (va_Qi (fun (rv : Int32) (_u : Unit) => rv = 0) (fun _u t9 => va_P (dC, dI) vwCl (gcW h kc f1 f2 (gLA f1 f2 inf (-1) r dr) (gCl (gLA f1 f2 inf (-1) r cl) 20) tr ((gLs (gCl (gLA f1 f2 inf (-1) r cl) 20) se (g + 1) (g + 1)).1) (nI (g + 1)) (nI r) inf (nI (gLs (gCl (gLA f1 f2 inf (-1) r cl) 20) se (g + 1) (g + 1)).2) ++ ([(oa, .inl (ok, 1, .inr (.inl (vp_updL ou 0 ((nI g).toInt64)))))])) t9.heap ∧ va_D (va_A (gcW h kc f1 f2 dr cl tr se (nI g) (nI r) inf (nI ct) ++ ([(oa, .inl (ok, 1, .inr (.inl ou)))])) sz) (gcW h kc f1 f2 (gLA f1 f2 inf (-1) r dr) (gCl (gLA f1 f2 inf (-1) r cl) 20) tr ((gLs (gCl (gLA f1 f2 inf (-1) r cl) 20) se (g + 1) (g + 1)).1) (nI (g + 1)) (nI r) inf (nI (gLs (gCl (gLA f1 f2 inf (-1) r cl) 20) se (g + 1) (g + 1)).2) ++ ([(oa, .inl (ok, 1, .inr (.inl (vp_updL ou 0 ((nI g).toInt64)))))]))) (va_A (gcW h kc f1 f2 dr cl tr se (nI g) (nI r) inf (nI ct) ++ ([(oa, .inl (ok, 1, .inr (.inl ou)))])) sz)) 0 0 (va_A (gcW h kc f1 f2 dr cl tr se (nI g) (nI r) inf (nI ct) ++ ([(oa, .inl (ok, 1, .inr (.inl ou)))])) sz) := by
  refine va_MetW (cc := cL_invite) (maxL := 3) (ret := (some .int)) (by decide) rfl ?_
  intro p e s m args below meth c s₁ B hml hv
  obtain ⟨rfl, hsz, hP, hK, hD0⟩ := hv
  have hx := B.exec
  have hb := B.bytes
  have hr := B.returns
  have hts := atoms_spec (ws := wsL_invite) B.pre
  have hown : s.vm.findClass RL = some m.cls := findClass_of_methodNamed B.named
  have hlocks := B.notSynchronized
  subst hsz
  have hD := hD0.self (sz := s.heap.size)
  generalize hAe : va_A (gcW h kc f1 f2 dr cl tr se (nI g) (nI r) inf (nI ct) ++ ([(oa, .inl (ok, 1, .inr (.inl ou)))])) s.heap.size = A at hD ⊢
  have hA : ∀ q : Nat, s.heap.size ≤ q → A q := fun q h => by rw [← hAe]; exact Or.inr h
  have hS : va_S A s.heap s.heap [] := va_S.rf
  have hP : va_P (dC, dI) vwCl (gcW h kc f1 f2 dr cl tr se (nI g) (nI r) inf (nI ct) ++ ([(oa, .inl (ok, 1, .inr (.inl ou)))])) s.heap := hP
  have hin0 : ∀ w ∈ wsX00, w ∈ wsL_invite := by decide +kernel
  have hl := lv_entry [.ref (h 0), .ref oa] (n := 3) (Nat.le_of_ble_eq_true rfl)
  rw [lg_entry_eq]
  generalize (lg_sl [.ref (h 0), .ref oa] ++ List.replicate (3 - (lg_sl [.ref (h 0), .ref oa]).length) Slot.unset).toArray = ls at hl ⊢
  have hl : lv_has ls 3 [(0, .ref (h 0)), (1, .ref oa)] := hl
  refine lv_aload_n hx hb dL_invite_0 rfl (lv_at hl 1 rfl) ?_
  refine lv_iconst (v := 0) hx hb dL_invite_1 (by decide) ?_
  refine lv_aload_n hx hb dL_invite_2 rfl (lv_at hl 0 rfl) ?_
  have hPc : va_P (dC, dI) vwCl (gcW h kc f1 f2 dr cl tr se (nI g) (nI r) inf (nI ct)) _ := hP.sub [0, 1, 2, 3, 4, 5, 6] rfl
  have hKc : va_K (dC, dI) vwCl (gcT kc) s := hK.sub [0, 1, 2, 3, 4, 5] rfl
  have hDc : va_D A (gcW h kc f1 f2 dr cl tr se (nI g) (nI r) inf (nI ct)) := hD.sub [0, 1, 2, 3, 4, 5, 6] (by decide) rfl
  have hFc := va_free (wc := (gcW h kc f1 f2 dr cl tr se (nI g) (nI r) inf (nI ct))) hD hS hA [0, 1, 2, 3, 4, 5, 6] rfl
  refine va_calli (va_runV (As := []) (rest := [.int 0, .ref oa]) ⟨hx, hb, hml, hown, hts⟩ (c_X0_invite l dC dI h kc f1 f2 dr cl tr se g r inf ct s.heap.size (by first | assumption | omega) (by first | assumption | omega)) (cwV 0 hts gL_invite_X0_invite rfl rfl rfl (by decide +kernel) ⟨Nat.le_of_ble_eq_true rfl, Nat.le_of_ble_eq_true rfl⟩) ⟨gcPM_blind, va_recv hK hP (ci := 0) (q0 := 0) rfl rfl, fun U hU hW => ⟨rfl, by rw [hU], by rw [hU]; exact hPc, va_K.moved hW.alike hKc, hDc.weaken (fun _ _ _ _ => trivial)⟩⟩ rfl rfl hl.1 rfl (lv_room (Nat.le_of_ble_eq_true rfl)) dL_invite_3 ⟨Nat.zero_le _, Nat.zero_le _⟩) hS (fun q _ h => hFc q h) hFc (fun r1 u t H locs ht hvm hw hB hz1 hk1 hS => ?_)
  obtain ⟨hP1, hD1⟩ := hB
  rw [ht] at hP1
  obtain ⟨hP, hD⟩ := va_join (wr := [(oa, .inl (ok, 1, .inr (.inl ou)))]) (w1 := (gcW h kc f1 f2 (gLA f1 f2 inf (-1) r dr) (gCl (gLA f1 f2 inf (-1) r cl) 20) tr ((gLs (gCl (gLA f1 f2 inf (-1) r cl) 20) se (g + 1) (g + 1)).1) (nI (g + 1)) (nI r) inf (nI (gLs (gCl (gLA f1 f2 inf (-1) r cl) 20) se (g + 1) (g + 1)).2))) hP hD [0, 1, 2, 3, 4, 5, 6] [7] rfl rfl (by decide) (by decide) hk1 hFc hP1 hD1
  have hP : va_P (dC, dI) vwCl (gcW h kc f1 f2 (gLA f1 f2 inf (-1) r dr) (gCl (gLA f1 f2 inf (-1) r cl) 20) tr ((gLs (gCl (gLA f1 f2 inf (-1) r cl) 20) se (g + 1) (g + 1)).1) (nI (g + 1)) (nI r) inf (nI (gLs (gCl (gLA f1 f2 inf (-1) r cl) 20) se (g + 1) (g + 1)).2) ++ ([(oa, .inl (ok, 1, .inr (.inl ou)))])) H := hP.sub [1, 2, 3, 4, 5, 6, 7, 0] rfl
  have hD : va_D A (gcW h kc f1 f2 (gLA f1 f2 inf (-1) r dr) (gCl (gLA f1 f2 inf (-1) r cl) 20) tr ((gLs (gCl (gLA f1 f2 inf (-1) r cl) 20) se (g + 1) (g + 1)).1) (nI (g + 1)) (nI r) inf (nI (gLs (gCl (gLA f1 f2 inf (-1) r cl) 20) se (g + 1) (g + 1)).2) ++ ([(oa, .inl (ok, 1, .inr (.inl ou)))])) := hD.sub [1, 2, 3, 4, 5, 6, 7, 0] (by decide) rfl
  have hw : r1 = nI g := hw
  subst hw
  clear hw
  clear hz1 hk1 ht hvm hP1 hD1 hFc hDc
  clear hPc hKc
  refine lv_i2l hx hb dL_invite_6 rfl ?_
  refine va_last hx hb hK hP hD hS 7 6 rfl rfl gc_in01 dL_invite_7 (fun H locs hP hD hS => ?_)
  rw [sb_cl0] at hP hD
  have hP : va_P (dC, dI) vwCl (gcW h kc f1 f2 (gLA f1 f2 inf (-1) r dr) (gCl (gLA f1 f2 inf (-1) r cl) 20) tr ((gLs (gCl (gLA f1 f2 inf (-1) r cl) 20) se (g + 1) (g + 1)).1) (nI (g + 1)) (nI r) inf (nI (gLs (gCl (gLA f1 f2 inf (-1) r cl) 20) se (g + 1) (g + 1)).2) ++ ([(oa, .inl (ok, 1, .inr (.inl (vp_updL ou 0 ((nI g).toInt64)))))])) H := hP
  have hD : va_D A (gcW h kc f1 f2 (gLA f1 f2 inf (-1) r dr) (gCl (gLA f1 f2 inf (-1) r cl) 20) tr ((gLs (gCl (gLA f1 f2 inf (-1) r cl) 20) se (g + 1) (g + 1)).1) (nI (g + 1)) (nI r) inf (nI (gLs (gCl (gLA f1 f2 inf (-1) r cl) 20) se (g + 1) (g + 1)).2) ++ ([(oa, .inl (ok, 1, .inr (.inl (vp_updL ou 0 ((nI g).toInt64)))))])) := hD
  refine lv_goto (tgt := 14) hx hb dL_invite_8 (by decide) ?_
  refine lv_iconst (v := 0) hx hb dL_invite_14 (by decide) ?_
  have hpost : (0 : Int32) = 0 := by rfl
  exact W.iret (v := 0) hx hb hr (fun t ht hW => ⟨⟨0, (), rfl, hpost, ⟨by rw [ht]; exact hP, hD⟩⟩, hS.F ht⟩) hS.2.2 dL_invite_15
set_option maxHeartbeats 4000000 in
set_option maxRecDepth 100000 in
theorem w_rule (l : Launch) (dC : Nat → ClassId) (dI : Nat → Nat → Nat) (h : Nat → Nat) (kc : Nat → ClassId) (f1 : Nat → Int32) (f2 : Nat → Int32) (dr : Nat → Int32) (cl : Nat → Int32) (tr : Nat → Int32) (se : Nat → Int32) (g : Nat) (r : Nat) (inf : Int32) (ct : Nat) (oa : Nat) (ok : ClassId) (ou : Nat → Int64) (wa : Nat) (wb : Nat) (sz : Nat) (hg : g ≤ 10) (hr9 : r < 30) (ha : wa < 2 * g) (hb2 : wb < 2 * g) (hne : ¬ wa = wb) : Met l yL_rule wsL_rule ({ frames := 7, cells := 0, slots := 0, locals := 150 }) (gcPM (dC, dI) [.ref (h 0), .int (nI wa), .int (nI wb), .ref oa] (gcW h kc f1 f2 dr cl tr se (nI g) (nI r) inf (nI ct) ++ ([(oa, .inl (ok, 1, .inr (.inl ou)))])) (gcT kc ++ ([(ok, .long)])) sz) (va_Qi (fun (rv : Int32) (_u : Unit) => rv = 0) (fun _u t9 => va_P (dC, dI) vwCl (gcW h kc (gPut 30 f1 (nI r) (nI wa)) (gPut 30 f2 (nI r) (nI wb)) (gLA (gPut 30 f1 (nI r) (nI wa)) (gPut 30 f2 (nI r) (nI wb)) (inf ||| ((1 : Int32) <<< (nI r &&& 31))) (-1) (r + 1) dr) (gCl (gLA (gPut 30 f1 (nI r) (nI wa)) (gPut 30 f2 (nI r) (nI wb)) (inf ||| ((1 : Int32) <<< (nI r &&& 31))) (-1) (r + 1) cl) 20) tr ((gLs (gCl (gLA (gPut 30 f1 (nI r) (nI wa)) (gPut 30 f2 (nI r) (nI wb)) (inf ||| ((1 : Int32) <<< (nI r &&& 31))) (-1) (r + 1) cl) 20) se g g).1) (nI g) (nI (r + 1)) (inf ||| ((1 : Int32) <<< (nI r &&& 31))) (nI (gLs (gCl (gLA (gPut 30 f1 (nI r) (nI wa)) (gPut 30 f2 (nI r) (nI wb)) (inf ||| ((1 : Int32) <<< (nI r &&& 31))) (-1) (r + 1) cl) 20) se g g).2) ++ ([(oa, .inl (ok, 1, .inr (.inl (vp_updL ou 0 ((nI r).toInt64)))))])) t9.heap ∧ va_D (va_A (gcW h kc f1 f2 dr cl tr se (nI g) (nI r) inf (nI ct) ++ ([(oa, .inl (ok, 1, .inr (.inl ou)))])) sz) (gcW h kc (gPut 30 f1 (nI r) (nI wa)) (gPut 30 f2 (nI r) (nI wb)) (gLA (gPut 30 f1 (nI r) (nI wa)) (gPut 30 f2 (nI r) (nI wb)) (inf ||| ((1 : Int32) <<< (nI r &&& 31))) (-1) (r + 1) dr) (gCl (gLA (gPut 30 f1 (nI r) (nI wa)) (gPut 30 f2 (nI r) (nI wb)) (inf ||| ((1 : Int32) <<< (nI r &&& 31))) (-1) (r + 1) cl) 20) tr ((gLs (gCl (gLA (gPut 30 f1 (nI r) (nI wa)) (gPut 30 f2 (nI r) (nI wb)) (inf ||| ((1 : Int32) <<< (nI r &&& 31))) (-1) (r + 1) cl) 20) se g g).1) (nI g) (nI (r + 1)) (inf ||| ((1 : Int32) <<< (nI r &&& 31))) (nI (gLs (gCl (gLA (gPut 30 f1 (nI r) (nI wa)) (gPut 30 f2 (nI r) (nI wb)) (inf ||| ((1 : Int32) <<< (nI r &&& 31))) (-1) (r + 1) cl) 20) se g g).2) ++ ([(oa, .inl (ok, 1, .inr (.inl (vp_updL ou 0 ((nI r).toInt64)))))]))) (va_A (gcW h kc f1 f2 dr cl tr se (nI g) (nI r) inf (nI ct) ++ ([(oa, .inl (ok, 1, .inr (.inl ou)))])) sz)) 0 0 (va_A (gcW h kc f1 f2 dr cl tr se (nI g) (nI r) inf (nI ct) ++ ([(oa, .inl (ok, 1, .inr (.inl ou)))])) sz) := by
  refine va_MetW (cc := cL_rule) (maxL := 5) (ret := (some .int)) (by decide) rfl ?_
  intro p e s m args below meth c s₁ B hml hv
  obtain ⟨rfl, hsz, hP, hK, hD0⟩ := hv
  have hx := B.exec
  have hb := B.bytes
  have hr := B.returns
  have hts := atoms_spec (ws := wsL_rule) B.pre
  have hown : s.vm.findClass RL = some m.cls := findClass_of_methodNamed B.named
  have hlocks := B.notSynchronized
  subst hsz
  have hD := hD0.self (sz := s.heap.size)
  generalize hAe : va_A (gcW h kc f1 f2 dr cl tr se (nI g) (nI r) inf (nI ct) ++ ([(oa, .inl (ok, 1, .inr (.inl ou)))])) s.heap.size = A at hD ⊢
  have hA : ∀ q : Nat, s.heap.size ≤ q → A q := fun q h => by rw [← hAe]; exact Or.inr h
  have hS : va_S A s.heap s.heap [] := va_S.rf
  have hP : va_P (dC, dI) vwCl (gcW h kc f1 f2 dr cl tr se (nI g) (nI r) inf (nI ct) ++ ([(oa, .inl (ok, 1, .inr (.inl ou)))])) s.heap := hP
  have hin0 : ∀ w ∈ wsX00, w ∈ wsL_rule := by decide +kernel
  have hl := lv_entry [.ref (h 0), .int (nI wa), .int (nI wb), .ref oa] (n := 5) (Nat.le_of_ble_eq_true rfl)
  rw [lg_entry_eq]
  generalize (lg_sl [.ref (h 0), .int (nI wa), .int (nI wb), .ref oa] ++ List.replicate (5 - (lg_sl [.ref (h 0), .int (nI wa), .int (nI wb), .ref oa]).length) Slot.unset).toArray = ls at hl ⊢
  have hl : lv_has ls 5 [(0, .ref (h 0)), (1, .int (nI wa)), (2, .int (nI wb)), (3, .ref oa)] := hl
  refine lv_aload_n hx hb dL_rule_0 rfl (lv_at hl 3 rfl) ?_
  refine lv_iconst (v := 0) hx hb dL_rule_1 (by decide) ?_
  refine lv_aload_n hx hb dL_rule_2 rfl (lv_at hl 0 rfl) ?_
  refine lv_iload_n hx hb dL_rule_3 rfl (lv_at hl 1 rfl) ?_
  refine lv_iload_n hx hb dL_rule_4 rfl (lv_at hl 2 rfl) ?_
  have hPc : va_P (dC, dI) vwCl (gcW h kc f1 f2 dr cl tr se (nI g) (nI r) inf (nI ct)) _ := hP.sub [0, 1, 2, 3, 4, 5, 6] rfl
  have hKc : va_K (dC, dI) vwCl (gcT kc) s := hK.sub [0, 1, 2, 3, 4, 5] rfl
  have hDc : va_D A (gcW h kc f1 f2 dr cl tr se (nI g) (nI r) inf (nI ct)) := hD.sub [0, 1, 2, 3, 4, 5, 6] (by decide) rfl
  have hFc := va_free (wc := (gcW h kc f1 f2 dr cl tr se (nI g) (nI r) inf (nI ct))) hD hS hA [0, 1, 2, 3, 4, 5, 6] rfl
  refine va_calli (va_runV (As := [.int (nI wa), .int (nI wb)]) (rest := [.int 0, .ref oa]) ⟨hx, hb, hml, hown, hts⟩ (c_X0_rule l dC dI h kc f1 f2 dr cl tr se g r inf ct wa wb s.heap.size (by first | assumption | omega) (by first | assumption | omega) (by first | assumption | omega) (by first | assumption | omega) (by first | assumption | omega)) (cwV 2 hts gL_rule_X0_rule rfl rfl rfl (by decide +kernel) ⟨Nat.le_of_ble_eq_true rfl, Nat.le_of_ble_eq_true rfl⟩) ⟨gcPM_blind, va_recv hK hP (ci := 0) (q0 := 0) rfl rfl, fun U hU hW => ⟨rfl, by rw [hU], by rw [hU]; exact hPc, va_K.moved hW.alike hKc, hDc.weaken (fun _ _ _ _ => trivial)⟩⟩ rfl rfl hl.1 rfl (lv_room (Nat.le_of_ble_eq_true rfl)) dL_rule_5 ⟨Nat.zero_le _, Nat.zero_le _⟩) hS (fun q _ h => hFc q h) hFc (fun r1 u t H locs ht hvm hw hB hz1 hk1 hS => ?_)
  obtain ⟨hP1, hD1⟩ := hB
  rw [ht] at hP1
  obtain ⟨hP, hD⟩ := va_join (wr := [(oa, .inl (ok, 1, .inr (.inl ou)))]) (w1 := (gcW h kc (gPut 30 f1 (nI r) (nI wa)) (gPut 30 f2 (nI r) (nI wb)) (gLA (gPut 30 f1 (nI r) (nI wa)) (gPut 30 f2 (nI r) (nI wb)) (inf ||| ((1 : Int32) <<< (nI r &&& 31))) (-1) (r + 1) dr) (gCl (gLA (gPut 30 f1 (nI r) (nI wa)) (gPut 30 f2 (nI r) (nI wb)) (inf ||| ((1 : Int32) <<< (nI r &&& 31))) (-1) (r + 1) cl) 20) tr ((gLs (gCl (gLA (gPut 30 f1 (nI r) (nI wa)) (gPut 30 f2 (nI r) (nI wb)) (inf ||| ((1 : Int32) <<< (nI r &&& 31))) (-1) (r + 1) cl) 20) se g g).1) (nI g) (nI (r + 1)) (inf ||| ((1 : Int32) <<< (nI r &&& 31))) (nI (gLs (gCl (gLA (gPut 30 f1 (nI r) (nI wa)) (gPut 30 f2 (nI r) (nI wb)) (inf ||| ((1 : Int32) <<< (nI r &&& 31))) (-1) (r + 1) cl) 20) se g g).2))) hP hD [0, 1, 2, 3, 4, 5, 6] [7] rfl rfl (by decide) (by decide) hk1 hFc hP1 hD1
  have hP : va_P (dC, dI) vwCl (gcW h kc (gPut 30 f1 (nI r) (nI wa)) (gPut 30 f2 (nI r) (nI wb)) (gLA (gPut 30 f1 (nI r) (nI wa)) (gPut 30 f2 (nI r) (nI wb)) (inf ||| ((1 : Int32) <<< (nI r &&& 31))) (-1) (r + 1) dr) (gCl (gLA (gPut 30 f1 (nI r) (nI wa)) (gPut 30 f2 (nI r) (nI wb)) (inf ||| ((1 : Int32) <<< (nI r &&& 31))) (-1) (r + 1) cl) 20) tr ((gLs (gCl (gLA (gPut 30 f1 (nI r) (nI wa)) (gPut 30 f2 (nI r) (nI wb)) (inf ||| ((1 : Int32) <<< (nI r &&& 31))) (-1) (r + 1) cl) 20) se g g).1) (nI g) (nI (r + 1)) (inf ||| ((1 : Int32) <<< (nI r &&& 31))) (nI (gLs (gCl (gLA (gPut 30 f1 (nI r) (nI wa)) (gPut 30 f2 (nI r) (nI wb)) (inf ||| ((1 : Int32) <<< (nI r &&& 31))) (-1) (r + 1) cl) 20) se g g).2) ++ ([(oa, .inl (ok, 1, .inr (.inl ou)))])) H := hP.sub [1, 2, 3, 4, 5, 6, 7, 0] rfl
  have hD : va_D A (gcW h kc (gPut 30 f1 (nI r) (nI wa)) (gPut 30 f2 (nI r) (nI wb)) (gLA (gPut 30 f1 (nI r) (nI wa)) (gPut 30 f2 (nI r) (nI wb)) (inf ||| ((1 : Int32) <<< (nI r &&& 31))) (-1) (r + 1) dr) (gCl (gLA (gPut 30 f1 (nI r) (nI wa)) (gPut 30 f2 (nI r) (nI wb)) (inf ||| ((1 : Int32) <<< (nI r &&& 31))) (-1) (r + 1) cl) 20) tr ((gLs (gCl (gLA (gPut 30 f1 (nI r) (nI wa)) (gPut 30 f2 (nI r) (nI wb)) (inf ||| ((1 : Int32) <<< (nI r &&& 31))) (-1) (r + 1) cl) 20) se g g).1) (nI g) (nI (r + 1)) (inf ||| ((1 : Int32) <<< (nI r &&& 31))) (nI (gLs (gCl (gLA (gPut 30 f1 (nI r) (nI wa)) (gPut 30 f2 (nI r) (nI wb)) (inf ||| ((1 : Int32) <<< (nI r &&& 31))) (-1) (r + 1) cl) 20) se g g).2) ++ ([(oa, .inl (ok, 1, .inr (.inl ou)))])) := hD.sub [1, 2, 3, 4, 5, 6, 7, 0] (by decide) rfl
  have hw : r1 = nI r := hw
  subst hw
  clear hw
  clear hz1 hk1 ht hvm hP1 hD1 hFc hDc
  clear hPc hKc
  refine lv_i2l hx hb dL_rule_8 rfl ?_
  refine va_last hx hb hK hP hD hS 7 6 rfl rfl gc_in01 dL_rule_9 (fun H locs hP hD hS => ?_)
  rw [sb_cl0] at hP hD
  have hP : va_P (dC, dI) vwCl (gcW h kc (gPut 30 f1 (nI r) (nI wa)) (gPut 30 f2 (nI r) (nI wb)) (gLA (gPut 30 f1 (nI r) (nI wa)) (gPut 30 f2 (nI r) (nI wb)) (inf ||| ((1 : Int32) <<< (nI r &&& 31))) (-1) (r + 1) dr) (gCl (gLA (gPut 30 f1 (nI r) (nI wa)) (gPut 30 f2 (nI r) (nI wb)) (inf ||| ((1 : Int32) <<< (nI r &&& 31))) (-1) (r + 1) cl) 20) tr ((gLs (gCl (gLA (gPut 30 f1 (nI r) (nI wa)) (gPut 30 f2 (nI r) (nI wb)) (inf ||| ((1 : Int32) <<< (nI r &&& 31))) (-1) (r + 1) cl) 20) se g g).1) (nI g) (nI (r + 1)) (inf ||| ((1 : Int32) <<< (nI r &&& 31))) (nI (gLs (gCl (gLA (gPut 30 f1 (nI r) (nI wa)) (gPut 30 f2 (nI r) (nI wb)) (inf ||| ((1 : Int32) <<< (nI r &&& 31))) (-1) (r + 1) cl) 20) se g g).2) ++ ([(oa, .inl (ok, 1, .inr (.inl (vp_updL ou 0 ((nI r).toInt64)))))])) H := hP
  have hD : va_D A (gcW h kc (gPut 30 f1 (nI r) (nI wa)) (gPut 30 f2 (nI r) (nI wb)) (gLA (gPut 30 f1 (nI r) (nI wa)) (gPut 30 f2 (nI r) (nI wb)) (inf ||| ((1 : Int32) <<< (nI r &&& 31))) (-1) (r + 1) dr) (gCl (gLA (gPut 30 f1 (nI r) (nI wa)) (gPut 30 f2 (nI r) (nI wb)) (inf ||| ((1 : Int32) <<< (nI r &&& 31))) (-1) (r + 1) cl) 20) tr ((gLs (gCl (gLA (gPut 30 f1 (nI r) (nI wa)) (gPut 30 f2 (nI r) (nI wb)) (inf ||| ((1 : Int32) <<< (nI r &&& 31))) (-1) (r + 1) cl) 20) se g g).1) (nI g) (nI (r + 1)) (inf ||| ((1 : Int32) <<< (nI r &&& 31))) (nI (gLs (gCl (gLA (gPut 30 f1 (nI r) (nI wa)) (gPut 30 f2 (nI r) (nI wb)) (inf ||| ((1 : Int32) <<< (nI r &&& 31))) (-1) (r + 1) cl) 20) se g g).2) ++ ([(oa, .inl (ok, 1, .inr (.inl (vp_updL ou 0 ((nI r).toInt64)))))])) := hD
  refine lv_goto (tgt := 25) hx hb dL_rule_10 (by decide) ?_
  refine lv_iconst (v := 0) hx hb dL_rule_25 (by decide) ?_
  have hpost : (0 : Int32) = 0 := by rfl
  exact W.iret (v := 0) hx hb hr (fun t ht hW => ⟨⟨0, (), rfl, hpost, ⟨by rw [ht]; exact hP, hD⟩⟩, hS.F ht⟩) hS.2.2 dL_rule_26
set_option maxHeartbeats 4000000 in
set_option maxRecDepth 100000 in
theorem w_turn (l : Launch) (dC : Nat → ClassId) (dI : Nat → Nat → Nat) (h : Nat → Nat) (kc : Nat → ClassId) (f1 : Nat → Int32) (f2 : Nat → Int32) (dr : Nat → Int32) (cl : Nat → Int32) (tr : Nat → Int32) (se : Nat → Int32) (g : Nat) (r : Nat) (inf : Int32) (ct : Nat) (oa : Nat) (ok : ClassId) (ou : Nat → Int64) (x : Nat) (sz : Nat) (hg : g ≤ 10) (hr30 : r ≤ 30) (hx2 : x < r) : Met l yL_turn wsL_turn ({ frames := 7, cells := 0, slots := 0, locals := 148 }) (gcPM (dC, dI) [.ref (h 0), .int (nI x), .ref oa] (gcW h kc f1 f2 dr cl tr se (nI g) (nI r) inf (nI ct) ++ ([(oa, .inl (ok, 1, .inr (.inl ou)))])) (gcT kc ++ ([(ok, .long)])) sz) (va_Qi (fun (rv : Int32) (_u : Unit) => rv = 0) (fun _u t9 => va_P (dC, dI) vwCl (gcW h kc f1 f2 (gLA f1 f2 (inf ^^^ ((1 : Int32) <<< (nI x &&& 31))) (-1) r dr) (gCl (gLA f1 f2 (inf ^^^ ((1 : Int32) <<< (nI x &&& 31))) (-1) r cl) 20) tr ((gLs (gCl (gLA f1 f2 (inf ^^^ ((1 : Int32) <<< (nI x &&& 31))) (-1) r cl) 20) se g g).1) (nI g) (nI r) (inf ^^^ ((1 : Int32) <<< (nI x &&& 31))) (nI (gLs (gCl (gLA f1 f2 (inf ^^^ ((1 : Int32) <<< (nI x &&& 31))) (-1) r cl) 20) se g g).2) ++ ([(oa, .inl (ok, 1, .inr (.inl (vp_updL ou 0 (gL (gHas (inf ^^^ ((1 : Int32) <<< (nI x &&& 31))) (nI x)))))))])) t9.heap ∧ va_D (va_A (gcW h kc f1 f2 dr cl tr se (nI g) (nI r) inf (nI ct) ++ ([(oa, .inl (ok, 1, .inr (.inl ou)))])) sz) (gcW h kc f1 f2 (gLA f1 f2 (inf ^^^ ((1 : Int32) <<< (nI x &&& 31))) (-1) r dr) (gCl (gLA f1 f2 (inf ^^^ ((1 : Int32) <<< (nI x &&& 31))) (-1) r cl) 20) tr ((gLs (gCl (gLA f1 f2 (inf ^^^ ((1 : Int32) <<< (nI x &&& 31))) (-1) r cl) 20) se g g).1) (nI g) (nI r) (inf ^^^ ((1 : Int32) <<< (nI x &&& 31))) (nI (gLs (gCl (gLA f1 f2 (inf ^^^ ((1 : Int32) <<< (nI x &&& 31))) (-1) r cl) 20) se g g).2) ++ ([(oa, .inl (ok, 1, .inr (.inl (vp_updL ou 0 (gL (gHas (inf ^^^ ((1 : Int32) <<< (nI x &&& 31))) (nI x)))))))]))) (va_A (gcW h kc f1 f2 dr cl tr se (nI g) (nI r) inf (nI ct) ++ ([(oa, .inl (ok, 1, .inr (.inl ou)))])) sz)) 0 0 (va_A (gcW h kc f1 f2 dr cl tr se (nI g) (nI r) inf (nI ct) ++ ([(oa, .inl (ok, 1, .inr (.inl ou)))])) sz) := by
  refine va_MetW (cc := cL_turn) (maxL := 4) (ret := (some .int)) (by decide) rfl ?_
  intro p e s m args below meth c s₁ B hml hv
  obtain ⟨rfl, hsz, hP, hK, hD0⟩ := hv
  have hx := B.exec
  have hb := B.bytes
  have hr := B.returns
  have hts := atoms_spec (ws := wsL_turn) B.pre
  have hown : s.vm.findClass RL = some m.cls := findClass_of_methodNamed B.named
  have hlocks := B.notSynchronized
  subst hsz
  have hD := hD0.self (sz := s.heap.size)
  generalize hAe : va_A (gcW h kc f1 f2 dr cl tr se (nI g) (nI r) inf (nI ct) ++ ([(oa, .inl (ok, 1, .inr (.inl ou)))])) s.heap.size = A at hD ⊢
  have hA : ∀ q : Nat, s.heap.size ≤ q → A q := fun q h => by rw [← hAe]; exact Or.inr h
  have hS : va_S A s.heap s.heap [] := va_S.rf
  have hP : va_P (dC, dI) vwCl (gcW h kc f1 f2 dr cl tr se (nI g) (nI r) inf (nI ct) ++ ([(oa, .inl (ok, 1, .inr (.inl ou)))])) s.heap := hP
  have hin0 : ∀ w ∈ wsX00, w ∈ wsL_turn := by decide +kernel
  have hl := lv_entry [.ref (h 0), .int (nI x), .ref oa] (n := 4) (Nat.le_of_ble_eq_true rfl)
  rw [lg_entry_eq]
  generalize (lg_sl [.ref (h 0), .int (nI x), .ref oa] ++ List.replicate (4 - (lg_sl [.ref (h 0), .int (nI x), .ref oa]).length) Slot.unset).toArray = ls at hl ⊢
  have hl : lv_has ls 4 [(0, .ref (h 0)), (1, .int (nI x)), (2, .ref oa)] := hl
  refine lv_aload_n hx hb dL_turn_0 rfl (lv_at hl 2 rfl) ?_
  refine lv_iconst (v := 0) hx hb dL_turn_1 (by decide) ?_
  refine lv_aload_n hx hb dL_turn_2 rfl (lv_at hl 0 rfl) ?_
  refine lv_iload_n hx hb dL_turn_3 rfl (lv_at hl 1 rfl) ?_
  have hPc : va_P (dC, dI) vwCl (gcW h kc f1 f2 dr cl tr se (nI g) (nI r) inf (nI ct)) _ := hP.sub [0, 1, 2, 3, 4, 5, 6] rfl
  have hKc : va_K (dC, dI) vwCl (gcT kc) s := hK.sub [0, 1, 2, 3, 4, 5] rfl
  have hDc : va_D A (gcW h kc f1 f2 dr cl tr se (nI g) (nI r) inf (nI ct)) := hD.sub [0, 1, 2, 3, 4, 5, 6] (by decide) rfl
  have hFc := va_free (wc := (gcW h kc f1 f2 dr cl tr se (nI g) (nI r) inf (nI ct))) hD hS hA [0, 1, 2, 3, 4, 5, 6] rfl
  refine va_calli (va_runV (As := [.int (nI x)]) (rest := [.int 0, .ref oa]) ⟨hx, hb, hml, hown, hts⟩ (c_X0_turn l dC dI h kc f1 f2 dr cl tr se g r inf ct x s.heap.size (by first | assumption | omega) (by first | assumption | omega) (by first | assumption | omega)) (cwV 1 hts gL_turn_X0_turn rfl rfl rfl (by decide +kernel) ⟨Nat.le_of_ble_eq_true rfl, Nat.le_of_ble_eq_true rfl⟩) ⟨gcPM_blind, va_recv hK hP (ci := 0) (q0 := 0) rfl rfl, fun U hU hW => ⟨rfl, by rw [hU], by rw [hU]; exact hPc, va_K.moved hW.alike hKc, hDc.weaken (fun _ _ _ _ => trivial)⟩⟩ rfl rfl hl.1 rfl (lv_room (Nat.le_of_ble_eq_true rfl)) dL_turn_4 ⟨Nat.zero_le _, Nat.zero_le _⟩) hS (fun q _ h => hFc q h) hFc (fun r1 u t H locs ht hvm hw hB hz1 hk1 hS => ?_)
  obtain ⟨hP1, hD1⟩ := hB
  rw [ht] at hP1
  obtain ⟨hP, hD⟩ := va_join (wr := [(oa, .inl (ok, 1, .inr (.inl ou)))]) (w1 := (gcW h kc f1 f2 (gLA f1 f2 (inf ^^^ ((1 : Int32) <<< (nI x &&& 31))) (-1) r dr) (gCl (gLA f1 f2 (inf ^^^ ((1 : Int32) <<< (nI x &&& 31))) (-1) r cl) 20) tr ((gLs (gCl (gLA f1 f2 (inf ^^^ ((1 : Int32) <<< (nI x &&& 31))) (-1) r cl) 20) se g g).1) (nI g) (nI r) (inf ^^^ ((1 : Int32) <<< (nI x &&& 31))) (nI (gLs (gCl (gLA f1 f2 (inf ^^^ ((1 : Int32) <<< (nI x &&& 31))) (-1) r cl) 20) se g g).2))) hP hD [0, 1, 2, 3, 4, 5, 6] [7] rfl rfl (by decide) (by decide) hk1 hFc hP1 hD1
  have hP : va_P (dC, dI) vwCl (gcW h kc f1 f2 (gLA f1 f2 (inf ^^^ ((1 : Int32) <<< (nI x &&& 31))) (-1) r dr) (gCl (gLA f1 f2 (inf ^^^ ((1 : Int32) <<< (nI x &&& 31))) (-1) r cl) 20) tr ((gLs (gCl (gLA f1 f2 (inf ^^^ ((1 : Int32) <<< (nI x &&& 31))) (-1) r cl) 20) se g g).1) (nI g) (nI r) (inf ^^^ ((1 : Int32) <<< (nI x &&& 31))) (nI (gLs (gCl (gLA f1 f2 (inf ^^^ ((1 : Int32) <<< (nI x &&& 31))) (-1) r cl) 20) se g g).2) ++ ([(oa, .inl (ok, 1, .inr (.inl ou)))])) H := hP.sub [1, 2, 3, 4, 5, 6, 7, 0] rfl
  have hD : va_D A (gcW h kc f1 f2 (gLA f1 f2 (inf ^^^ ((1 : Int32) <<< (nI x &&& 31))) (-1) r dr) (gCl (gLA f1 f2 (inf ^^^ ((1 : Int32) <<< (nI x &&& 31))) (-1) r cl) 20) tr ((gLs (gCl (gLA f1 f2 (inf ^^^ ((1 : Int32) <<< (nI x &&& 31))) (-1) r cl) 20) se g g).1) (nI g) (nI r) (inf ^^^ ((1 : Int32) <<< (nI x &&& 31))) (nI (gLs (gCl (gLA f1 f2 (inf ^^^ ((1 : Int32) <<< (nI x &&& 31))) (-1) r cl) 20) se g g).2) ++ ([(oa, .inl (ok, 1, .inr (.inl ou)))])) := hD.sub [1, 2, 3, 4, 5, 6, 7, 0] (by decide) rfl
  have hw : r1 = gB (gHas (inf ^^^ ((1 : Int32) <<< (nI x &&& 31))) (nI x)) := hw
  subst hw
  clear hw
  clear hz1 hk1 ht hvm hP1 hD1 hFc hDc
  clear hPc hKc
  refine lv_if_eq (tgt := 14) hx hb dL_turn_7 (by decide) (fun c_7 => ?_) (fun c_7 => ?_)
  · skip
    have c_7 := gB_f c_7
    refine lv_lconst (v := 0) hx hb dL_turn_14 (by decide) ?_
    refine va_last hx hb hK hP hD hS 7 6 rfl rfl gc_in01 dL_turn_15 (fun H locs hP hD hS => ?_)
    rw [sb_cl0] at hP hD
    have hP : va_P (dC, dI) vwCl (gcW h kc f1 f2 (gLA f1 f2 (inf ^^^ ((1 : Int32) <<< (nI x &&& 31))) (-1) r dr) (gCl (gLA f1 f2 (inf ^^^ ((1 : Int32) <<< (nI x &&& 31))) (-1) r cl) 20) tr ((gLs (gCl (gLA f1 f2 (inf ^^^ ((1 : Int32) <<< (nI x &&& 31))) (-1) r cl) 20) se g g).1) (nI g) (nI r) (inf ^^^ ((1 : Int32) <<< (nI x &&& 31))) (nI (gLs (gCl (gLA f1 f2 (inf ^^^ ((1 : Int32) <<< (nI x &&& 31))) (-1) r cl) 20) se g g).2) ++ ([(oa, .inl (ok, 1, .inr (.inl (vp_updL ou 0 0))))])) H := hP
    have hD : va_D A (gcW h kc f1 f2 (gLA f1 f2 (inf ^^^ ((1 : Int32) <<< (nI x &&& 31))) (-1) r dr) (gCl (gLA f1 f2 (inf ^^^ ((1 : Int32) <<< (nI x &&& 31))) (-1) r cl) 20) tr ((gLs (gCl (gLA f1 f2 (inf ^^^ ((1 : Int32) <<< (nI x &&& 31))) (-1) r cl) 20) se g g).1) (nI g) (nI r) (inf ^^^ ((1 : Int32) <<< (nI x &&& 31))) (nI (gLs (gCl (gLA f1 f2 (inf ^^^ ((1 : Int32) <<< (nI x &&& 31))) (-1) r cl) 20) se g g).2) ++ ([(oa, .inl (ok, 1, .inr (.inl (vp_updL ou 0 0))))])) := hD
    refine lv_goto (tgt := 22) hx hb dL_turn_16 (by decide) ?_
    refine lv_iconst (v := 0) hx hb dL_turn_22 (by decide) ?_
    have hpost : (0 : Int32) = 0 := by rfl
    have hWe : ((gcW h kc f1 f2 (gLA f1 f2 (inf ^^^ ((1 : Int32) <<< (nI x &&& 31))) (-1) r dr) (gCl (gLA f1 f2 (inf ^^^ ((1 : Int32) <<< (nI x &&& 31))) (-1) r cl) 20) tr ((gLs (gCl (gLA f1 f2 (inf ^^^ ((1 : Int32) <<< (nI x &&& 31))) (-1) r cl) 20) se g g).1) (nI g) (nI r) (inf ^^^ ((1 : Int32) <<< (nI x &&& 31))) (nI (gLs (gCl (gLA f1 f2 (inf ^^^ ((1 : Int32) <<< (nI x &&& 31))) (-1) r cl) 20) se g g).2) ++ ([(oa, .inl (ok, 1, .inr (.inl (vp_updL ou 0 0))))])) : va_W) = (gcW h kc f1 f2 (gLA f1 f2 (inf ^^^ ((1 : Int32) <<< (nI x &&& 31))) (-1) r dr) (gCl (gLA f1 f2 (inf ^^^ ((1 : Int32) <<< (nI x &&& 31))) (-1) r cl) 20) tr ((gLs (gCl (gLA f1 f2 (inf ^^^ ((1 : Int32) <<< (nI x &&& 31))) (-1) r cl) 20) se g g).1) (nI g) (nI r) (inf ^^^ ((1 : Int32) <<< (nI x &&& 31))) (nI (gLs (gCl (gLA f1 f2 (inf ^^^ ((1 : Int32) <<< (nI x &&& 31))) (-1) r cl) 20) se g g).2) ++ ([(oa, .inl (ok, 1, .inr (.inl (vp_updL ou 0 (gL (gHas (inf ^^^ ((1 : Int32) <<< (nI x &&& 31))) (nI x)))))))])) := by first | rfl | simp [gL, c_7]
    rw [hWe] at hP hD
    exact W.iret (v := 0) hx hb hr (fun t ht hW => ⟨⟨0, (), rfl, hpost, ⟨by rw [ht]; exact hP, hD⟩⟩, hS.F ht⟩) hS.2.2 dL_turn_23
  · skip
    have c_7 := gB_t c_7
    refine lv_lconst (v := 1) hx hb dL_turn_10 (by decide) ?_
    refine lv_goto (tgt := 15) hx hb dL_turn_11 (by decide) ?_
    refine va_last hx hb hK hP hD hS 7 6 rfl rfl gc_in01 dL_turn_15 (fun H locs hP hD hS => ?_)
    rw [sb_cl0] at hP hD
    have hP : va_P (dC, dI) vwCl (gcW h kc f1 f2 (gLA f1 f2 (inf ^^^ ((1 : Int32) <<< (nI x &&& 31))) (-1) r dr) (gCl (gLA f1 f2 (inf ^^^ ((1 : Int32) <<< (nI x &&& 31))) (-1) r cl) 20) tr ((gLs (gCl (gLA f1 f2 (inf ^^^ ((1 : Int32) <<< (nI x &&& 31))) (-1) r cl) 20) se g g).1) (nI g) (nI r) (inf ^^^ ((1 : Int32) <<< (nI x &&& 31))) (nI (gLs (gCl (gLA f1 f2 (inf ^^^ ((1 : Int32) <<< (nI x &&& 31))) (-1) r cl) 20) se g g).2) ++ ([(oa, .inl (ok, 1, .inr (.inl (vp_updL ou 0 1))))])) H := hP
    have hD : va_D A (gcW h kc f1 f2 (gLA f1 f2 (inf ^^^ ((1 : Int32) <<< (nI x &&& 31))) (-1) r dr) (gCl (gLA f1 f2 (inf ^^^ ((1 : Int32) <<< (nI x &&& 31))) (-1) r cl) 20) tr ((gLs (gCl (gLA f1 f2 (inf ^^^ ((1 : Int32) <<< (nI x &&& 31))) (-1) r cl) 20) se g g).1) (nI g) (nI r) (inf ^^^ ((1 : Int32) <<< (nI x &&& 31))) (nI (gLs (gCl (gLA f1 f2 (inf ^^^ ((1 : Int32) <<< (nI x &&& 31))) (-1) r cl) 20) se g g).2) ++ ([(oa, .inl (ok, 1, .inr (.inl (vp_updL ou 0 1))))])) := hD
    refine lv_goto (tgt := 22) hx hb dL_turn_16 (by decide) ?_
    refine lv_iconst (v := 0) hx hb dL_turn_22 (by decide) ?_
    have hpost : (0 : Int32) = 0 := by rfl
    have hWe : ((gcW h kc f1 f2 (gLA f1 f2 (inf ^^^ ((1 : Int32) <<< (nI x &&& 31))) (-1) r dr) (gCl (gLA f1 f2 (inf ^^^ ((1 : Int32) <<< (nI x &&& 31))) (-1) r cl) 20) tr ((gLs (gCl (gLA f1 f2 (inf ^^^ ((1 : Int32) <<< (nI x &&& 31))) (-1) r cl) 20) se g g).1) (nI g) (nI r) (inf ^^^ ((1 : Int32) <<< (nI x &&& 31))) (nI (gLs (gCl (gLA f1 f2 (inf ^^^ ((1 : Int32) <<< (nI x &&& 31))) (-1) r cl) 20) se g g).2) ++ ([(oa, .inl (ok, 1, .inr (.inl (vp_updL ou 0 1))))])) : va_W) = (gcW h kc f1 f2 (gLA f1 f2 (inf ^^^ ((1 : Int32) <<< (nI x &&& 31))) (-1) r dr) (gCl (gLA f1 f2 (inf ^^^ ((1 : Int32) <<< (nI x &&& 31))) (-1) r cl) 20) tr ((gLs (gCl (gLA f1 f2 (inf ^^^ ((1 : Int32) <<< (nI x &&& 31))) (-1) r cl) 20) se g g).1) (nI g) (nI r) (inf ^^^ ((1 : Int32) <<< (nI x &&& 31))) (nI (gLs (gCl (gLA f1 f2 (inf ^^^ ((1 : Int32) <<< (nI x &&& 31))) (-1) r cl) 20) se g g).2) ++ ([(oa, .inl (ok, 1, .inr (.inl (vp_updL ou 0 (gL (gHas (inf ^^^ ((1 : Int32) <<< (nI x &&& 31))) (nI x)))))))])) := by first | rfl | simp [gL, c_7]
    rw [hWe] at hP hD
    exact W.iret (v := 0) hx hb hr (fun t ht hW => ⟨⟨0, (), rfl, hpost, ⟨by rw [ht]; exact hP, hD⟩⟩, hS.F ht⟩) hS.2.2 dL_turn_23
set_option maxHeartbeats 4000000 in
set_option maxRecDepth 100000 in
theorem w_told (l : Launch) (dC : Nat → ClassId) (dI : Nat → Nat → Nat) (h : Nat → Nat) (kc : Nat → ClassId) (f1 : Nat → Int32) (f2 : Nat → Int32) (dr : Nat → Int32) (cl : Nat → Int32) (tr : Nat → Int32) (se : Nat → Int32) (g : Nat) (r : Nat) (inf : Int32) (ct : Nat) (oa : Nat) (ok : ClassId) (ou : Nat → Int64) (x : Nat) (w : Nat) (sz : Nat) (hr30 : r ≤ 30) (hx2 : x < r) (hw : w < 3) : Met l yL_told wsL_told ({ frames := 2, cells := 0, slots := 0, locals := 43 }) (gcPM (dC, dI) [.ref (h 0), .int (nI x), .int (nI w), .ref oa] (gcW h kc f1 f2 dr cl tr se (nI g) (nI r) inf (nI ct) ++ ([(oa, .inl (ok, 1, .inr (.inl ou)))])) (gcT kc ++ ([(ok, .long)])) sz) (va_Qi (fun (rv : Int32) (_u : Unit) => rv = 0) (fun _u t9 => va_P (dC, dI) vwCl (gcW h kc f1 f2 dr cl tr se (nI g) (nI r) inf (nI ct) ++ ([(oa, .inl (ok, 1, .inr (.inl (vp_updL ou 0 ((gTo f1 f2 inf x w).toInt64)))))])) t9.heap ∧ va_D (va_A (gcW h kc f1 f2 dr cl tr se (nI g) (nI r) inf (nI ct) ++ ([(oa, .inl (ok, 1, .inr (.inl ou)))])) sz) (gcW h kc f1 f2 dr cl tr se (nI g) (nI r) inf (nI ct) ++ ([(oa, .inl (ok, 1, .inr (.inl (vp_updL ou 0 ((gTo f1 f2 inf x w).toInt64)))))]))) (va_A (gcW h kc f1 f2 dr cl tr se (nI g) (nI r) inf (nI ct) ++ ([(oa, .inl (ok, 1, .inr (.inl ou)))])) sz)) 0 0 (va_A (gcW h kc f1 f2 dr cl tr se (nI g) (nI r) inf (nI ct) ++ ([(oa, .inl (ok, 1, .inr (.inl ou)))])) sz) := by
  refine va_MetW (cc := cL_told) (maxL := 5) (ret := (some .int)) (by decide) rfl ?_
  intro p e s m args below meth c s₁ B hml hv
  obtain ⟨rfl, hsz, hP, hK, hD0⟩ := hv
  have hx := B.exec
  have hb := B.bytes
  have hr := B.returns
  have hts := atoms_spec (ws := wsL_told) B.pre
  have hown : s.vm.findClass RL = some m.cls := findClass_of_methodNamed B.named
  have hlocks := B.notSynchronized
  subst hsz
  have hD := hD0.self (sz := s.heap.size)
  generalize hAe : va_A (gcW h kc f1 f2 dr cl tr se (nI g) (nI r) inf (nI ct) ++ ([(oa, .inl (ok, 1, .inr (.inl ou)))])) s.heap.size = A at hD ⊢
  have hA : ∀ q : Nat, s.heap.size ≤ q → A q := fun q h => by rw [← hAe]; exact Or.inr h
  have hS : va_S A s.heap s.heap [] := va_S.rf
  have hP : va_P (dC, dI) vwCl (gcW h kc f1 f2 dr cl tr se (nI g) (nI r) inf (nI ct) ++ ([(oa, .inl (ok, 1, .inr (.inl ou)))])) s.heap := hP
  have hin0 : ∀ w ∈ wsX00, w ∈ wsL_told := by decide +kernel
  have hl := lv_entry [.ref (h 0), .int (nI x), .int (nI w), .ref oa] (n := 5) (Nat.le_of_ble_eq_true rfl)
  rw [lg_entry_eq]
  generalize (lg_sl [.ref (h 0), .int (nI x), .int (nI w), .ref oa] ++ List.replicate (5 - (lg_sl [.ref (h 0), .int (nI x), .int (nI w), .ref oa]).length) Slot.unset).toArray = ls at hl ⊢
  have hl : lv_has ls 5 [(0, .ref (h 0)), (1, .int (nI x)), (2, .int (nI w)), (3, .ref oa)] := hl
  refine lv_aload_n hx hb dL_told_0 rfl (lv_at hl 3 rfl) ?_
  refine lv_iconst (v := 0) hx hb dL_told_1 (by decide) ?_
  refine lv_aload_n hx hb dL_told_2 rfl (lv_at hl 0 rfl) ?_
  refine lv_iload_n hx hb dL_told_3 rfl (lv_at hl 1 rfl) ?_
  refine lv_iload_n hx hb dL_told_4 rfl (lv_at hl 2 rfl) ?_
  have hPc : va_P (dC, dI) vwCl (gcW h kc f1 f2 dr cl tr se (nI g) (nI r) inf (nI ct)) _ := hP.sub [0, 1, 2, 3, 4, 5, 6] rfl
  have hKc : va_K (dC, dI) vwCl (gcT kc) s := hK.sub [0, 1, 2, 3, 4, 5] rfl
  refine va_calli (va_runV (As := [.int (nI x), .int (nI w)]) (rest := [.int 0, .ref oa]) ⟨hx, hb, hml, hown, hts⟩ (c_X0_told l dC dI h kc f1 f2 dr cl tr se g r inf ct x w (by first | assumption | omega) (by first | assumption | omega) (by first | assumption | omega)) (cwV 2 hts gL_told_X0_told rfl rfl rfl (by decide +kernel) ⟨Nat.le_of_ble_eq_true rfl, Nat.le_of_ble_eq_true rfl⟩) ⟨gcPR_blind, va_recv hK hP (ci := 0) (q0 := 0) rfl rfl, fun U hU hW => ⟨rfl, by rw [hU]; exact hPc, va_K.moved hW.alike hKc⟩⟩ rfl rfl hl.1 rfl (lv_room (Nat.le_of_ble_eq_true rfl)) dL_told_5 ⟨Nat.zero_le _, Nat.zero_le _⟩) hS (fun q _ h => h.elim) (fun q h => h.elim) (fun r1 u t H locs ht hvm hw hB hz1 hk1 hS => ?_)
  have hP := gc_keep hP hk1
  have hw : r1 = gTo f1 f2 inf x w := hw
  subst hw
  clear hw
  clear hB hz1 hk1 ht hvm
  clear hPc hKc
  refine lv_i2l hx hb dL_told_8 rfl ?_
  refine va_last hx hb hK hP hD hS 7 6 rfl rfl gc_in01 dL_told_9 (fun H locs hP hD hS => ?_)
  rw [sb_cl0] at hP hD
  have hP : va_P (dC, dI) vwCl (gcW h kc f1 f2 dr cl tr se (nI g) (nI r) inf (nI ct) ++ ([(oa, .inl (ok, 1, .inr (.inl (vp_updL ou 0 ((gTo f1 f2 inf x w).toInt64)))))])) H := hP
  have hD : va_D A (gcW h kc f1 f2 dr cl tr se (nI g) (nI r) inf (nI ct) ++ ([(oa, .inl (ok, 1, .inr (.inl (vp_updL ou 0 ((gTo f1 f2 inf x w).toInt64)))))])) := hD
  refine lv_goto (tgt := 17) hx hb dL_told_10 (by decide) ?_
  refine lv_iconst (v := 0) hx hb dL_told_17 (by decide) ?_
  have hpost : (0 : Int32) = 0 := by rfl
  exact W.iret (v := 0) hx hb hr (fun t ht hW => ⟨⟨0, (), rfl, hpost, ⟨by rw [ht]; exact hP, hD⟩⟩, hS.F ht⟩) hS.2.2 dL_told_18
set_option maxHeartbeats 4000000 in
set_option maxRecDepth 100000 in
theorem w_follows (l : Launch) (dC : Nat → ClassId) (dI : Nat → Nat → Nat) (h : Nat → Nat) (kc : Nat → ClassId) (f1 : Nat → Int32) (f2 : Nat → Int32) (dr : Nat → Int32) (cl : Nat → Int32) (tr : Nat → Int32) (se : Nat → Int32) (g : Nat) (r : Nat) (inf : Int32) (ct : Nat) (oa : Nat) (ok : ClassId) (ou : Nat → Int64) (wa : Nat) (wb : Nat) (sz : Nat) (hg : g ≤ 10) (ha : wa < 2 * g) (hb2 : wb < 2 * g) : Met l yL_follows wsL_follows ({ frames := 3, cells := 0, slots := 0, locals := 64 }) (gcPM (dC, dI) [.ref (h 0), .int (nI wa), .int (nI wb), .ref oa] (gcW h kc f1 f2 dr cl tr se (nI g) (nI r) inf (nI ct) ++ ([(oa, .inl (ok, 1, .inr (.inl ou)))])) (gcT kc ++ ([(ok, .long)])) sz) (va_Qi (fun (rv : Int32) (_u : Unit) => rv = 0) (fun _u t9 => va_P (dC, dI) vwCl (gcW h kc f1 f2 dr cl tr se (nI g) (nI r) inf (nI ct) ++ ([(oa, .inl (ok, 1, .inr (.inl (vp_updL ou 0 (gL (gHas (gAt 20 cl (nI wa)) (nI wb)))))))])) t9.heap ∧ va_D (va_A (gcW h kc f1 f2 dr cl tr se (nI g) (nI r) inf (nI ct) ++ ([(oa, .inl (ok, 1, .inr (.inl ou)))])) sz) (gcW h kc f1 f2 dr cl tr se (nI g) (nI r) inf (nI ct) ++ ([(oa, .inl (ok, 1, .inr (.inl (vp_updL ou 0 (gL (gHas (gAt 20 cl (nI wa)) (nI wb)))))))]))) (va_A (gcW h kc f1 f2 dr cl tr se (nI g) (nI r) inf (nI ct) ++ ([(oa, .inl (ok, 1, .inr (.inl ou)))])) sz)) 0 0 (va_A (gcW h kc f1 f2 dr cl tr se (nI g) (nI r) inf (nI ct) ++ ([(oa, .inl (ok, 1, .inr (.inl ou)))])) sz) := by
  refine va_MetW (cc := cL_follows) (maxL := 5) (ret := (some .int)) (by decide) rfl ?_
  intro p e s m args below meth c s₁ B hml hv
  obtain ⟨rfl, hsz, hP, hK, hD0⟩ := hv
  have hx := B.exec
  have hb := B.bytes
  have hr := B.returns
  have hts := atoms_spec (ws := wsL_follows) B.pre
  have hown : s.vm.findClass RL = some m.cls := findClass_of_methodNamed B.named
  have hlocks := B.notSynchronized
  subst hsz
  have hD := hD0.self (sz := s.heap.size)
  generalize hAe : va_A (gcW h kc f1 f2 dr cl tr se (nI g) (nI r) inf (nI ct) ++ ([(oa, .inl (ok, 1, .inr (.inl ou)))])) s.heap.size = A at hD ⊢
  have hA : ∀ q : Nat, s.heap.size ≤ q → A q := fun q h => by rw [← hAe]; exact Or.inr h
  have hS : va_S A s.heap s.heap [] := va_S.rf
  have hP : va_P (dC, dI) vwCl (gcW h kc f1 f2 dr cl tr se (nI g) (nI r) inf (nI ct) ++ ([(oa, .inl (ok, 1, .inr (.inl ou)))])) s.heap := hP
  have hin0 : ∀ w ∈ wsX00, w ∈ wsL_follows := by decide +kernel
  have hl := lv_entry [.ref (h 0), .int (nI wa), .int (nI wb), .ref oa] (n := 5) (Nat.le_of_ble_eq_true rfl)
  rw [lg_entry_eq]
  generalize (lg_sl [.ref (h 0), .int (nI wa), .int (nI wb), .ref oa] ++ List.replicate (5 - (lg_sl [.ref (h 0), .int (nI wa), .int (nI wb), .ref oa]).length) Slot.unset).toArray = ls at hl ⊢
  have hl : lv_has ls 5 [(0, .ref (h 0)), (1, .int (nI wa)), (2, .int (nI wb)), (3, .ref oa)] := hl
  refine lv_aload_n hx hb dL_follows_0 rfl (lv_at hl 3 rfl) ?_
  refine lv_iconst (v := 0) hx hb dL_follows_1 (by decide) ?_
  refine lv_aload_n hx hb dL_follows_2 rfl (lv_at hl 0 rfl) ?_
  refine lv_iload_n hx hb dL_follows_3 rfl (lv_at hl 1 rfl) ?_
  refine lv_iload_n hx hb dL_follows_4 rfl (lv_at hl 2 rfl) ?_
  have hPc : va_P (dC, dI) vwCl (gcW h kc f1 f2 dr cl tr se (nI g) (nI r) inf (nI ct)) _ := hP.sub [0, 1, 2, 3, 4, 5, 6] rfl
  have hKc : va_K (dC, dI) vwCl (gcT kc) s := hK.sub [0, 1, 2, 3, 4, 5] rfl
  refine va_calli (va_runV (As := [.int (nI wa), .int (nI wb)]) (rest := [.int 0, .ref oa]) ⟨hx, hb, hml, hown, hts⟩ (c_X0_follows l dC dI h kc f1 f2 dr cl tr se g r inf ct wa wb (by first | assumption | omega) (by first | assumption | omega) (by first | assumption | omega)) (cwV 2 hts gL_follows_X0_follows rfl rfl rfl (by decide +kernel) ⟨Nat.le_of_ble_eq_true rfl, Nat.le_of_ble_eq_true rfl⟩) ⟨gcPR_blind, va_recv hK hP (ci := 0) (q0 := 0) rfl rfl, fun U hU hW => ⟨rfl, by rw [hU]; exact hPc, va_K.moved hW.alike hKc⟩⟩ rfl rfl hl.1 rfl (lv_room (Nat.le_of_ble_eq_true rfl)) dL_follows_5 ⟨Nat.zero_le _, Nat.zero_le _⟩) hS (fun q _ h => h.elim) (fun q h => h.elim) (fun r1 u t H locs ht hvm hw hB hz1 hk1 hS => ?_)
  have hP := gc_keep hP hk1
  have hw : r1 = gB (gHas (gAt 20 cl (nI wa)) (nI wb)) := hw
  subst hw
  clear hw
  clear hB hz1 hk1 ht hvm
  clear hPc hKc
  refine lv_if_eq (tgt := 15) hx hb dL_follows_8 (by decide) (fun c_8 => ?_) (fun c_8 => ?_)
  · skip
    have c_8 := gB_f c_8
    refine lv_lconst (v := 0) hx hb dL_follows_15 (by decide) ?_
    refine va_last hx hb hK hP hD hS 7 6 rfl rfl gc_in01 dL_follows_16 (fun H locs hP hD hS => ?_)
    rw [sb_cl0] at hP hD
    have hP : va_P (dC, dI) vwCl (gcW h kc f1 f2 dr cl tr se (nI g) (nI r) inf (nI ct) ++ ([(oa, .inl (ok, 1, .inr (.inl (vp_updL ou 0 0))))])) H := hP
    have hD : va_D A (gcW h kc f1 f2 dr cl tr se (nI g) (nI r) inf (nI ct) ++ ([(oa, .inl (ok, 1, .inr (.inl (vp_updL ou 0 0))))])) := hD
    refine lv_goto (tgt := 24) hx hb dL_follows_17 (by decide) ?_
    refine lv_iconst (v := 0) hx hb dL_follows_24 (by decide) ?_
    have hpost : (0 : Int32) = 0 := by rfl
    have hWe : ((gcW h kc f1 f2 dr cl tr se (nI g) (nI r) inf (nI ct) ++ ([(oa, .inl (ok, 1, .inr (.inl (vp_updL ou 0 0))))])) : va_W) = (gcW h kc f1 f2 dr cl tr se (nI g) (nI r) inf (nI ct) ++ ([(oa, .inl (ok, 1, .inr (.inl (vp_updL ou 0 (gL (gHas (gAt 20 cl (nI wa)) (nI wb)))))))])) := by first | rfl | simp [gL, c_8]
    rw [hWe] at hP hD
    exact W.iret (v := 0) hx hb hr (fun t ht hW => ⟨⟨0, (), rfl, hpost, ⟨by rw [ht]; exact hP, hD⟩⟩, hS.F ht⟩) hS.2.2 dL_follows_25
  · skip
    have c_8 := gB_t c_8
    refine lv_lconst (v := 1) hx hb dL_follows_11 (by decide) ?_
    refine lv_goto (tgt := 16) hx hb dL_follows_12 (by decide) ?_
    refine va_last hx hb hK hP hD hS 7 6 rfl rfl gc_in01 dL_follows_16 (fun H locs hP hD hS => ?_)
    rw [sb_cl0] at hP hD
    have hP : va_P (dC, dI) vwCl (gcW h kc f1 f2 dr cl tr se (nI g) (nI r) inf (nI ct) ++ ([(oa, .inl (ok, 1, .inr (.inl (vp_updL ou 0 1))))])) H := hP
    have hD : va_D A (gcW h kc f1 f2 dr cl tr se (nI g) (nI r) inf (nI ct) ++ ([(oa, .inl (ok, 1, .inr (.inl (vp_updL ou 0 1))))])) := hD
    refine lv_goto (tgt := 24) hx hb dL_follows_17 (by decide) ?_
    refine lv_iconst (v := 0) hx hb dL_follows_24 (by decide) ?_
    have hpost : (0 : Int32) = 0 := by rfl
    have hWe : ((gcW h kc f1 f2 dr cl tr se (nI g) (nI r) inf (nI ct) ++ ([(oa, .inl (ok, 1, .inr (.inl (vp_updL ou 0 1))))])) : va_W) = (gcW h kc f1 f2 dr cl tr se (nI g) (nI r) inf (nI ct) ++ ([(oa, .inl (ok, 1, .inr (.inl (vp_updL ou 0 (gL (gHas (gAt 20 cl (nI wa)) (nI wb)))))))])) := by first | rfl | simp [gL, c_8]
    rw [hWe] at hP hD
    exact W.iret (v := 0) hx hb hr (fun t ht hW => ⟨⟨0, (), rfl, hpost, ⟨by rw [ht]; exact hP, hD⟩⟩, hS.F ht⟩) hS.2.2 dL_follows_25
set_option maxHeartbeats 4000000 in
set_option maxRecDepth 100000 in
theorem w_reach (l : Launch) (dC : Nat → ClassId) (dI : Nat → Nat → Nat) (h : Nat → Nat) (kc : Nat → ClassId) (f1 : Nat → Int32) (f2 : Nat → Int32) (dr : Nat → Int32) (cl : Nat → Int32) (tr : Nat → Int32) (se : Nat → Int32) (g : Nat) (r : Nat) (inf : Int32) (ct : Nat) (oa : Nat) (ok : ClassId) (ou : Nat → Int64) (wa : Nat) (sz : Nat) (hg : g ≤ 10) (ha : wa < 2 * g) : Met l yL_reach wsL_reach ({ frames := 3, cells := 0, slots := 0, locals := 63 }) (gcPM (dC, dI) [.ref (h 0), .int (nI wa), .ref oa] (gcW h kc f1 f2 dr cl tr se (nI g) (nI r) inf (nI ct) ++ ([(oa, .inl (ok, 1, .inr (.inl ou)))])) (gcT kc ++ ([(ok, .long)])) sz) (va_Qi (fun (rv : Int32) (_u : Unit) => rv = 0) (fun _u t9 => va_P (dC, dI) vwCl (gcW h kc f1 f2 dr cl tr se (nI g) (nI r) inf (nI ct) ++ ([(oa, .inl (ok, 1, .inr (.inl (vp_updL ou 0 ((gAt 20 cl (nI wa)).toInt64)))))])) t9.heap ∧ va_D (va_A (gcW h kc f1 f2 dr cl tr se (nI g) (nI r) inf (nI ct) ++ ([(oa, .inl (ok, 1, .inr (.inl ou)))])) sz) (gcW h kc f1 f2 dr cl tr se (nI g) (nI r) inf (nI ct) ++ ([(oa, .inl (ok, 1, .inr (.inl (vp_updL ou 0 ((gAt 20 cl (nI wa)).toInt64)))))]))) (va_A (gcW h kc f1 f2 dr cl tr se (nI g) (nI r) inf (nI ct) ++ ([(oa, .inl (ok, 1, .inr (.inl ou)))])) sz)) 0 0 (va_A (gcW h kc f1 f2 dr cl tr se (nI g) (nI r) inf (nI ct) ++ ([(oa, .inl (ok, 1, .inr (.inl ou)))])) sz) := by
  refine va_MetW (cc := cL_reach) (maxL := 4) (ret := (some .int)) (by decide) rfl ?_
  intro p e s m args below meth c s₁ B hml hv
  obtain ⟨rfl, hsz, hP, hK, hD0⟩ := hv
  have hx := B.exec
  have hb := B.bytes
  have hr := B.returns
  have hts := atoms_spec (ws := wsL_reach) B.pre
  have hown : s.vm.findClass RL = some m.cls := findClass_of_methodNamed B.named
  have hlocks := B.notSynchronized
  subst hsz
  have hD := hD0.self (sz := s.heap.size)
  generalize hAe : va_A (gcW h kc f1 f2 dr cl tr se (nI g) (nI r) inf (nI ct) ++ ([(oa, .inl (ok, 1, .inr (.inl ou)))])) s.heap.size = A at hD ⊢
  have hA : ∀ q : Nat, s.heap.size ≤ q → A q := fun q h => by rw [← hAe]; exact Or.inr h
  have hS : va_S A s.heap s.heap [] := va_S.rf
  have hP : va_P (dC, dI) vwCl (gcW h kc f1 f2 dr cl tr se (nI g) (nI r) inf (nI ct) ++ ([(oa, .inl (ok, 1, .inr (.inl ou)))])) s.heap := hP
  have hin0 : ∀ w ∈ wsX00, w ∈ wsL_reach := by decide +kernel
  have hl := lv_entry [.ref (h 0), .int (nI wa), .ref oa] (n := 4) (Nat.le_of_ble_eq_true rfl)
  rw [lg_entry_eq]
  generalize (lg_sl [.ref (h 0), .int (nI wa), .ref oa] ++ List.replicate (4 - (lg_sl [.ref (h 0), .int (nI wa), .ref oa]).length) Slot.unset).toArray = ls at hl ⊢
  have hl : lv_has ls 4 [(0, .ref (h 0)), (1, .int (nI wa)), (2, .ref oa)] := hl
  refine lv_aload_n hx hb dL_reach_0 rfl (lv_at hl 2 rfl) ?_
  refine lv_iconst (v := 0) hx hb dL_reach_1 (by decide) ?_
  refine lv_aload_n hx hb dL_reach_2 rfl (lv_at hl 0 rfl) ?_
  refine lv_iload_n hx hb dL_reach_3 rfl (lv_at hl 1 rfl) ?_
  have hPc : va_P (dC, dI) vwCl (gcW h kc f1 f2 dr cl tr se (nI g) (nI r) inf (nI ct)) _ := hP.sub [0, 1, 2, 3, 4, 5, 6] rfl
  have hKc : va_K (dC, dI) vwCl (gcT kc) s := hK.sub [0, 1, 2, 3, 4, 5] rfl
  refine va_calli (va_runV (As := [.int (nI wa)]) (rest := [.int 0, .ref oa]) ⟨hx, hb, hml, hown, hts⟩ (c_X0_reach l dC dI h kc f1 f2 dr cl tr se g r inf ct wa (by first | assumption | omega) (by first | assumption | omega)) (cwV 1 hts gL_reach_X0_reach rfl rfl rfl (by decide +kernel) ⟨Nat.le_of_ble_eq_true rfl, Nat.le_of_ble_eq_true rfl⟩) ⟨gcPR_blind, va_recv hK hP (ci := 0) (q0 := 0) rfl rfl, fun U hU hW => ⟨rfl, by rw [hU]; exact hPc, va_K.moved hW.alike hKc⟩⟩ rfl rfl hl.1 rfl (lv_room (Nat.le_of_ble_eq_true rfl)) dL_reach_4 ⟨Nat.zero_le _, Nat.zero_le _⟩) hS (fun q _ h => h.elim) (fun q h => h.elim) (fun r1 u t H locs ht hvm hw hB hz1 hk1 hS => ?_)
  have hP := gc_keep hP hk1
  have hw : r1 = gAt 20 cl (nI wa) := hw
  subst hw
  clear hw
  clear hB hz1 hk1 ht hvm
  clear hPc hKc
  refine lv_i2l hx hb dL_reach_7 rfl ?_
  refine va_last hx hb hK hP hD hS 7 6 rfl rfl gc_in01 dL_reach_8 (fun H locs hP hD hS => ?_)
  rw [sb_cl0] at hP hD
  have hP : va_P (dC, dI) vwCl (gcW h kc f1 f2 dr cl tr se (nI g) (nI r) inf (nI ct) ++ ([(oa, .inl (ok, 1, .inr (.inl (vp_updL ou 0 ((gAt 20 cl (nI wa)).toInt64)))))])) H := hP
  have hD : va_D A (gcW h kc f1 f2 dr cl tr se (nI g) (nI r) inf (nI ct) ++ ([(oa, .inl (ok, 1, .inr (.inl (vp_updL ou 0 ((gAt 20 cl (nI wa)).toInt64)))))])) := hD
  refine lv_goto (tgt := 15) hx hb dL_reach_9 (by decide) ?_
  refine lv_iconst (v := 0) hx hb dL_reach_15 (by decide) ?_
  have hpost : (0 : Int32) = 0 := by rfl
  exact W.iret (v := 0) hx hb hr (fun t ht hW => ⟨⟨0, (), rfl, hpost, ⟨by rw [ht]; exact hP, hD⟩⟩, hS.F ht⟩) hS.2.2 dL_reach_16
set_option maxHeartbeats 4000000 in
set_option maxRecDepth 100000 in
theorem w_steps (l : Launch) (dC : Nat → ClassId) (dI : Nat → Nat → Nat) (h : Nat → Nat) (kc : Nat → ClassId) (f1 : Nat → Int32) (f2 : Nat → Int32) (dr : Nat → Int32) (cl : Nat → Int32) (tr : Nat → Int32) (se : Nat → Int32) (g : Nat) (r : Nat) (inf : Int32) (ct : Nat) (oa : Nat) (ok : ClassId) (ou : Nat → Int64) (wa : Nat) (wb : Nat) (sz : Nat) (hg : g ≤ 10) (ha : wa < 2 * g) (hb2 : wb < 2 * g) : Met l yL_steps wsL_steps ({ frames := 3, cells := 0, slots := 0, locals := 68 }) (gcPM (dC, dI) [.ref (h 0), .int (nI wa), .int (nI wb), .ref oa] (gcW h kc f1 f2 dr cl tr se (nI g) (nI r) inf (nI ct) ++ ([(oa, .inl (ok, 1, .inr (.inl ou)))])) (gcT kc ++ ([(ok, .long)])) sz) (va_Qi (fun (rv : Int32) (_u : Unit) => rv = 0) (fun _u t9 => va_P (dC, dI) vwCl (gcW h kc f1 f2 dr cl tr se (nI g) (nI r) inf (nI ct) ++ ([(oa, .inl (ok, 1, .inr (.inl (vp_updL ou 0 ((gStp dr g wa wb).toInt64)))))])) t9.heap ∧ va_D (va_A (gcW h kc f1 f2 dr cl tr se (nI g) (nI r) inf (nI ct) ++ ([(oa, .inl (ok, 1, .inr (.inl ou)))])) sz) (gcW h kc f1 f2 dr cl tr se (nI g) (nI r) inf (nI ct) ++ ([(oa, .inl (ok, 1, .inr (.inl (vp_updL ou 0 ((gStp dr g wa wb).toInt64)))))]))) (va_A (gcW h kc f1 f2 dr cl tr se (nI g) (nI r) inf (nI ct) ++ ([(oa, .inl (ok, 1, .inr (.inl ou)))])) sz)) 0 0 (va_A (gcW h kc f1 f2 dr cl tr se (nI g) (nI r) inf (nI ct) ++ ([(oa, .inl (ok, 1, .inr (.inl ou)))])) sz) := by
  refine va_MetW (cc := cL_steps) (maxL := 5) (ret := (some .int)) (by decide) rfl ?_
  intro p e s m args below meth c s₁ B hml hv
  obtain ⟨rfl, hsz, hP, hK, hD0⟩ := hv
  have hx := B.exec
  have hb := B.bytes
  have hr := B.returns
  have hts := atoms_spec (ws := wsL_steps) B.pre
  have hown : s.vm.findClass RL = some m.cls := findClass_of_methodNamed B.named
  have hlocks := B.notSynchronized
  subst hsz
  have hD := hD0.self (sz := s.heap.size)
  generalize hAe : va_A (gcW h kc f1 f2 dr cl tr se (nI g) (nI r) inf (nI ct) ++ ([(oa, .inl (ok, 1, .inr (.inl ou)))])) s.heap.size = A at hD ⊢
  have hA : ∀ q : Nat, s.heap.size ≤ q → A q := fun q h => by rw [← hAe]; exact Or.inr h
  have hS : va_S A s.heap s.heap [] := va_S.rf
  have hP : va_P (dC, dI) vwCl (gcW h kc f1 f2 dr cl tr se (nI g) (nI r) inf (nI ct) ++ ([(oa, .inl (ok, 1, .inr (.inl ou)))])) s.heap := hP
  have hin0 : ∀ w ∈ wsX00, w ∈ wsL_steps := by decide +kernel
  have hl := lv_entry [.ref (h 0), .int (nI wa), .int (nI wb), .ref oa] (n := 5) (Nat.le_of_ble_eq_true rfl)
  rw [lg_entry_eq]
  generalize (lg_sl [.ref (h 0), .int (nI wa), .int (nI wb), .ref oa] ++ List.replicate (5 - (lg_sl [.ref (h 0), .int (nI wa), .int (nI wb), .ref oa]).length) Slot.unset).toArray = ls at hl ⊢
  have hl : lv_has ls 5 [(0, .ref (h 0)), (1, .int (nI wa)), (2, .int (nI wb)), (3, .ref oa)] := hl
  refine lv_aload_n hx hb dL_steps_0 rfl (lv_at hl 3 rfl) ?_
  refine lv_iconst (v := 0) hx hb dL_steps_1 (by decide) ?_
  refine lv_aload_n hx hb dL_steps_2 rfl (lv_at hl 0 rfl) ?_
  refine lv_iload_n hx hb dL_steps_3 rfl (lv_at hl 1 rfl) ?_
  refine lv_iload_n hx hb dL_steps_4 rfl (lv_at hl 2 rfl) ?_
  have hPc : va_P (dC, dI) vwCl (gcW h kc f1 f2 dr cl tr se (nI g) (nI r) inf (nI ct)) _ := hP.sub [0, 1, 2, 3, 4, 5, 6] rfl
  have hKc : va_K (dC, dI) vwCl (gcT kc) s := hK.sub [0, 1, 2, 3, 4, 5] rfl
  refine va_calli (va_runV (As := [.int (nI wa), .int (nI wb)]) (rest := [.int 0, .ref oa]) ⟨hx, hb, hml, hown, hts⟩ (c_X0_stepsB l dC dI h kc f1 f2 dr cl tr se g r inf ct wa wb (by first | assumption | omega) (by first | assumption | omega) (by first | assumption | omega)) (cwV 2 hts gL_steps_X0_steps rfl rfl rfl (by decide +kernel) ⟨Nat.le_of_ble_eq_true rfl, Nat.le_of_ble_eq_true rfl⟩) ⟨gcPR_blind, va_recv hK hP (ci := 0) (q0 := 0) rfl rfl, fun U hU hW => ⟨rfl, by rw [hU]; exact hPc, va_K.moved hW.alike hKc⟩⟩ rfl rfl hl.1 rfl (lv_room (Nat.le_of_ble_eq_true rfl)) dL_steps_5 ⟨Nat.zero_le _, Nat.zero_le _⟩) hS (fun q _ h => h.elim) (fun q h => h.elim) (fun r1 u t H locs ht hvm hw hB hz1 hk1 hS => ?_)
  have hP := gc_keep hP hk1
  have hw : r1 = gStp dr g wa wb := hw
  subst hw
  clear hw
  clear hB hz1 hk1 ht hvm
  clear hPc hKc
  refine lv_i2l hx hb dL_steps_8 rfl ?_
  refine va_last hx hb hK hP hD hS 7 6 rfl rfl gc_in01 dL_steps_9 (fun H locs hP hD hS => ?_)
  rw [sb_cl0] at hP hD
  have hP : va_P (dC, dI) vwCl (gcW h kc f1 f2 dr cl tr se (nI g) (nI r) inf (nI ct) ++ ([(oa, .inl (ok, 1, .inr (.inl (vp_updL ou 0 ((gStp dr g wa wb).toInt64)))))])) H := hP
  have hD : va_D A (gcW h kc f1 f2 dr cl tr se (nI g) (nI r) inf (nI ct) ++ ([(oa, .inl (ok, 1, .inr (.inl (vp_updL ou 0 ((gStp dr g wa wb).toInt64)))))])) := hD
  refine lv_goto (tgt := 17) hx hb dL_steps_10 (by decide) ?_
  refine lv_iconst (v := 0) hx hb dL_steps_17 (by decide) ?_
  have hpost : (0 : Int32) = 0 := by rfl
  exact W.iret (v := 0) hx hb hr (fun t ht hW => ⟨⟨0, (), rfl, hpost, ⟨by rw [ht]; exact hP, hD⟩⟩, hS.F ht⟩) hS.2.2 dL_steps_18
set_option maxHeartbeats 4000000 in
set_option maxRecDepth 100000 in
theorem w_guest (l : Launch) (dC : Nat → ClassId) (dI : Nat → Nat → Nat) (h : Nat → Nat) (kc : Nat → ClassId) (f1 : Nat → Int32) (f2 : Nat → Int32) (dr : Nat → Int32) (cl : Nat → Int32) (tr : Nat → Int32) (se : Nat → Int32) (g : Nat) (r : Nat) (inf : Int32) (ct : Nat) (oa : Nat) (ok : ClassId) (ou : Nat → Int64) (x : Nat) (w : Nat) (sz : Nat) (hg : g ≤ 10) (hc : ct ≤ 1024) (hft : gFt cl g = decide (0 < ct)) (hx2 : x < g) (hw : w < 4) : Met l yL_guest wsL_guest ({ frames := 4, cells := 0, slots := 0, locals := 86 }) (gcPM (dC, dI) [.ref (h 0), .int (nI x), .int (nI w), .ref oa] (gcW h kc f1 f2 dr cl tr se (nI g) (nI r) inf (nI ct) ++ ([(oa, .inl (ok, 1, .inr (.inl ou)))])) (gcT kc ++ ([(ok, .long)])) sz) (va_Qi (fun (rv : Int32) (_u : Unit) => rv = 0) (fun _u t9 => va_P (dC, dI) vwCl (gcW h kc f1 f2 dr cl tr se (nI g) (nI r) inf (nI ct) ++ ([(oa, .inl (ok, 1, .inr (.inl (vp_updL ou 0 ((gGu cl g x w).toInt64)))))])) t9.heap ∧ va_D (va_A (gcW h kc f1 f2 dr cl tr se (nI g) (nI r) inf (nI ct) ++ ([(oa, .inl (ok, 1, .inr (.inl ou)))])) sz) (gcW h kc f1 f2 dr cl tr se (nI g) (nI r) inf (nI ct) ++ ([(oa, .inl (ok, 1, .inr (.inl (vp_updL ou 0 ((gGu cl g x w).toInt64)))))]))) (va_A (gcW h kc f1 f2 dr cl tr se (nI g) (nI r) inf (nI ct) ++ ([(oa, .inl (ok, 1, .inr (.inl ou)))])) sz)) 0 0 (va_A (gcW h kc f1 f2 dr cl tr se (nI g) (nI r) inf (nI ct) ++ ([(oa, .inl (ok, 1, .inr (.inl ou)))])) sz) := by
  refine va_MetW (cc := cL_guest) (maxL := 5) (ret := (some .int)) (by decide) rfl ?_
  intro p e s m args below meth c s₁ B hml hv
  obtain ⟨rfl, hsz, hP, hK, hD0⟩ := hv
  have hx := B.exec
  have hb := B.bytes
  have hr := B.returns
  have hts := atoms_spec (ws := wsL_guest) B.pre
  have hown : s.vm.findClass RL = some m.cls := findClass_of_methodNamed B.named
  have hlocks := B.notSynchronized
  subst hsz
  have hD := hD0.self (sz := s.heap.size)
  generalize hAe : va_A (gcW h kc f1 f2 dr cl tr se (nI g) (nI r) inf (nI ct) ++ ([(oa, .inl (ok, 1, .inr (.inl ou)))])) s.heap.size = A at hD ⊢
  have hA : ∀ q : Nat, s.heap.size ≤ q → A q := fun q h => by rw [← hAe]; exact Or.inr h
  have hS : va_S A s.heap s.heap [] := va_S.rf
  have hP : va_P (dC, dI) vwCl (gcW h kc f1 f2 dr cl tr se (nI g) (nI r) inf (nI ct) ++ ([(oa, .inl (ok, 1, .inr (.inl ou)))])) s.heap := hP
  have hin0 : ∀ w ∈ wsX00, w ∈ wsL_guest := by decide +kernel
  have hl := lv_entry [.ref (h 0), .int (nI x), .int (nI w), .ref oa] (n := 5) (Nat.le_of_ble_eq_true rfl)
  rw [lg_entry_eq]
  generalize (lg_sl [.ref (h 0), .int (nI x), .int (nI w), .ref oa] ++ List.replicate (5 - (lg_sl [.ref (h 0), .int (nI x), .int (nI w), .ref oa]).length) Slot.unset).toArray = ls at hl ⊢
  have hl : lv_has ls 5 [(0, .ref (h 0)), (1, .int (nI x)), (2, .int (nI w)), (3, .ref oa)] := hl
  refine lv_aload_n hx hb dL_guest_0 rfl (lv_at hl 3 rfl) ?_
  refine lv_iconst (v := 0) hx hb dL_guest_1 (by decide) ?_
  refine lv_aload_n hx hb dL_guest_2 rfl (lv_at hl 0 rfl) ?_
  refine lv_iload_n hx hb dL_guest_3 rfl (lv_at hl 1 rfl) ?_
  refine lv_iload_n hx hb dL_guest_4 rfl (lv_at hl 2 rfl) ?_
  have hPc : va_P (dC, dI) vwCl (gcW h kc f1 f2 dr cl tr se (nI g) (nI r) inf (nI ct)) _ := hP.sub [0, 1, 2, 3, 4, 5, 6] rfl
  have hKc : va_K (dC, dI) vwCl (gcT kc) s := hK.sub [0, 1, 2, 3, 4, 5] rfl
  refine va_calli (va_runV (As := [.int (nI x), .int (nI w)]) (rest := [.int 0, .ref oa]) ⟨hx, hb, hml, hown, hts⟩ (c_X0_guest l dC dI h kc f1 f2 dr cl tr se g r inf ct x w (by first | assumption | omega) (by first | assumption | omega) (by first | assumption | omega) (by first | assumption | omega) (by first | assumption | omega)) (cwV 2 hts gL_guest_X0_guest rfl rfl rfl (by decide +kernel) ⟨Nat.le_of_ble_eq_true rfl, Nat.le_of_ble_eq_true rfl⟩) ⟨gcPR_blind, va_recv hK hP (ci := 0) (q0 := 0) rfl rfl, fun U hU hW => ⟨rfl, by rw [hU]; exact hPc, va_K.moved hW.alike hKc⟩⟩ rfl rfl hl.1 rfl (lv_room (Nat.le_of_ble_eq_true rfl)) dL_guest_5 ⟨Nat.zero_le _, Nat.zero_le _⟩) hS (fun q _ h => h.elim) (fun q h => h.elim) (fun r1 u t H locs ht hvm hw hB hz1 hk1 hS => ?_)
  have hP := gc_keep hP hk1
  have hw : r1 = gGu cl g x w := hw
  subst hw
  clear hw
  clear hB hz1 hk1 ht hvm
  clear hPc hKc
  refine lv_i2l hx hb dL_guest_8 rfl ?_
  refine va_last hx hb hK hP hD hS 7 6 rfl rfl gc_in01 dL_guest_9 (fun H locs hP hD hS => ?_)
  rw [sb_cl0] at hP hD
  have hP : va_P (dC, dI) vwCl (gcW h kc f1 f2 dr cl tr se (nI g) (nI r) inf (nI ct) ++ ([(oa, .inl (ok, 1, .inr (.inl (vp_updL ou 0 ((gGu cl g x w).toInt64)))))])) H := hP
  have hD : va_D A (gcW h kc f1 f2 dr cl tr se (nI g) (nI r) inf (nI ct) ++ ([(oa, .inl (ok, 1, .inr (.inl (vp_updL ou 0 ((gGu cl g x w).toInt64)))))])) := hD
  refine lv_goto (tgt := 17) hx hb dL_guest_10 (by decide) ?_
  refine lv_iconst (v := 0) hx hb dL_guest_17 (by decide) ?_
  have hpost : (0 : Int32) = 0 := by rfl
  exact W.iret (v := 0) hx hb hr (fun t ht hW => ⟨⟨0, (), rfl, hpost, ⟨by rw [ht]; exact hP, hD⟩⟩, hS.F ht⟩) hS.2.2 dL_guest_18
set_option maxHeartbeats 4000000 in
set_option maxRecDepth 100000 in
theorem w_broken (l : Launch) (dC : Nat → ClassId) (dI : Nat → Nat → Nat) (h : Nat → Nat) (kc : Nat → ClassId) (f1 : Nat → Int32) (f2 : Nat → Int32) (dr : Nat → Int32) (cl : Nat → Int32) (tr : Nat → Int32) (se : Nat → Int32) (g : Nat) (r : Nat) (inf : Int32) (ct : Nat) (oa : Nat) (ok : ClassId) (ou : Nat → Int64) (S : Nat) (sz : Nat) (hg : g ≤ 10) (hr30 : r ≤ 30) (hSg : S < 2 ^ g) : Met l yL_broken wsL_broken ({ frames := 3, cells := 0, slots := 0, locals := 65 }) (gcPM (dC, dI) [.ref (h 0), .int (nI S), .ref oa] (gcW h kc f1 f2 dr cl tr se (nI g) (nI r) inf (nI ct) ++ ([(oa, .inl (ok, 1, .inr (.inl ou)))])) (gcT kc ++ ([(ok, .long)])) sz) (va_Qi (fun (rv : Int32) (_u : Unit) => rv = 0) (fun _u t9 => va_P (dC, dI) vwCl (gcW h kc f1 f2 dr cl tr se (nI g) (nI r) inf (nI ct) ++ ([(oa, .inl (ok, 1, .inr (.inl (vp_updL ou 0 ((gFst (gBr f1 f2 inf (nI S)) r).toInt64)))))])) t9.heap ∧ va_D (va_A (gcW h kc f1 f2 dr cl tr se (nI g) (nI r) inf (nI ct) ++ ([(oa, .inl (ok, 1, .inr (.inl ou)))])) sz) (gcW h kc f1 f2 dr cl tr se (nI g) (nI r) inf (nI ct) ++ ([(oa, .inl (ok, 1, .inr (.inl (vp_updL ou 0 ((gFst (gBr f1 f2 inf (nI S)) r).toInt64)))))]))) (va_A (gcW h kc f1 f2 dr cl tr se (nI g) (nI r) inf (nI ct) ++ ([(oa, .inl (ok, 1, .inr (.inl ou)))])) sz)) 0 0 (va_A (gcW h kc f1 f2 dr cl tr se (nI g) (nI r) inf (nI ct) ++ ([(oa, .inl (ok, 1, .inr (.inl ou)))])) sz) := by
  refine va_MetW (cc := cL_broken) (maxL := 4) (ret := (some .int)) (by decide) rfl ?_
  intro p e s m args below meth c s₁ B hml hv
  obtain ⟨rfl, hsz, hP, hK, hD0⟩ := hv
  have hx := B.exec
  have hb := B.bytes
  have hr := B.returns
  have hts := atoms_spec (ws := wsL_broken) B.pre
  have hown : s.vm.findClass RL = some m.cls := findClass_of_methodNamed B.named
  have hlocks := B.notSynchronized
  subst hsz
  have hD := hD0.self (sz := s.heap.size)
  generalize hAe : va_A (gcW h kc f1 f2 dr cl tr se (nI g) (nI r) inf (nI ct) ++ ([(oa, .inl (ok, 1, .inr (.inl ou)))])) s.heap.size = A at hD ⊢
  have hA : ∀ q : Nat, s.heap.size ≤ q → A q := fun q h => by rw [← hAe]; exact Or.inr h
  have hS : va_S A s.heap s.heap [] := va_S.rf
  have hP : va_P (dC, dI) vwCl (gcW h kc f1 f2 dr cl tr se (nI g) (nI r) inf (nI ct) ++ ([(oa, .inl (ok, 1, .inr (.inl ou)))])) s.heap := hP
  have hin0 : ∀ w ∈ wsX00, w ∈ wsL_broken := by decide +kernel
  have hl := lv_entry [.ref (h 0), .int (nI S), .ref oa] (n := 4) (Nat.le_of_ble_eq_true rfl)
  rw [lg_entry_eq]
  generalize (lg_sl [.ref (h 0), .int (nI S), .ref oa] ++ List.replicate (4 - (lg_sl [.ref (h 0), .int (nI S), .ref oa]).length) Slot.unset).toArray = ls at hl ⊢
  have hl : lv_has ls 4 [(0, .ref (h 0)), (1, .int (nI S)), (2, .ref oa)] := hl
  refine lv_aload_n hx hb dL_broken_0 rfl (lv_at hl 2 rfl) ?_
  refine lv_iconst (v := 0) hx hb dL_broken_1 (by decide) ?_
  refine lv_aload_n hx hb dL_broken_2 rfl (lv_at hl 0 rfl) ?_
  refine lv_iload_n hx hb dL_broken_3 rfl (lv_at hl 1 rfl) ?_
  have hPc : va_P (dC, dI) vwCl (gcW h kc f1 f2 dr cl tr se (nI g) (nI r) inf (nI ct)) _ := hP.sub [0, 1, 2, 3, 4, 5, 6] rfl
  have hKc : va_K (dC, dI) vwCl (gcT kc) s := hK.sub [0, 1, 2, 3, 4, 5] rfl
  refine va_calli (va_runV (As := [.int (nI S)]) (rest := [.int 0, .ref oa]) ⟨hx, hb, hml, hown, hts⟩ (c_X0_broken l dC dI h kc f1 f2 dr cl tr se g r inf ct S (by first | assumption | omega) (by first | assumption | omega) (by first | assumption | omega)) (cwV 1 hts gL_broken_X0_broken rfl rfl rfl (by decide +kernel) ⟨Nat.le_of_ble_eq_true rfl, Nat.le_of_ble_eq_true rfl⟩) ⟨gcPR_blind, va_recv hK hP (ci := 0) (q0 := 0) rfl rfl, fun U hU hW => ⟨rfl, by rw [hU]; exact hPc, va_K.moved hW.alike hKc⟩⟩ rfl rfl hl.1 rfl (lv_room (Nat.le_of_ble_eq_true rfl)) dL_broken_4 ⟨Nat.zero_le _, Nat.zero_le _⟩) hS (fun q _ h => h.elim) (fun q h => h.elim) (fun r1 u t H locs ht hvm hw hB hz1 hk1 hS => ?_)
  have hP := gc_keep hP hk1
  have hw : r1 = gFst (gBr f1 f2 inf (nI S)) r := hw
  subst hw
  clear hw
  clear hB hz1 hk1 ht hvm
  clear hPc hKc
  refine lv_i2l hx hb dL_broken_7 rfl ?_
  refine va_last hx hb hK hP hD hS 7 6 rfl rfl gc_in01 dL_broken_8 (fun H locs hP hD hS => ?_)
  rw [sb_cl0] at hP hD
  have hP : va_P (dC, dI) vwCl (gcW h kc f1 f2 dr cl tr se (nI g) (nI r) inf (nI ct) ++ ([(oa, .inl (ok, 1, .inr (.inl (vp_updL ou 0 ((gFst (gBr f1 f2 inf (nI S)) r).toInt64)))))])) H := hP
  have hD : va_D A (gcW h kc f1 f2 dr cl tr se (nI g) (nI r) inf (nI ct) ++ ([(oa, .inl (ok, 1, .inr (.inl (vp_updL ou 0 ((gFst (gBr f1 f2 inf (nI S)) r).toInt64)))))])) := hD
  refine lv_goto (tgt := 15) hx hb dL_broken_9 (by decide) ?_
  refine lv_iconst (v := 0) hx hb dL_broken_15 (by decide) ?_
  have hpost : (0 : Int32) = 0 := by rfl
  exact W.iret (v := 0) hx hb hr (fun t ht hW => ⟨⟨0, (), rfl, hpost, ⟨by rw [ht]; exact hP, hD⟩⟩, hS.F ht⟩) hS.2.2 dL_broken_16
set_option maxHeartbeats 4000000 in
set_option maxRecDepth 100000 in
theorem w_tightens (l : Launch) (dC : Nat → ClassId) (dI : Nat → Nat → Nat) (h : Nat → Nat) (kc : Nat → ClassId) (f1 : Nat → Int32) (f2 : Nat → Int32) (dr : Nat → Int32) (cl : Nat → Int32) (tr : Nat → Int32) (se : Nat → Int32) (g : Nat) (r : Nat) (inf : Int32) (ct : Nat) (oa : Nat) (ok : ClassId) (ou : Nat → Int64) (wa : Nat) (wb : Nat) (sz : Nat) (hg : g ≤ 10) (hc : ct ≤ 1024) (ha : wa < 2 * g) (hb2 : wb < 2 * g) : Met l yL_tightens wsL_tightens ({ frames := 3, cells := 0, slots := 0, locals := 67 }) (gcPM (dC, dI) [.ref (h 0), .int (nI wa), .int (nI wb), .ref oa] (gcW h kc f1 f2 dr cl tr se (nI g) (nI r) inf (nI ct) ++ ([(oa, .inl (ok, 1, .inr (.inl ou)))])) (gcT kc ++ ([(ok, .long)])) sz) (va_Qi (fun (rv : Int32) (_u : Unit) => rv = 0) (fun _u t9 => va_P (dC, dI) vwCl (gcW h kc f1 f2 dr cl tr se (nI g) (nI r) inf (nI ct) ++ ([(oa, .inl (ok, 1, .inr (.inl (vp_updL ou 0 ((nI (gTi se (nI wa) (nI wb) ct)).toInt64)))))])) t9.heap ∧ va_D (va_A (gcW h kc f1 f2 dr cl tr se (nI g) (nI r) inf (nI ct) ++ ([(oa, .inl (ok, 1, .inr (.inl ou)))])) sz) (gcW h kc f1 f2 dr cl tr se (nI g) (nI r) inf (nI ct) ++ ([(oa, .inl (ok, 1, .inr (.inl (vp_updL ou 0 ((nI (gTi se (nI wa) (nI wb) ct)).toInt64)))))]))) (va_A (gcW h kc f1 f2 dr cl tr se (nI g) (nI r) inf (nI ct) ++ ([(oa, .inl (ok, 1, .inr (.inl ou)))])) sz)) 0 0 (va_A (gcW h kc f1 f2 dr cl tr se (nI g) (nI r) inf (nI ct) ++ ([(oa, .inl (ok, 1, .inr (.inl ou)))])) sz) := by
  refine va_MetW (cc := cL_tightens) (maxL := 5) (ret := (some .int)) (by decide) rfl ?_
  intro p e s m args below meth c s₁ B hml hv
  obtain ⟨rfl, hsz, hP, hK, hD0⟩ := hv
  have hx := B.exec
  have hb := B.bytes
  have hr := B.returns
  have hts := atoms_spec (ws := wsL_tightens) B.pre
  have hown : s.vm.findClass RL = some m.cls := findClass_of_methodNamed B.named
  have hlocks := B.notSynchronized
  subst hsz
  have hD := hD0.self (sz := s.heap.size)
  generalize hAe : va_A (gcW h kc f1 f2 dr cl tr se (nI g) (nI r) inf (nI ct) ++ ([(oa, .inl (ok, 1, .inr (.inl ou)))])) s.heap.size = A at hD ⊢
  have hA : ∀ q : Nat, s.heap.size ≤ q → A q := fun q h => by rw [← hAe]; exact Or.inr h
  have hS : va_S A s.heap s.heap [] := va_S.rf
  have hP : va_P (dC, dI) vwCl (gcW h kc f1 f2 dr cl tr se (nI g) (nI r) inf (nI ct) ++ ([(oa, .inl (ok, 1, .inr (.inl ou)))])) s.heap := hP
  have hin0 : ∀ w ∈ wsX00, w ∈ wsL_tightens := by decide +kernel
  have hl := lv_entry [.ref (h 0), .int (nI wa), .int (nI wb), .ref oa] (n := 5) (Nat.le_of_ble_eq_true rfl)
  rw [lg_entry_eq]
  generalize (lg_sl [.ref (h 0), .int (nI wa), .int (nI wb), .ref oa] ++ List.replicate (5 - (lg_sl [.ref (h 0), .int (nI wa), .int (nI wb), .ref oa]).length) Slot.unset).toArray = ls at hl ⊢
  have hl : lv_has ls 5 [(0, .ref (h 0)), (1, .int (nI wa)), (2, .int (nI wb)), (3, .ref oa)] := hl
  refine lv_aload_n hx hb dL_tightens_0 rfl (lv_at hl 3 rfl) ?_
  refine lv_iconst (v := 0) hx hb dL_tightens_1 (by decide) ?_
  refine lv_aload_n hx hb dL_tightens_2 rfl (lv_at hl 0 rfl) ?_
  refine lv_iload_n hx hb dL_tightens_3 rfl (lv_at hl 1 rfl) ?_
  refine lv_iload_n hx hb dL_tightens_4 rfl (lv_at hl 2 rfl) ?_
  have hPc : va_P (dC, dI) vwCl (gcW h kc f1 f2 dr cl tr se (nI g) (nI r) inf (nI ct)) _ := hP.sub [0, 1, 2, 3, 4, 5, 6] rfl
  have hKc : va_K (dC, dI) vwCl (gcT kc) s := hK.sub [0, 1, 2, 3, 4, 5] rfl
  refine va_calli (va_runV (As := [.int (nI wa), .int (nI wb)]) (rest := [.int 0, .ref oa]) ⟨hx, hb, hml, hown, hts⟩ (c_X0_tightens l dC dI h kc f1 f2 dr cl tr se g r inf ct wa wb (by first | assumption | omega) (by first | assumption | omega) (by first | assumption | omega) (by first | assumption | omega)) (cwV 2 hts gL_tightens_X0_tightens rfl rfl rfl (by decide +kernel) ⟨Nat.le_of_ble_eq_true rfl, Nat.le_of_ble_eq_true rfl⟩) ⟨gcPR_blind, va_recv hK hP (ci := 0) (q0 := 0) rfl rfl, fun U hU hW => ⟨rfl, by rw [hU]; exact hPc, va_K.moved hW.alike hKc⟩⟩ rfl rfl hl.1 rfl (lv_room (Nat.le_of_ble_eq_true rfl)) dL_tightens_5 ⟨Nat.zero_le _, Nat.zero_le _⟩) hS (fun q _ h => h.elim) (fun q h => h.elim) (fun r1 u t H locs ht hvm hw hB hz1 hk1 hS => ?_)
  have hP := gc_keep hP hk1
  have hw : r1 = nI (gTi se (nI wa) (nI wb) ct) := hw
  subst hw
  clear hw
  clear hB hz1 hk1 ht hvm
  clear hPc hKc
  refine lv_i2l hx hb dL_tightens_8 rfl ?_
  refine va_last hx hb hK hP hD hS 7 6 rfl rfl gc_in01 dL_tightens_9 (fun H locs hP hD hS => ?_)
  rw [sb_cl0] at hP hD
  have hP : va_P (dC, dI) vwCl (gcW h kc f1 f2 dr cl tr se (nI g) (nI r) inf (nI ct) ++ ([(oa, .inl (ok, 1, .inr (.inl (vp_updL ou 0 ((nI (gTi se (nI wa) (nI wb) ct)).toInt64)))))])) H := hP
  have hD : va_D A (gcW h kc f1 f2 dr cl tr se (nI g) (nI r) inf (nI ct) ++ ([(oa, .inl (ok, 1, .inr (.inl (vp_updL ou 0 ((nI (gTi se (nI wa) (nI wb) ct)).toInt64)))))])) := hD
  refine lv_goto (tgt := 17) hx hb dL_tightens_10 (by decide) ?_
  refine lv_iconst (v := 0) hx hb dL_tightens_17 (by decide) ?_
  have hpost : (0 : Int32) = 0 := by rfl
  exact W.iret (v := 0) hx hb hr (fun t ht hW => ⟨⟨0, (), rfl, hpost, ⟨by rw [ht]; exact hP, hD⟩⟩, hS.F ht⟩) hS.2.2 dL_tightens_18
set_option maxHeartbeats 4000000 in
set_option maxRecDepth 100000 in
theorem w_count (l : Launch) (dC : Nat → ClassId) (dI : Nat → Nat → Nat) (h : Nat → Nat) (kc : Nat → ClassId) (f1 : Nat → Int32) (f2 : Nat → Int32) (dr : Nat → Int32) (cl : Nat → Int32) (tr : Nat → Int32) (se : Nat → Int32) (g : Nat) (r : Nat) (inf : Int32) (ct : Nat) (oa : Nat) (ok : ClassId) (ou : Nat → Int64) (w : Nat) (sz : Nat) (hg : g ≤ 10) (hw : w < 6) : Met l yL_count wsL_count ({ frames := 5, cells := 0, slots := 0, locals := 107 }) (gcPM (dC, dI) [.ref (h 0), .int (nI w), .ref oa] (gcW h kc f1 f2 dr cl tr se (nI g) (nI r) inf (nI ct) ++ ([(oa, .inl (ok, 1, .inr (.inl ou)))])) (gcT kc ++ ([(ok, .long)])) sz) (va_Qi (fun (rv : Int32) (_u : Unit) => rv = 0) (fun _u t9 => va_P (dC, dI) vwCl (gcW h kc f1 f2 dr cl tr se (nI g) (nI r) inf (nI ct) ++ ([(oa, .inl (ok, 1, .inr (.inl (vp_updL ou 0 ((gCo cl g r inf w).toInt64)))))])) t9.heap ∧ va_D (va_A (gcW h kc f1 f2 dr cl tr se (nI g) (nI r) inf (nI ct) ++ ([(oa, .inl (ok, 1, .inr (.inl ou)))])) sz) (gcW h kc f1 f2 dr cl tr se (nI g) (nI r) inf (nI ct) ++ ([(oa, .inl (ok, 1, .inr (.inl (vp_updL ou 0 ((gCo cl g r inf w).toInt64)))))]))) (va_A (gcW h kc f1 f2 dr cl tr se (nI g) (nI r) inf (nI ct) ++ ([(oa, .inl (ok, 1, .inr (.inl ou)))])) sz)) 0 0 (va_A (gcW h kc f1 f2 dr cl tr se (nI g) (nI r) inf (nI ct) ++ ([(oa, .inl (ok, 1, .inr (.inl ou)))])) sz) := by
  refine va_MetW (cc := cL_count) (maxL := 4) (ret := (some .int)) (by decide) rfl ?_
  intro p e s m args below meth c s₁ B hml hv
  obtain ⟨rfl, hsz, hP, hK, hD0⟩ := hv
  have hx := B.exec
  have hb := B.bytes
  have hr := B.returns
  have hts := atoms_spec (ws := wsL_count) B.pre
  have hown : s.vm.findClass RL = some m.cls := findClass_of_methodNamed B.named
  have hlocks := B.notSynchronized
  subst hsz
  have hD := hD0.self (sz := s.heap.size)
  generalize hAe : va_A (gcW h kc f1 f2 dr cl tr se (nI g) (nI r) inf (nI ct) ++ ([(oa, .inl (ok, 1, .inr (.inl ou)))])) s.heap.size = A at hD ⊢
  have hA : ∀ q : Nat, s.heap.size ≤ q → A q := fun q h => by rw [← hAe]; exact Or.inr h
  have hS : va_S A s.heap s.heap [] := va_S.rf
  have hP : va_P (dC, dI) vwCl (gcW h kc f1 f2 dr cl tr se (nI g) (nI r) inf (nI ct) ++ ([(oa, .inl (ok, 1, .inr (.inl ou)))])) s.heap := hP
  have hin0 : ∀ w ∈ wsX00, w ∈ wsL_count := by decide +kernel
  have hl := lv_entry [.ref (h 0), .int (nI w), .ref oa] (n := 4) (Nat.le_of_ble_eq_true rfl)
  rw [lg_entry_eq]
  generalize (lg_sl [.ref (h 0), .int (nI w), .ref oa] ++ List.replicate (4 - (lg_sl [.ref (h 0), .int (nI w), .ref oa]).length) Slot.unset).toArray = ls at hl ⊢
  have hl : lv_has ls 4 [(0, .ref (h 0)), (1, .int (nI w)), (2, .ref oa)] := hl
  refine lv_aload_n hx hb dL_count_0 rfl (lv_at hl 2 rfl) ?_
  refine lv_iconst (v := 0) hx hb dL_count_1 (by decide) ?_
  refine lv_aload_n hx hb dL_count_2 rfl (lv_at hl 0 rfl) ?_
  refine lv_iload_n hx hb dL_count_3 rfl (lv_at hl 1 rfl) ?_
  have hPc : va_P (dC, dI) vwCl (gcW h kc f1 f2 dr cl tr se (nI g) (nI r) inf (nI ct)) _ := hP.sub [0, 1, 2, 3, 4, 5, 6] rfl
  have hKc : va_K (dC, dI) vwCl (gcT kc) s := hK.sub [0, 1, 2, 3, 4, 5] rfl
  refine va_calli (va_runV (As := [.int (nI w)]) (rest := [.int 0, .ref oa]) ⟨hx, hb, hml, hown, hts⟩ (c_X0_count l dC dI h kc f1 f2 dr cl tr se g r inf ct w (by first | assumption | omega) (by first | assumption | omega)) (cwV 1 hts gL_count_X0_count rfl rfl rfl (by decide +kernel) ⟨Nat.le_of_ble_eq_true rfl, Nat.le_of_ble_eq_true rfl⟩) ⟨gcPR_blind, va_recv hK hP (ci := 0) (q0 := 0) rfl rfl, fun U hU hW => ⟨rfl, by rw [hU]; exact hPc, va_K.moved hW.alike hKc⟩⟩ rfl rfl hl.1 rfl (lv_room (Nat.le_of_ble_eq_true rfl)) dL_count_4 ⟨Nat.zero_le _, Nat.zero_le _⟩) hS (fun q _ h => h.elim) (fun q h => h.elim) (fun r1 u t H locs ht hvm hw hB hz1 hk1 hS => ?_)
  have hP := gc_keep hP hk1
  have hw : r1 = gCo cl g r inf w := hw
  subst hw
  clear hw
  clear hB hz1 hk1 ht hvm
  clear hPc hKc
  refine lv_i2l hx hb dL_count_7 rfl ?_
  refine va_last hx hb hK hP hD hS 7 6 rfl rfl gc_in01 dL_count_8 (fun H locs hP hD hS => ?_)
  rw [sb_cl0] at hP hD
  have hP : va_P (dC, dI) vwCl (gcW h kc f1 f2 dr cl tr se (nI g) (nI r) inf (nI ct) ++ ([(oa, .inl (ok, 1, .inr (.inl (vp_updL ou 0 ((gCo cl g r inf w).toInt64)))))])) H := hP
  have hD : va_D A (gcW h kc f1 f2 dr cl tr se (nI g) (nI r) inf (nI ct) ++ ([(oa, .inl (ok, 1, .inr (.inl (vp_updL ou 0 ((gCo cl g r inf w).toInt64)))))])) := hD
  refine lv_goto (tgt := 15) hx hb dL_count_9 (by decide) ?_
  refine lv_iconst (v := 0) hx hb dL_count_15 (by decide) ?_
  have hpost : (0 : Int32) = 0 := by rfl
  exact W.iret (v := 0) hx hb hr (fun t ht hW => ⟨⟨0, (), rfl, hpost, ⟨by rw [ht]; exact hP, hD⟩⟩, hS.F ht⟩) hS.2.2 dL_count_16
