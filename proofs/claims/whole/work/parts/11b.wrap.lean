set_option maxHeartbeats 4000000 in
set_option maxRecDepth 100000 in
theorem wx_invite (l : Launch) (hl : l.stackTraces = false) (dC : Nat → ClassId) (dI : Nat → Nat → Nat) (h : Nat → Nat) (kc : Nat → ClassId) (f1 : Nat → Int32) (f2 : Nat → Int32) (dr : Nat → Int32) (cl : Nat → Int32) (tr : Nat → Int32) (se : Nat → Int32) (g : Nat) (r : Nat) (inf : Int32) (ct : Nat) (oa : Nat) (ok : ClassId) (ou : Nat → Int64) (sz : Nat) (hg9 : g = 10) : Met l yL_invite wsL_invite ({ frames := 7, cells := 1, slots := 6, locals := 103 }) (gcPN (dC, dI) [.ref (h 0), .ref oa] (gcW h kc f1 f2 dr cl tr se (nI g) (nI r) inf (nI ct) ++ ([(oa, .inl (ok, 1, .inr (.inl ou)))])) (gcT kc ++ ([(ok, .long)])) sz) (va_Qi (fun (rv : Int32) (_u : Unit) => rv = 1) (fun _u t9 => va_P (dC, dI) vwCl (gcW h kc f1 f2 dr cl tr se (nI g) (nI r) inf (nI ct) ++ ([(oa, .inl (ok, 1, .inr (.inl ou)))])) t9.heap ∧ va_D (va_A (gcW h kc f1 f2 dr cl tr se (nI g) (nI r) inf (nI ct) ++ ([(oa, .inl (ok, 1, .inr (.inl ou)))])) sz) (gcW h kc f1 f2 dr cl tr se (nI g) (nI r) inf (nI ct) ++ ([(oa, .inl (ok, 1, .inr (.inl ou)))]))) (va_A (gcW h kc f1 f2 dr cl tr se (nI g) (nI r) inf (nI ct) ++ ([(oa, .inl (ok, 1, .inr (.inl ou)))])) sz)) 1 6 (va_A (gcW h kc f1 f2 dr cl tr se (nI g) (nI r) inf (nI ct) ++ ([(oa, .inl (ok, 1, .inr (.inl ou)))])) sz) := by
  refine va_MetW (cc := cL_invite) (maxL := 3) (ret := (some .int)) (by decide) rfl ?_
  intro p e s m args below meth c s₁ B hml hv
  obtain ⟨rfl, hsz, hP, hK, hD0, hgX⟩ := hv
  have hx := B.exec
  have hb := B.bytes
  have hr := B.returns
  have hts := atoms_spec (ws := wsL_invite) B.pre
  have hown : s.vm.findClass RL = some m.cls := findClass_of_methodNamed B.named
  have hlocks := B.notSynchronized
  subst hsz
  have hD := hD0.self (sz := s.heap.size)
  generalize hAe : va_A (gcW h kc f1 f2 dr cl tr se (nI g) (nI r) inf (nI ct) ++ ([(oa, .inl (ok, 1, .inr (.inl ou)))])) s.heap.size = A at hD ⊢
  have hA : ∀ q : Nat, s.heap.size ≤ q → A q := fun q h => by rw [← hAe]; exact Or.inr h
  have hS : va_S A s.heap s.heap [] := va_S.rf
  have hgl := hl
  have hP : va_P (dC, dI) vwCl (gcW h kc f1 f2 dr cl tr se (nI g) (nI r) inf (nI ct) ++ ([(oa, .inl (ok, 1, .inr (.inl ou)))])) s.heap := hP
  have hin0 : ∀ w ∈ wsX00, w ∈ wsL_invite := by decide +kernel
  have hl := lv_entry [.ref (h 0), .ref oa] (n := 3) (Nat.le_of_ble_eq_true rfl)
  rw [lg_entry_eq]
  generalize (lg_sl [.ref (h 0), .ref oa] ++ List.replicate (3 - (lg_sl [.ref (h 0), .ref oa]).length) Slot.unset).toArray = ls at hl ⊢
  have hl : lv_has ls 3 [(0, .ref (h 0)), (1, .ref oa)] := hl
  refine lv_aload_n hx hb dL_invite_0 rfl (lv_at hl 1 rfl) ?_
  refine lv_iconst (v := 0) hx hb dL_invite_1 (by decide) ?_
  refine lv_aload_n hx hb dL_invite_2 rfl (lv_at hl 0 rfl) ?_
  have hPc : va_P (dC, dI) vwCl (gcW h kc f1 f2 dr cl tr se (nI g) (nI r) inf (nI ct)) _ := hP.sub [0, 1, 2, 3, 4, 5, 6] rfl
  have hKc : va_K (dC, dI) vwCl (gcT kc) s := hK.sub [0, 1, 2, 3, 4, 5] rfl
  refine vx_calli (vx_runV (As := []) (rest := [.int 0, .ref oa]) ⟨hx, hb, hml, hown, hts⟩ (x_X0_invite l hgl dC dI h kc f1 f2 dr cl tr se g r inf ct (by first | assumption | omega)) (cwV 0 hts gL_invite_X0_invite rfl rfl rfl (by decide +kernel) ⟨Nat.le_of_ble_eq_true rfl, Nat.le_of_ble_eq_true rfl⟩) ⟨gcPX_blind, va_recv hK hP (ci := 0) (q0 := 0) rfl rfl, fun U hU hW => ⟨rfl, by rw [hU]; exact hPc, va_K.moved hW.alike hKc, gcX_go hgX hW (fun a ha => by rw [hU] <;> first | rfl | exact hS.2.1 a ha id)⟩⟩ rfl rfl hl.1 rfl (lv_room (Nat.le_of_ble_eq_true rfl)) dL_invite_3 ⟨Nat.le_of_ble_eq_true rfl, Nat.le_of_ble_eq_true rfl⟩) hS (fun q _ h => h.elim) (fun q h => h.elim) (fun q _ h => h.elim) (fun E ce q9 u t H locs ht hvm hpx hBX hz1 hk1 hS hce hcv hcl => ?_) (fun _ u t H locs ht hvm hw hB hz1 hk1 hS => hw.elim)
  have hE : E = "java/lang/IllegalStateException" := hBX
  subst hE
  have htab := vx_table (x := yL_invite) B (hts (.codeWith yL_invite cL_invite 3 (some .int) [(0, 8, 11, 13)]) (by decide +kernel))
  have hP := gc_keep hP hk1
  refine vx_catch hown [] ⟨0, 8, 11, 13⟩ [] (by rw [htab]; rfl) (fun z h => absurd h List.not_mem_nil) (by decide) (by decide) (hts (.classLink RL 13 "java/lang/IllegalStateException") (by decide +kernel)) (va_Nw.use rfl (hgX.1 (.castable "java/lang/IllegalStateException" "java/lang/IllegalStateException") (by decide +kernel))) hce hcv hcl ?_
  refine lv_astore_n (lv' := [(2, .ref q9), (0, .ref (h 0)), (1, .ref oa)]) hx hb dL_invite_11 rfl hl (by decide) rfl (fun ls hl => ?_)
  refine lv_iconst (v := 1) hx hb dL_invite_12 (by decide) ?_
  have hpost : (1 : Int32) = 1 := by rfl
  exact W.iret (v := 1) hx hb hr (fun t ht hW => ⟨⟨1, (), rfl, hpost, ⟨by rw [ht]; exact hP, hD⟩⟩, hS.F ht⟩) hS.2.2 dL_invite_13
set_option maxHeartbeats 4000000 in
set_option maxRecDepth 100000 in
theorem wx_rule_1 (l : Launch) (hl : l.stackTraces = false) (dC : Nat → ClassId) (dI : Nat → Nat → Nat) (h : Nat → Nat) (kc : Nat → ClassId) (f1 : Nat → Int32) (f2 : Nat → Int32) (dr : Nat → Int32) (cl : Nat → Int32) (tr : Nat → Int32) (se : Nat → Int32) (g : Nat) (r : Nat) (inf : Int32) (ct : Nat) (oa : Nat) (ok : ClassId) (ou : Nat → Int64) (v1 : Int32) (v2 : Int32) (sz : Nat) (hg : g ≤ 10) (hno : (∀ j : Nat, j < 2 * g → v1 ≠ nI j) ∨ ∀ j : Nat, j < 2 * g → v2 ≠ nI j) : Met l yL_rule wsL_rule ({ frames := 8, cells := 1, slots := 6, locals := 127 }) (gcPN (dC, dI) [.ref (h 0), .int v1, .int v2, .ref oa] (gcW h kc f1 f2 dr cl tr se (nI g) (nI r) inf (nI ct) ++ ([(oa, .inl (ok, 1, .inr (.inl ou)))])) (gcT kc ++ ([(ok, .long)])) sz) (va_Qi (fun (rv : Int32) (_u : Unit) => rv = 1) (fun _u t9 => va_P (dC, dI) vwCl (gcW h kc f1 f2 dr cl tr se (nI g) (nI r) inf (nI ct) ++ ([(oa, .inl (ok, 1, .inr (.inl ou)))])) t9.heap ∧ va_D (va_A (gcW h kc f1 f2 dr cl tr se (nI g) (nI r) inf (nI ct) ++ ([(oa, .inl (ok, 1, .inr (.inl ou)))])) sz) (gcW h kc f1 f2 dr cl tr se (nI g) (nI r) inf (nI ct) ++ ([(oa, .inl (ok, 1, .inr (.inl ou)))]))) (va_A (gcW h kc f1 f2 dr cl tr se (nI g) (nI r) inf (nI ct) ++ ([(oa, .inl (ok, 1, .inr (.inl ou)))])) sz)) 1 6 (va_A (gcW h kc f1 f2 dr cl tr se (nI g) (nI r) inf (nI ct) ++ ([(oa, .inl (ok, 1, .inr (.inl ou)))])) sz) := by
  refine va_MetW (cc := cL_rule) (maxL := 5) (ret := (some .int)) (by decide) rfl ?_
  intro p e s m args below meth c s₁ B hml hv
  obtain ⟨rfl, hsz, hP, hK, hD0, hgX⟩ := hv
  have hx := B.exec
  have hb := B.bytes
  have hr := B.returns
  have hts := atoms_spec (ws := wsL_rule) B.pre
  have hown : s.vm.findClass RL = some m.cls := findClass_of_methodNamed B.named
  have hlocks := B.notSynchronized
  subst hsz
  have hD := hD0.self (sz := s.heap.size)
  generalize hAe : va_A (gcW h kc f1 f2 dr cl tr se (nI g) (nI r) inf (nI ct) ++ ([(oa, .inl (ok, 1, .inr (.inl ou)))])) s.heap.size = A at hD ⊢
  have hA : ∀ q : Nat, s.heap.size ≤ q → A q := fun q h => by rw [← hAe]; exact Or.inr h
  have hS : va_S A s.heap s.heap [] := va_S.rf
  have hgl := hl
  have hP : va_P (dC, dI) vwCl (gcW h kc f1 f2 dr cl tr se (nI g) (nI r) inf (nI ct) ++ ([(oa, .inl (ok, 1, .inr (.inl ou)))])) s.heap := hP
  have hin0 : ∀ w ∈ wsX00, w ∈ wsL_rule := by decide +kernel
  have hl := lv_entry [.ref (h 0), .int v1, .int v2, .ref oa] (n := 5) (Nat.le_of_ble_eq_true rfl)
  rw [lg_entry_eq]
  generalize (lg_sl [.ref (h 0), .int v1, .int v2, .ref oa] ++ List.replicate (5 - (lg_sl [.ref (h 0), .int v1, .int v2, .ref oa]).length) Slot.unset).toArray = ls at hl ⊢
  have hl : lv_has ls 5 [(0, .ref (h 0)), (1, .int v1), (2, .int v2), (3, .ref oa)] := hl
  refine lv_aload_n hx hb dL_rule_0 rfl (lv_at hl 3 rfl) ?_
  refine lv_iconst (v := 0) hx hb dL_rule_1 (by decide) ?_
  refine lv_aload_n hx hb dL_rule_2 rfl (lv_at hl 0 rfl) ?_
  refine lv_iload_n hx hb dL_rule_3 rfl (lv_at hl 1 rfl) ?_
  refine lv_iload_n hx hb dL_rule_4 rfl (lv_at hl 2 rfl) ?_
  have hPc : va_P (dC, dI) vwCl (gcW h kc f1 f2 dr cl tr se (nI g) (nI r) inf (nI ct)) _ := hP.sub [0, 1, 2, 3, 4, 5, 6] rfl
  have hKc : va_K (dC, dI) vwCl (gcT kc) s := hK.sub [0, 1, 2, 3, 4, 5] rfl
  refine vx_calli (vx_runV (As := [.int v1, .int v2]) (rest := [.int 0, .ref oa]) ⟨hx, hb, hml, hown, hts⟩ (x_X0_rule l hgl dC dI h kc f1 f2 dr cl tr se g r inf ct v1 v2 (by first | assumption | omega) (by first | assumption | omega)) (cwV 2 hts gL_rule_X0_rule rfl rfl rfl (by decide +kernel) ⟨Nat.le_of_ble_eq_true rfl, Nat.le_of_ble_eq_true rfl⟩) ⟨gcPX_blind, va_recv hK hP (ci := 0) (q0 := 0) rfl rfl, fun U hU hW => ⟨rfl, by rw [hU]; exact hPc, va_K.moved hW.alike hKc, gcX_go hgX hW (fun a ha => by rw [hU] <;> first | rfl | exact hS.2.1 a ha id)⟩⟩ rfl rfl hl.1 rfl (lv_room (Nat.le_of_ble_eq_true rfl)) dL_rule_5 ⟨Nat.le_of_ble_eq_true rfl, Nat.le_of_ble_eq_true rfl⟩) hS (fun q _ h => h.elim) (fun q h => h.elim) (fun q _ h => h.elim) (fun E ce q9 u t H locs ht hvm hpx hBX hz1 hk1 hS hce hcv hcl => ?_) (fun _ u t H locs ht hvm hw hB hz1 hk1 hS => hw.elim)
  have hE : E = "java/lang/IndexOutOfBoundsException" := hBX
  subst hE
  have htab := vx_table (x := yL_rule) B (hts (.codeWith yL_rule cL_rule 5 (some .int) [(0, 10, 13, 19), (0, 10, 17, 21), (0, 10, 21, 13)]) (by decide +kernel))
  have hP := gc_keep hP hk1
  refine vx_catch hown [] ⟨0, 10, 13, 19⟩ [⟨0, 10, 17, 21⟩, ⟨0, 10, 21, 13⟩] (by rw [htab]; rfl) (fun z h => absurd h List.not_mem_nil) (by decide) (by decide) (hts (.classLink RL 19 "java/lang/IndexOutOfBoundsException") (by decide +kernel)) (va_Nw.use rfl (hgX.1 (.castable "java/lang/IndexOutOfBoundsException" "java/lang/IndexOutOfBoundsException") (by decide +kernel))) hce hcv hcl ?_
  refine lv_astore (lv' := [(4, .ref q9), (0, .ref (h 0)), (1, .int v1), (2, .int v2), (3, .ref oa)]) hx hb dL_rule_13 hl (by decide) rfl (fun ls hl => ?_)
  refine lv_iconst (v := 1) hx hb dL_rule_15 (by decide) ?_
  have hpost : (1 : Int32) = 1 := by rfl
  exact W.iret (v := 1) hx hb hr (fun t ht hW => ⟨⟨1, (), rfl, hpost, ⟨by rw [ht]; exact hP, hD⟩⟩, hS.F ht⟩) hS.2.2 dL_rule_16
set_option maxHeartbeats 4000000 in
set_option maxRecDepth 100000 in
theorem wx_rule_2 (l : Launch) (hl : l.stackTraces = false) (dC : Nat → ClassId) (dI : Nat → Nat → Nat) (h : Nat → Nat) (kc : Nat → ClassId) (f1 : Nat → Int32) (f2 : Nat → Int32) (dr : Nat → Int32) (cl : Nat → Int32) (tr : Nat → Int32) (se : Nat → Int32) (g : Nat) (r : Nat) (inf : Int32) (ct : Nat) (oa : Nat) (ok : ClassId) (ou : Nat → Int64) (wa : Nat) (sz : Nat) (hg : g ≤ 10) (ha : wa < 2 * g) : Met l yL_rule wsL_rule ({ frames := 7, cells := 1, slots := 6, locals := 105 }) (gcPN (dC, dI) [.ref (h 0), .int (nI wa), .int (nI wa), .ref oa] (gcW h kc f1 f2 dr cl tr se (nI g) (nI r) inf (nI ct) ++ ([(oa, .inl (ok, 1, .inr (.inl ou)))])) (gcT kc ++ ([(ok, .long)])) sz) (va_Qi (fun (rv : Int32) (_u : Unit) => rv = 2) (fun _u t9 => va_P (dC, dI) vwCl (gcW h kc f1 f2 dr cl tr se (nI g) (nI r) inf (nI ct) ++ ([(oa, .inl (ok, 1, .inr (.inl ou)))])) t9.heap ∧ va_D (va_A (gcW h kc f1 f2 dr cl tr se (nI g) (nI r) inf (nI ct) ++ ([(oa, .inl (ok, 1, .inr (.inl ou)))])) sz) (gcW h kc f1 f2 dr cl tr se (nI g) (nI r) inf (nI ct) ++ ([(oa, .inl (ok, 1, .inr (.inl ou)))]))) (va_A (gcW h kc f1 f2 dr cl tr se (nI g) (nI r) inf (nI ct) ++ ([(oa, .inl (ok, 1, .inr (.inl ou)))])) sz)) 1 6 (va_A (gcW h kc f1 f2 dr cl tr se (nI g) (nI r) inf (nI ct) ++ ([(oa, .inl (ok, 1, .inr (.inl ou)))])) sz) := by
  refine va_MetW (cc := cL_rule) (maxL := 5) (ret := (some .int)) (by decide) rfl ?_
  intro p e s m args below meth c s₁ B hml hv
  obtain ⟨rfl, hsz, hP, hK, hD0, hgX⟩ := hv
  have hx := B.exec
  have hb := B.bytes
  have hr := B.returns
  have hts := atoms_spec (ws := wsL_rule) B.pre
  have hown : s.vm.findClass RL = some m.cls := findClass_of_methodNamed B.named
  have hlocks := B.notSynchronized
  subst hsz
  have hD := hD0.self (sz := s.heap.size)
  generalize hAe : va_A (gcW h kc f1 f2 dr cl tr se (nI g) (nI r) inf (nI ct) ++ ([(oa, .inl (ok, 1, .inr (.inl ou)))])) s.heap.size = A at hD ⊢
  have hA : ∀ q : Nat, s.heap.size ≤ q → A q := fun q h => by rw [← hAe]; exact Or.inr h
  have hS : va_S A s.heap s.heap [] := va_S.rf
  have hgl := hl
  have hP : va_P (dC, dI) vwCl (gcW h kc f1 f2 dr cl tr se (nI g) (nI r) inf (nI ct) ++ ([(oa, .inl (ok, 1, .inr (.inl ou)))])) s.heap := hP
  have hin0 : ∀ w ∈ wsX00, w ∈ wsL_rule := by decide +kernel
  have hl := lv_entry [.ref (h 0), .int (nI wa), .int (nI wa), .ref oa] (n := 5) (Nat.le_of_ble_eq_true rfl)
  rw [lg_entry_eq]
  generalize (lg_sl [.ref (h 0), .int (nI wa), .int (nI wa), .ref oa] ++ List.replicate (5 - (lg_sl [.ref (h 0), .int (nI wa), .int (nI wa), .ref oa]).length) Slot.unset).toArray = ls at hl ⊢
  have hl : lv_has ls 5 [(0, .ref (h 0)), (1, .int (nI wa)), (2, .int (nI wa)), (3, .ref oa)] := hl
  refine lv_aload_n hx hb dL_rule_0 rfl (lv_at hl 3 rfl) ?_
  refine lv_iconst (v := 0) hx hb dL_rule_1 (by decide) ?_
  refine lv_aload_n hx hb dL_rule_2 rfl (lv_at hl 0 rfl) ?_
  refine lv_iload_n hx hb dL_rule_3 rfl (lv_at hl 1 rfl) ?_
  refine lv_iload_n hx hb dL_rule_4 rfl (lv_at hl 2 rfl) ?_
  have hPc : va_P (dC, dI) vwCl (gcW h kc f1 f2 dr cl tr se (nI g) (nI r) inf (nI ct)) _ := hP.sub [0, 1, 2, 3, 4, 5, 6] rfl
  have hKc : va_K (dC, dI) vwCl (gcT kc) s := hK.sub [0, 1, 2, 3, 4, 5] rfl
  refine vx_calli (vx_runV (As := [.int (nI wa), .int (nI wa)]) (rest := [.int 0, .ref oa]) ⟨hx, hb, hml, hown, hts⟩ (x_X0_rule_2 l hgl dC dI h kc f1 f2 dr cl tr se g r inf ct wa (by first | assumption | omega) (by first | assumption | omega)) (cwV 2 hts gL_rule_X0_rule rfl rfl rfl (by decide +kernel) ⟨Nat.le_of_ble_eq_true rfl, Nat.le_of_ble_eq_true rfl⟩) ⟨gcPX_blind, va_recv hK hP (ci := 0) (q0 := 0) rfl rfl, fun U hU hW => ⟨rfl, by rw [hU]; exact hPc, va_K.moved hW.alike hKc, gcX_go hgX hW (fun a ha => by rw [hU] <;> first | rfl | exact hS.2.1 a ha id)⟩⟩ rfl rfl hl.1 rfl (lv_room (Nat.le_of_ble_eq_true rfl)) dL_rule_5 ⟨Nat.le_of_ble_eq_true rfl, Nat.le_of_ble_eq_true rfl⟩) hS (fun q _ h => h.elim) (fun q h => h.elim) (fun q _ h => h.elim) (fun E ce q9 u t H locs ht hvm hpx hBX hz1 hk1 hS hce hcv hcl => ?_) (fun _ u t H locs ht hvm hw hB hz1 hk1 hS => hw.elim)
  have hE : E = "java/lang/IllegalArgumentException" := hBX
  subst hE
  have htab := vx_table (x := yL_rule) B (hts (.codeWith yL_rule cL_rule 5 (some .int) [(0, 10, 13, 19), (0, 10, 17, 21), (0, 10, 21, 13)]) (by decide +kernel))
  have hP := gc_keep hP hk1
  refine vx_catch hown [⟨0, 10, 13, 19⟩] ⟨0, 10, 17, 21⟩ [⟨0, 10, 21, 13⟩] (by rw [htab]; rfl) (fun z h => by rw [List.mem_singleton.mp h]; exact Or.inr ⟨by decide, "java/lang/IndexOutOfBoundsException", hts (.classLink RL 19 "java/lang/IndexOutOfBoundsException") (by decide +kernel), (hgX.2.2.2.2 ("java/lang/IllegalArgumentException", "java/lang/IndexOutOfBoundsException") (by decide +kernel)).moved (Vm.Alike.refl s.vm)⟩) (by decide) (by decide) (hts (.classLink RL 21 "java/lang/IllegalArgumentException") (by decide +kernel)) (va_Nw.use rfl (hgX.1 (.castable "java/lang/IllegalArgumentException" "java/lang/IllegalArgumentException") (by decide +kernel))) hce hcv hcl ?_
  refine lv_astore (lv' := [(4, .ref q9), (0, .ref (h 0)), (1, .int (nI wa)), (2, .int (nI wa)), (3, .ref oa)]) hx hb dL_rule_17 hl (by decide) rfl (fun ls hl => ?_)
  refine lv_iconst (v := 2) hx hb dL_rule_19 (by decide) ?_
  have hpost : (2 : Int32) = 2 := by rfl
  exact W.iret (v := 2) hx hb hr (fun t ht hW => ⟨⟨2, (), rfl, hpost, ⟨by rw [ht]; exact hP, hD⟩⟩, hS.F ht⟩) hS.2.2 dL_rule_20
set_option maxHeartbeats 4000000 in
set_option maxRecDepth 100000 in
theorem wx_rule_3 (l : Launch) (hl : l.stackTraces = false) (dC : Nat → ClassId) (dI : Nat → Nat → Nat) (h : Nat → Nat) (kc : Nat → ClassId) (f1 : Nat → Int32) (f2 : Nat → Int32) (dr : Nat → Int32) (cl : Nat → Int32) (tr : Nat → Int32) (se : Nat → Int32) (g : Nat) (r : Nat) (inf : Int32) (ct : Nat) (oa : Nat) (ok : ClassId) (ou : Nat → Int64) (wa : Nat) (wb : Nat) (sz : Nat) (hg : g ≤ 10) (hr9 : r = 30) (ha : wa < 2 * g) (hb2 : wb < 2 * g) (hne : ¬ wa = wb) : Met l yL_rule wsL_rule ({ frames := 7, cells := 1, slots := 6, locals := 105 }) (gcPN (dC, dI) [.ref (h 0), .int (nI wa), .int (nI wb), .ref oa] (gcW h kc f1 f2 dr cl tr se (nI g) (nI r) inf (nI ct) ++ ([(oa, .inl (ok, 1, .inr (.inl ou)))])) (gcT kc ++ ([(ok, .long)])) sz) (va_Qi (fun (rv : Int32) (_u : Unit) => rv = 3) (fun _u t9 => va_P (dC, dI) vwCl (gcW h kc f1 f2 dr cl tr se (nI g) (nI r) inf (nI ct) ++ ([(oa, .inl (ok, 1, .inr (.inl ou)))])) t9.heap ∧ va_D (va_A (gcW h kc f1 f2 dr cl tr se (nI g) (nI r) inf (nI ct) ++ ([(oa, .inl (ok, 1, .inr (.inl ou)))])) sz) (gcW h kc f1 f2 dr cl tr se (nI g) (nI r) inf (nI ct) ++ ([(oa, .inl (ok, 1, .inr (.inl ou)))]))) (va_A (gcW h kc f1 f2 dr cl tr se (nI g) (nI r) inf (nI ct) ++ ([(oa, .inl (ok, 1, .inr (.inl ou)))])) sz)) 1 6 (va_A (gcW h kc f1 f2 dr cl tr se (nI g) (nI r) inf (nI ct) ++ ([(oa, .inl (ok, 1, .inr (.inl ou)))])) sz) := by
  refine va_MetW (cc := cL_rule) (maxL := 5) (ret := (some .int)) (by decide) rfl ?_
  intro p e s m args below meth c s₁ B hml hv
  obtain ⟨rfl, hsz, hP, hK, hD0, hgX⟩ := hv
  have hx := B.exec
  have hb := B.bytes
  have hr := B.returns
  have hts := atoms_spec (ws := wsL_rule) B.pre
  have hown : s.vm.findClass RL = some m.cls := findClass_of_methodNamed B.named
  have hlocks := B.notSynchronized
  subst hsz
  have hD := hD0.self (sz := s.heap.size)
  generalize hAe : va_A (gcW h kc f1 f2 dr cl tr se (nI g) (nI r) inf (nI ct) ++ ([(oa, .inl (ok, 1, .inr (.inl ou)))])) s.heap.size = A at hD ⊢
  have hA : ∀ q : Nat, s.heap.size ≤ q → A q := fun q h => by rw [← hAe]; exact Or.inr h
  have hS : va_S A s.heap s.heap [] := va_S.rf
  have hgl := hl
  have hP : va_P (dC, dI) vwCl (gcW h kc f1 f2 dr cl tr se (nI g) (nI r) inf (nI ct) ++ ([(oa, .inl (ok, 1, .inr (.inl ou)))])) s.heap := hP
  have hin0 : ∀ w ∈ wsX00, w ∈ wsL_rule := by decide +kernel
  have hl := lv_entry [.ref (h 0), .int (nI wa), .int (nI wb), .ref oa] (n := 5) (Nat.le_of_ble_eq_true rfl)
  rw [lg_entry_eq]
  generalize (lg_sl [.ref (h 0), .int (nI wa), .int (nI wb), .ref oa] ++ List.replicate (5 - (lg_sl [.ref (h 0), .int (nI wa), .int (nI wb), .ref oa]).length) Slot.unset).toArray = ls at hl ⊢
  have hl : lv_has ls 5 [(0, .ref (h 0)), (1, .int (nI wa)), (2, .int (nI wb)), (3, .ref oa)] := hl
  refine lv_aload_n hx hb dL_rule_0 rfl (lv_at hl 3 rfl) ?_
  refine lv_iconst (v := 0) hx hb dL_rule_1 (by decide) ?_
  refine lv_aload_n hx hb dL_rule_2 rfl (lv_at hl 0 rfl) ?_
  refine lv_iload_n hx hb dL_rule_3 rfl (lv_at hl 1 rfl) ?_
  refine lv_iload_n hx hb dL_rule_4 rfl (lv_at hl 2 rfl) ?_
  have hPc : va_P (dC, dI) vwCl (gcW h kc f1 f2 dr cl tr se (nI g) (nI r) inf (nI ct)) _ := hP.sub [0, 1, 2, 3, 4, 5, 6] rfl
  have hKc : va_K (dC, dI) vwCl (gcT kc) s := hK.sub [0, 1, 2, 3, 4, 5] rfl
  refine vx_calli (vx_runV (As := [.int (nI wa), .int (nI wb)]) (rest := [.int 0, .ref oa]) ⟨hx, hb, hml, hown, hts⟩ (x_X0_rule_3 l hgl dC dI h kc f1 f2 dr cl tr se g r inf ct wa wb (by first | assumption | omega) (by first | assumption | omega) (by first | assumption | omega) (by first | assumption | omega) (by first | assumption | omega)) (cwV 2 hts gL_rule_X0_rule rfl rfl rfl (by decide +kernel) ⟨Nat.le_of_ble_eq_true rfl, Nat.le_of_ble_eq_true rfl⟩) ⟨gcPX_blind, va_recv hK hP (ci := 0) (q0 := 0) rfl rfl, fun U hU hW => ⟨rfl, by rw [hU]; exact hPc, va_K.moved hW.alike hKc, gcX_go hgX hW (fun a ha => by rw [hU] <;> first | rfl | exact hS.2.1 a ha id)⟩⟩ rfl rfl hl.1 rfl (lv_room (Nat.le_of_ble_eq_true rfl)) dL_rule_5 ⟨Nat.le_of_ble_eq_true rfl, Nat.le_of_ble_eq_true rfl⟩) hS (fun q _ h => h.elim) (fun q h => h.elim) (fun q _ h => h.elim) (fun E ce q9 u t H locs ht hvm hpx hBX hz1 hk1 hS hce hcv hcl => ?_) (fun _ u t H locs ht hvm hw hB hz1 hk1 hS => hw.elim)
  have hE : E = "java/lang/IllegalStateException" := hBX
  subst hE
  have htab := vx_table (x := yL_rule) B (hts (.codeWith yL_rule cL_rule 5 (some .int) [(0, 10, 13, 19), (0, 10, 17, 21), (0, 10, 21, 13)]) (by decide +kernel))
  have hP := gc_keep hP hk1
  refine vx_catch hown [⟨0, 10, 13, 19⟩, ⟨0, 10, 17, 21⟩] ⟨0, 10, 21, 13⟩ [] (by rw [htab]; rfl) (fun z h => by rcases List.mem_cons.mp h with h | h; (rw [h]; exact Or.inr ⟨by decide, "java/lang/IndexOutOfBoundsException", hts (.classLink RL 19 "java/lang/IndexOutOfBoundsException") (by decide +kernel), (hgX.2.2.2.2 ("java/lang/IllegalStateException", "java/lang/IndexOutOfBoundsException") (by decide +kernel)).moved (Vm.Alike.refl s.vm)⟩); (rw [List.mem_singleton.mp h]; exact Or.inr ⟨by decide, "java/lang/IllegalArgumentException", hts (.classLink RL 21 "java/lang/IllegalArgumentException") (by decide +kernel), (hgX.2.2.2.2 ("java/lang/IllegalStateException", "java/lang/IllegalArgumentException") (by decide +kernel)).moved (Vm.Alike.refl s.vm)⟩)) (by decide) (by decide) (hts (.classLink RL 13 "java/lang/IllegalStateException") (by decide +kernel)) (va_Nw.use rfl (hgX.1 (.castable "java/lang/IllegalStateException" "java/lang/IllegalStateException") (by decide +kernel))) hce hcv hcl ?_
  refine lv_astore (lv' := [(4, .ref q9), (0, .ref (h 0)), (1, .int (nI wa)), (2, .int (nI wb)), (3, .ref oa)]) hx hb dL_rule_21 hl (by decide) rfl (fun ls hl => ?_)
  refine lv_iconst (v := 3) hx hb dL_rule_23 (by decide) ?_
  have hpost : (3 : Int32) = 3 := by rfl
  exact W.iret (v := 3) hx hb hr (fun t ht hW => ⟨⟨3, (), rfl, hpost, ⟨by rw [ht]; exact hP, hD⟩⟩, hS.F ht⟩) hS.2.2 dL_rule_24
set_option maxHeartbeats 4000000 in
set_option maxRecDepth 100000 in
theorem wx_turn (l : Launch) (hl : l.stackTraces = false) (dC : Nat → ClassId) (dI : Nat → Nat → Nat) (h : Nat → Nat) (kc : Nat → ClassId) (f1 : Nat → Int32) (f2 : Nat → Int32) (dr : Nat → Int32) (cl : Nat → Int32) (tr : Nat → Int32) (se : Nat → Int32) (g : Nat) (r : Nat) (inf : Int32) (ct : Nat) (oa : Nat) (ok : ClassId) (ou : Nat → Int64) (v : Int32) (sz : Nat) (hr30 : r ≤ 30) (hno : ∀ j : Nat, j < r → v ≠ nI j) : Met l yL_turn wsL_turn ({ frames := 8, cells := 1, slots := 6, locals := 124 }) (gcPN (dC, dI) [.ref (h 0), .int v, .ref oa] (gcW h kc f1 f2 dr cl tr se (nI g) (nI r) inf (nI ct) ++ ([(oa, .inl (ok, 1, .inr (.inl ou)))])) (gcT kc ++ ([(ok, .long)])) sz) (va_Qi (fun (rv : Int32) (_u : Unit) => rv = 1) (fun _u t9 => va_P (dC, dI) vwCl (gcW h kc f1 f2 dr cl tr se (nI g) (nI r) inf (nI ct) ++ ([(oa, .inl (ok, 1, .inr (.inl ou)))])) t9.heap ∧ va_D (va_A (gcW h kc f1 f2 dr cl tr se (nI g) (nI r) inf (nI ct) ++ ([(oa, .inl (ok, 1, .inr (.inl ou)))])) sz) (gcW h kc f1 f2 dr cl tr se (nI g) (nI r) inf (nI ct) ++ ([(oa, .inl (ok, 1, .inr (.inl ou)))]))) (va_A (gcW h kc f1 f2 dr cl tr se (nI g) (nI r) inf (nI ct) ++ ([(oa, .inl (ok, 1, .inr (.inl ou)))])) sz)) 1 6 (va_A (gcW h kc f1 f2 dr cl tr se (nI g) (nI r) inf (nI ct) ++ ([(oa, .inl (ok, 1, .inr (.inl ou)))])) sz) := by
  refine va_MetW (cc := cL_turn) (maxL := 4) (ret := (some .int)) (by decide) rfl ?_
  intro p e s m args below meth c s₁ B hml hv
  obtain ⟨rfl, hsz, hP, hK, hD0, hgX⟩ := hv
  have hx := B.exec
  have hb := B.bytes
  have hr := B.returns
  have hts := atoms_spec (ws := wsL_turn) B.pre
  have hown : s.vm.findClass RL = some m.cls := findClass_of_methodNamed B.named
  have hlocks := B.notSynchronized
  subst hsz
  have hD := hD0.self (sz := s.heap.size)
  generalize hAe : va_A (gcW h kc f1 f2 dr cl tr se (nI g) (nI r) inf (nI ct) ++ ([(oa, .inl (ok, 1, .inr (.inl ou)))])) s.heap.size = A at hD ⊢
  have hA : ∀ q : Nat, s.heap.size ≤ q → A q := fun q h => by rw [← hAe]; exact Or.inr h
  have hS : va_S A s.heap s.heap [] := va_S.rf
  have hgl := hl
  have hP : va_P (dC, dI) vwCl (gcW h kc f1 f2 dr cl tr se (nI g) (nI r) inf (nI ct) ++ ([(oa, .inl (ok, 1, .inr (.inl ou)))])) s.heap := hP
  have hin0 : ∀ w ∈ wsX00, w ∈ wsL_turn := by decide +kernel
  have hl := lv_entry [.ref (h 0), .int v, .ref oa] (n := 4) (Nat.le_of_ble_eq_true rfl)
  rw [lg_entry_eq]
  generalize (lg_sl [.ref (h 0), .int v, .ref oa] ++ List.replicate (4 - (lg_sl [.ref (h 0), .int v, .ref oa]).length) Slot.unset).toArray = ls at hl ⊢
  have hl : lv_has ls 4 [(0, .ref (h 0)), (1, .int v), (2, .ref oa)] := hl
  refine lv_aload_n hx hb dL_turn_0 rfl (lv_at hl 2 rfl) ?_
  refine lv_iconst (v := 0) hx hb dL_turn_1 (by decide) ?_
  refine lv_aload_n hx hb dL_turn_2 rfl (lv_at hl 0 rfl) ?_
  refine lv_iload_n hx hb dL_turn_3 rfl (lv_at hl 1 rfl) ?_
  have hPc : va_P (dC, dI) vwCl (gcW h kc f1 f2 dr cl tr se (nI g) (nI r) inf (nI ct)) _ := hP.sub [0, 1, 2, 3, 4, 5, 6] rfl
  have hKc : va_K (dC, dI) vwCl (gcT kc) s := hK.sub [0, 1, 2, 3, 4, 5] rfl
  refine vx_calli (vx_runV (As := [.int v]) (rest := [.int 0, .ref oa]) ⟨hx, hb, hml, hown, hts⟩ (x_X0_turn l hgl dC dI h kc f1 f2 dr cl tr se g r inf ct v (by first | assumption | omega) (by first | assumption | omega)) (cwV 1 hts gL_turn_X0_turn rfl rfl rfl (by decide +kernel) ⟨Nat.le_of_ble_eq_true rfl, Nat.le_of_ble_eq_true rfl⟩) ⟨gcPX_blind, va_recv hK hP (ci := 0) (q0 := 0) rfl rfl, fun U hU hW => ⟨rfl, by rw [hU]; exact hPc, va_K.moved hW.alike hKc, gcX_go hgX hW (fun a ha => by rw [hU] <;> first | rfl | exact hS.2.1 a ha id)⟩⟩ rfl rfl hl.1 rfl (lv_room (Nat.le_of_ble_eq_true rfl)) dL_turn_4 ⟨Nat.le_of_ble_eq_true rfl, Nat.le_of_ble_eq_true rfl⟩) hS (fun q _ h => h.elim) (fun q h => h.elim) (fun q _ h => h.elim) (fun E ce q9 u t H locs ht hvm hpx hBX hz1 hk1 hS hce hcv hcl => ?_) (fun _ u t H locs ht hvm hw hB hz1 hk1 hS => hw.elim)
  have hE : E = "java/lang/IndexOutOfBoundsException" := hBX
  subst hE
  have htab := vx_table (x := yL_turn) B (hts (.codeWith yL_turn cL_turn 4 (some .int) [(0, 16, 19, 19)]) (by decide +kernel))
  have hP := gc_keep hP hk1
  refine vx_catch hown [] ⟨0, 16, 19, 19⟩ [] (by rw [htab]; rfl) (fun z h => absurd h List.not_mem_nil) (by decide) (by decide) (hts (.classLink RL 19 "java/lang/IndexOutOfBoundsException") (by decide +kernel)) (va_Nw.use rfl (hgX.1 (.castable "java/lang/IndexOutOfBoundsException" "java/lang/IndexOutOfBoundsException") (by decide +kernel))) hce hcv hcl ?_
  refine lv_astore_n (lv' := [(3, .ref q9), (0, .ref (h 0)), (1, .int v), (2, .ref oa)]) hx hb dL_turn_19 rfl hl (by decide) rfl (fun ls hl => ?_)
  refine lv_iconst (v := 1) hx hb dL_turn_20 (by decide) ?_
  have hpost : (1 : Int32) = 1 := by rfl
  exact W.iret (v := 1) hx hb hr (fun t ht hW => ⟨⟨1, (), rfl, hpost, ⟨by rw [ht]; exact hP, hD⟩⟩, hS.F ht⟩) hS.2.2 dL_turn_21
set_option maxHeartbeats 4000000 in
set_option maxRecDepth 100000 in
theorem wx_told_1 (l : Launch) (hl : l.stackTraces = false) (dC : Nat → ClassId) (dI : Nat → Nat → Nat) (h : Nat → Nat) (kc : Nat → ClassId) (f1 : Nat → Int32) (f2 : Nat → Int32) (dr : Nat → Int32) (cl : Nat → Int32) (tr : Nat → Int32) (se : Nat → Int32) (g : Nat) (r : Nat) (inf : Int32) (ct : Nat) (oa : Nat) (ok : ClassId) (ou : Nat → Int64) (v1 : Int32) (v2 : Int32) (sz : Nat) (hr30 : r ≤ 30) (hno : ∀ j : Nat, j < r → v1 ≠ nI j) : Met l yL_told wsL_told ({ frames := 8, cells := 1, slots := 6, locals := 125 }) (gcPN (dC, dI) [.ref (h 0), .int v1, .int v2, .ref oa] (gcW h kc f1 f2 dr cl tr se (nI g) (nI r) inf (nI ct) ++ ([(oa, .inl (ok, 1, .inr (.inl ou)))])) (gcT kc ++ ([(ok, .long)])) sz) (va_Qi (fun (rv : Int32) (_u : Unit) => rv = 1) (fun _u t9 => va_P (dC, dI) vwCl (gcW h kc f1 f2 dr cl tr se (nI g) (nI r) inf (nI ct) ++ ([(oa, .inl (ok, 1, .inr (.inl ou)))])) t9.heap ∧ va_D (va_A (gcW h kc f1 f2 dr cl tr se (nI g) (nI r) inf (nI ct) ++ ([(oa, .inl (ok, 1, .inr (.inl ou)))])) sz) (gcW h kc f1 f2 dr cl tr se (nI g) (nI r) inf (nI ct) ++ ([(oa, .inl (ok, 1, .inr (.inl ou)))]))) (va_A (gcW h kc f1 f2 dr cl tr se (nI g) (nI r) inf (nI ct) ++ ([(oa, .inl (ok, 1, .inr (.inl ou)))])) sz)) 1 6 (va_A (gcW h kc f1 f2 dr cl tr se (nI g) (nI r) inf (nI ct) ++ ([(oa, .inl (ok, 1, .inr (.inl ou)))])) sz) := by
  refine va_MetW (cc := cL_told) (maxL := 5) (ret := (some .int)) (by decide) rfl ?_
  intro p e s m args below meth c s₁ B hml hv
  obtain ⟨rfl, hsz, hP, hK, hD0, hgX⟩ := hv
  have hx := B.exec
  have hb := B.bytes
  have hr := B.returns
  have hts := atoms_spec (ws := wsL_told) B.pre
  have hown : s.vm.findClass RL = some m.cls := findClass_of_methodNamed B.named
  have hlocks := B.notSynchronized
  subst hsz
  have hD := hD0.self (sz := s.heap.size)
  generalize hAe : va_A (gcW h kc f1 f2 dr cl tr se (nI g) (nI r) inf (nI ct) ++ ([(oa, .inl (ok, 1, .inr (.inl ou)))])) s.heap.size = A at hD ⊢
  have hA : ∀ q : Nat, s.heap.size ≤ q → A q := fun q h => by rw [← hAe]; exact Or.inr h
  have hS : va_S A s.heap s.heap [] := va_S.rf
  have hgl := hl
  have hP : va_P (dC, dI) vwCl (gcW h kc f1 f2 dr cl tr se (nI g) (nI r) inf (nI ct) ++ ([(oa, .inl (ok, 1, .inr (.inl ou)))])) s.heap := hP
  have hin0 : ∀ w ∈ wsX00, w ∈ wsL_told := by decide +kernel
  have hl := lv_entry [.ref (h 0), .int v1, .int v2, .ref oa] (n := 5) (Nat.le_of_ble_eq_true rfl)
  rw [lg_entry_eq]
  generalize (lg_sl [.ref (h 0), .int v1, .int v2, .ref oa] ++ List.replicate (5 - (lg_sl [.ref (h 0), .int v1, .int v2, .ref oa]).length) Slot.unset).toArray = ls at hl ⊢
  have hl : lv_has ls 5 [(0, .ref (h 0)), (1, .int v1), (2, .int v2), (3, .ref oa)] := hl
  refine lv_aload_n hx hb dL_told_0 rfl (lv_at hl 3 rfl) ?_
  refine lv_iconst (v := 0) hx hb dL_told_1 (by decide) ?_
  refine lv_aload_n hx hb dL_told_2 rfl (lv_at hl 0 rfl) ?_
  refine lv_iload_n hx hb dL_told_3 rfl (lv_at hl 1 rfl) ?_
  refine lv_iload_n hx hb dL_told_4 rfl (lv_at hl 2 rfl) ?_
  have hPc : va_P (dC, dI) vwCl (gcW h kc f1 f2 dr cl tr se (nI g) (nI r) inf (nI ct)) _ := hP.sub [0, 1, 2, 3, 4, 5, 6] rfl
  have hKc : va_K (dC, dI) vwCl (gcT kc) s := hK.sub [0, 1, 2, 3, 4, 5] rfl
  refine vx_calli (vx_runV (As := [.int v1, .int v2]) (rest := [.int 0, .ref oa]) ⟨hx, hb, hml, hown, hts⟩ (x_X0_told_1 l hgl dC dI h kc f1 f2 dr cl tr se g r inf ct v1 v2 (by first | assumption | omega) (by first | assumption | omega)) (cwV 2 hts gL_told_X0_told rfl rfl rfl (by decide +kernel) ⟨Nat.le_of_ble_eq_true rfl, Nat.le_of_ble_eq_true rfl⟩) ⟨gcPX_blind, va_recv hK hP (ci := 0) (q0 := 0) rfl rfl, fun U hU hW => ⟨rfl, by rw [hU]; exact hPc, va_K.moved hW.alike hKc, gcX_go hgX hW (fun a ha => by rw [hU] <;> first | rfl | exact hS.2.1 a ha id)⟩⟩ rfl rfl hl.1 rfl (lv_room (Nat.le_of_ble_eq_true rfl)) dL_told_5 ⟨Nat.le_of_ble_eq_true rfl, Nat.le_of_ble_eq_true rfl⟩) hS (fun q _ h => h.elim) (fun q h => h.elim) (fun q _ h => h.elim) (fun E ce q9 u t H locs ht hvm hpx hBX hz1 hk1 hS hce hcv hcl => ?_) (fun _ u t H locs ht hvm hw hB hz1 hk1 hS => hw.elim)
  have hE : E = "java/lang/IndexOutOfBoundsException" := hBX
  subst hE
  have htab := vx_table (x := yL_told) B (hts (.codeWith yL_told cL_told 5 (some .int) [(0, 10, 13, 19)]) (by decide +kernel))
  have hP := gc_keep hP hk1
  refine vx_catch hown [] ⟨0, 10, 13, 19⟩ [] (by rw [htab]; rfl) (fun z h => absurd h List.not_mem_nil) (by decide) (by decide) (hts (.classLink RL 19 "java/lang/IndexOutOfBoundsException") (by decide +kernel)) (va_Nw.use rfl (hgX.1 (.castable "java/lang/IndexOutOfBoundsException" "java/lang/IndexOutOfBoundsException") (by decide +kernel))) hce hcv hcl ?_
  refine lv_astore (lv' := [(4, .ref q9), (0, .ref (h 0)), (1, .int v1), (2, .int v2), (3, .ref oa)]) hx hb dL_told_13 hl (by decide) rfl (fun ls hl => ?_)
  refine lv_iconst (v := 1) hx hb dL_told_15 (by decide) ?_
  have hpost : (1 : Int32) = 1 := by rfl
  exact W.iret (v := 1) hx hb hr (fun t ht hW => ⟨⟨1, (), rfl, hpost, ⟨by rw [ht]; exact hP, hD⟩⟩, hS.F ht⟩) hS.2.2 dL_told_16
set_option maxHeartbeats 4000000 in
set_option maxRecDepth 100000 in
theorem wx_told_2 (l : Launch) (hl : l.stackTraces = false) (dC : Nat → ClassId) (dI : Nat → Nat → Nat) (h : Nat → Nat) (kc : Nat → ClassId) (f1 : Nat → Int32) (f2 : Nat → Int32) (dr : Nat → Int32) (cl : Nat → Int32) (tr : Nat → Int32) (se : Nat → Int32) (g : Nat) (r : Nat) (inf : Int32) (ct : Nat) (oa : Nat) (ok : ClassId) (ou : Nat → Int64) (x : Nat) (v2 : Int32) (sz : Nat) (hr30 : r ≤ 30) (hx2 : x < r) (hno : ∀ j : Nat, j < 3 → v2 ≠ nI j) : Met l yL_told wsL_told ({ frames := 8, cells := 1, slots := 6, locals := 125 }) (gcPN (dC, dI) [.ref (h 0), .int (nI x), .int v2, .ref oa] (gcW h kc f1 f2 dr cl tr se (nI g) (nI r) inf (nI ct) ++ ([(oa, .inl (ok, 1, .inr (.inl ou)))])) (gcT kc ++ ([(ok, .long)])) sz) (va_Qi (fun (rv : Int32) (_u : Unit) => rv = 1) (fun _u t9 => va_P (dC, dI) vwCl (gcW h kc f1 f2 dr cl tr se (nI g) (nI r) inf (nI ct) ++ ([(oa, .inl (ok, 1, .inr (.inl ou)))])) t9.heap ∧ va_D (va_A (gcW h kc f1 f2 dr cl tr se (nI g) (nI r) inf (nI ct) ++ ([(oa, .inl (ok, 1, .inr (.inl ou)))])) sz) (gcW h kc f1 f2 dr cl tr se (nI g) (nI r) inf (nI ct) ++ ([(oa, .inl (ok, 1, .inr (.inl ou)))]))) (va_A (gcW h kc f1 f2 dr cl tr se (nI g) (nI r) inf (nI ct) ++ ([(oa, .inl (ok, 1, .inr (.inl ou)))])) sz)) 1 6 (va_A (gcW h kc f1 f2 dr cl tr se (nI g) (nI r) inf (nI ct) ++ ([(oa, .inl (ok, 1, .inr (.inl ou)))])) sz) := by
  refine va_MetW (cc := cL_told) (maxL := 5) (ret := (some .int)) (by decide) rfl ?_
  intro p e s m args below meth c s₁ B hml hv
  obtain ⟨rfl, hsz, hP, hK, hD0, hgX⟩ := hv
  have hx := B.exec
  have hb := B.bytes
  have hr := B.returns
  have hts := atoms_spec (ws := wsL_told) B.pre
  have hown : s.vm.findClass RL = some m.cls := findClass_of_methodNamed B.named
  have hlocks := B.notSynchronized
  subst hsz
  have hD := hD0.self (sz := s.heap.size)
  generalize hAe : va_A (gcW h kc f1 f2 dr cl tr se (nI g) (nI r) inf (nI ct) ++ ([(oa, .inl (ok, 1, .inr (.inl ou)))])) s.heap.size = A at hD ⊢
  have hA : ∀ q : Nat, s.heap.size ≤ q → A q := fun q h => by rw [← hAe]; exact Or.inr h
  have hS : va_S A s.heap s.heap [] := va_S.rf
  have hgl := hl
  have hP : va_P (dC, dI) vwCl (gcW h kc f1 f2 dr cl tr se (nI g) (nI r) inf (nI ct) ++ ([(oa, .inl (ok, 1, .inr (.inl ou)))])) s.heap := hP
  have hin0 : ∀ w ∈ wsX00, w ∈ wsL_told := by decide +kernel
  have hl := lv_entry [.ref (h 0), .int (nI x), .int v2, .ref oa] (n := 5) (Nat.le_of_ble_eq_true rfl)
  rw [lg_entry_eq]
  generalize (lg_sl [.ref (h 0), .int (nI x), .int v2, .ref oa] ++ List.replicate (5 - (lg_sl [.ref (h 0), .int (nI x), .int v2, .ref oa]).length) Slot.unset).toArray = ls at hl ⊢
  have hl : lv_has ls 5 [(0, .ref (h 0)), (1, .int (nI x)), (2, .int v2), (3, .ref oa)] := hl
  refine lv_aload_n hx hb dL_told_0 rfl (lv_at hl 3 rfl) ?_
  refine lv_iconst (v := 0) hx hb dL_told_1 (by decide) ?_
  refine lv_aload_n hx hb dL_told_2 rfl (lv_at hl 0 rfl) ?_
  refine lv_iload_n hx hb dL_told_3 rfl (lv_at hl 1 rfl) ?_
  refine lv_iload_n hx hb dL_told_4 rfl (lv_at hl 2 rfl) ?_
  have hPc : va_P (dC, dI) vwCl (gcW h kc f1 f2 dr cl tr se (nI g) (nI r) inf (nI ct)) _ := hP.sub [0, 1, 2, 3, 4, 5, 6] rfl
  have hKc : va_K (dC, dI) vwCl (gcT kc) s := hK.sub [0, 1, 2, 3, 4, 5] rfl
  refine vx_calli (vx_runV (As := [.int (nI x), .int v2]) (rest := [.int 0, .ref oa]) ⟨hx, hb, hml, hown, hts⟩ (x_X0_told_2 l hgl dC dI h kc f1 f2 dr cl tr se g r inf ct x v2 (by first | assumption | omega) (by first | assumption | omega) (by first | assumption | omega)) (cwV 2 hts gL_told_X0_told rfl rfl rfl (by decide +kernel) ⟨Nat.le_of_ble_eq_true rfl, Nat.le_of_ble_eq_true rfl⟩) ⟨gcPX_blind, va_recv hK hP (ci := 0) (q0 := 0) rfl rfl, fun U hU hW => ⟨rfl, by rw [hU]; exact hPc, va_K.moved hW.alike hKc, gcX_go hgX hW (fun a ha => by rw [hU] <;> first | rfl | exact hS.2.1 a ha id)⟩⟩ rfl rfl hl.1 rfl (lv_room (Nat.le_of_ble_eq_true rfl)) dL_told_5 ⟨Nat.le_of_ble_eq_true rfl, Nat.le_of_ble_eq_true rfl⟩) hS (fun q _ h => h.elim) (fun q h => h.elim) (fun q _ h => h.elim) (fun E ce q9 u t H locs ht hvm hpx hBX hz1 hk1 hS hce hcv hcl => ?_) (fun _ u t H locs ht hvm hw hB hz1 hk1 hS => hw.elim)
  have hE : E = "java/lang/IndexOutOfBoundsException" := hBX
  subst hE
  have htab := vx_table (x := yL_told) B (hts (.codeWith yL_told cL_told 5 (some .int) [(0, 10, 13, 19)]) (by decide +kernel))
  have hP := gc_keep hP hk1
  refine vx_catch hown [] ⟨0, 10, 13, 19⟩ [] (by rw [htab]; rfl) (fun z h => absurd h List.not_mem_nil) (by decide) (by decide) (hts (.classLink RL 19 "java/lang/IndexOutOfBoundsException") (by decide +kernel)) (va_Nw.use rfl (hgX.1 (.castable "java/lang/IndexOutOfBoundsException" "java/lang/IndexOutOfBoundsException") (by decide +kernel))) hce hcv hcl ?_
  refine lv_astore (lv' := [(4, .ref q9), (0, .ref (h 0)), (1, .int (nI x)), (2, .int v2), (3, .ref oa)]) hx hb dL_told_13 hl (by decide) rfl (fun ls hl => ?_)
  refine lv_iconst (v := 1) hx hb dL_told_15 (by decide) ?_
  have hpost : (1 : Int32) = 1 := by rfl
  exact W.iret (v := 1) hx hb hr (fun t ht hW => ⟨⟨1, (), rfl, hpost, ⟨by rw [ht]; exact hP, hD⟩⟩, hS.F ht⟩) hS.2.2 dL_told_16
set_option maxHeartbeats 4000000 in
set_option maxRecDepth 100000 in
theorem wx_follows (l : Launch) (hl : l.stackTraces = false) (dC : Nat → ClassId) (dI : Nat → Nat → Nat) (h : Nat → Nat) (kc : Nat → ClassId) (f1 : Nat → Int32) (f2 : Nat → Int32) (dr : Nat → Int32) (cl : Nat → Int32) (tr : Nat → Int32) (se : Nat → Int32) (g : Nat) (r : Nat) (inf : Int32) (ct : Nat) (oa : Nat) (ok : ClassId) (ou : Nat → Int64) (v1 : Int32) (v2 : Int32) (sz : Nat) (hg : g ≤ 10) (hno : (∀ j : Nat, j < 2 * g → v1 ≠ nI j) ∨ ∀ j : Nat, j < 2 * g → v2 ≠ nI j) : Met l yL_follows wsL_follows ({ frames := 8, cells := 1, slots := 6, locals := 126 }) (gcPN (dC, dI) [.ref (h 0), .int v1, .int v2, .ref oa] (gcW h kc f1 f2 dr cl tr se (nI g) (nI r) inf (nI ct) ++ ([(oa, .inl (ok, 1, .inr (.inl ou)))])) (gcT kc ++ ([(ok, .long)])) sz) (va_Qi (fun (rv : Int32) (_u : Unit) => rv = 1) (fun _u t9 => va_P (dC, dI) vwCl (gcW h kc f1 f2 dr cl tr se (nI g) (nI r) inf (nI ct) ++ ([(oa, .inl (ok, 1, .inr (.inl ou)))])) t9.heap ∧ va_D (va_A (gcW h kc f1 f2 dr cl tr se (nI g) (nI r) inf (nI ct) ++ ([(oa, .inl (ok, 1, .inr (.inl ou)))])) sz) (gcW h kc f1 f2 dr cl tr se (nI g) (nI r) inf (nI ct) ++ ([(oa, .inl (ok, 1, .inr (.inl ou)))]))) (va_A (gcW h kc f1 f2 dr cl tr se (nI g) (nI r) inf (nI ct) ++ ([(oa, .inl (ok, 1, .inr (.inl ou)))])) sz)) 1 6 (va_A (gcW h kc f1 f2 dr cl tr se (nI g) (nI r) inf (nI ct) ++ ([(oa, .inl (ok, 1, .inr (.inl ou)))])) sz) := by
  refine va_MetW (cc := cL_follows) (maxL := 5) (ret := (some .int)) (by decide) rfl ?_
  intro p e s m args below meth c s₁ B hml hv
  obtain ⟨rfl, hsz, hP, hK, hD0, hgX⟩ := hv
  have hx := B.exec
  have hb := B.bytes
  have hr := B.returns
  have hts := atoms_spec (ws := wsL_follows) B.pre
  have hown : s.vm.findClass RL = some m.cls := findClass_of_methodNamed B.named
  have hlocks := B.notSynchronized
  subst hsz
  have hD := hD0.self (sz := s.heap.size)
  generalize hAe : va_A (gcW h kc f1 f2 dr cl tr se (nI g) (nI r) inf (nI ct) ++ ([(oa, .inl (ok, 1, .inr (.inl ou)))])) s.heap.size = A at hD ⊢
  have hA : ∀ q : Nat, s.heap.size ≤ q → A q := fun q h => by rw [← hAe]; exact Or.inr h
  have hS : va_S A s.heap s.heap [] := va_S.rf
  have hgl := hl
  have hP : va_P (dC, dI) vwCl (gcW h kc f1 f2 dr cl tr se (nI g) (nI r) inf (nI ct) ++ ([(oa, .inl (ok, 1, .inr (.inl ou)))])) s.heap := hP
  have hin0 : ∀ w ∈ wsX00, w ∈ wsL_follows := by decide +kernel
  have hl := lv_entry [.ref (h 0), .int v1, .int v2, .ref oa] (n := 5) (Nat.le_of_ble_eq_true rfl)
  rw [lg_entry_eq]
  generalize (lg_sl [.ref (h 0), .int v1, .int v2, .ref oa] ++ List.replicate (5 - (lg_sl [.ref (h 0), .int v1, .int v2, .ref oa]).length) Slot.unset).toArray = ls at hl ⊢
  have hl : lv_has ls 5 [(0, .ref (h 0)), (1, .int v1), (2, .int v2), (3, .ref oa)] := hl
  refine lv_aload_n hx hb dL_follows_0 rfl (lv_at hl 3 rfl) ?_
  refine lv_iconst (v := 0) hx hb dL_follows_1 (by decide) ?_
  refine lv_aload_n hx hb dL_follows_2 rfl (lv_at hl 0 rfl) ?_
  refine lv_iload_n hx hb dL_follows_3 rfl (lv_at hl 1 rfl) ?_
  refine lv_iload_n hx hb dL_follows_4 rfl (lv_at hl 2 rfl) ?_
  have hPc : va_P (dC, dI) vwCl (gcW h kc f1 f2 dr cl tr se (nI g) (nI r) inf (nI ct)) _ := hP.sub [0, 1, 2, 3, 4, 5, 6] rfl
  have hKc : va_K (dC, dI) vwCl (gcT kc) s := hK.sub [0, 1, 2, 3, 4, 5] rfl
  refine vx_calli (vx_runV (As := [.int v1, .int v2]) (rest := [.int 0, .ref oa]) ⟨hx, hb, hml, hown, hts⟩ (x_X0_follows l hgl dC dI h kc f1 f2 dr cl tr se g r inf ct v1 v2 (by first | assumption | omega) (by first | assumption | omega)) (cwV 2 hts gL_follows_X0_follows rfl rfl rfl (by decide +kernel) ⟨Nat.le_of_ble_eq_true rfl, Nat.le_of_ble_eq_true rfl⟩) ⟨gcPX_blind, va_recv hK hP (ci := 0) (q0 := 0) rfl rfl, fun U hU hW => ⟨rfl, by rw [hU]; exact hPc, va_K.moved hW.alike hKc, gcX_go hgX hW (fun a ha => by rw [hU] <;> first | rfl | exact hS.2.1 a ha id)⟩⟩ rfl rfl hl.1 rfl (lv_room (Nat.le_of_ble_eq_true rfl)) dL_follows_5 ⟨Nat.le_of_ble_eq_true rfl, Nat.le_of_ble_eq_true rfl⟩) hS (fun q _ h => h.elim) (fun q h => h.elim) (fun q _ h => h.elim) (fun E ce q9 u t H locs ht hvm hpx hBX hz1 hk1 hS hce hcv hcl => ?_) (fun _ u t H locs ht hvm hw hB hz1 hk1 hS => hw.elim)
  have hE : E = "java/lang/IndexOutOfBoundsException" := hBX
  subst hE
  have htab := vx_table (x := yL_follows) B (hts (.codeWith yL_follows cL_follows 5 (some .int) [(0, 17, 20, 19)]) (by decide +kernel))
  have hP := gc_keep hP hk1
  refine vx_catch hown [] ⟨0, 17, 20, 19⟩ [] (by rw [htab]; rfl) (fun z h => absurd h List.not_mem_nil) (by decide) (by decide) (hts (.classLink RL 19 "java/lang/IndexOutOfBoundsException") (by decide +kernel)) (va_Nw.use rfl (hgX.1 (.castable "java/lang/IndexOutOfBoundsException" "java/lang/IndexOutOfBoundsException") (by decide +kernel))) hce hcv hcl ?_
  refine lv_astore (lv' := [(4, .ref q9), (0, .ref (h 0)), (1, .int v1), (2, .int v2), (3, .ref oa)]) hx hb dL_follows_20 hl (by decide) rfl (fun ls hl => ?_)
  refine lv_iconst (v := 1) hx hb dL_follows_22 (by decide) ?_
  have hpost : (1 : Int32) = 1 := by rfl
  exact W.iret (v := 1) hx hb hr (fun t ht hW => ⟨⟨1, (), rfl, hpost, ⟨by rw [ht]; exact hP, hD⟩⟩, hS.F ht⟩) hS.2.2 dL_follows_23
set_option maxHeartbeats 4000000 in
set_option maxRecDepth 100000 in
theorem wx_steps (l : Launch) (hl : l.stackTraces = false) (dC : Nat → ClassId) (dI : Nat → Nat → Nat) (h : Nat → Nat) (kc : Nat → ClassId) (f1 : Nat → Int32) (f2 : Nat → Int32) (dr : Nat → Int32) (cl : Nat → Int32) (tr : Nat → Int32) (se : Nat → Int32) (g : Nat) (r : Nat) (inf : Int32) (ct : Nat) (oa : Nat) (ok : ClassId) (ou : Nat → Int64) (v1 : Int32) (v2 : Int32) (sz : Nat) (hg : g ≤ 10) (hno : (∀ j : Nat, j < 2 * g → v1 ≠ nI j) ∨ ∀ j : Nat, j < 2 * g → v2 ≠ nI j) : Met l yL_steps wsL_steps ({ frames := 8, cells := 1, slots := 6, locals := 128 }) (gcPN (dC, dI) [.ref (h 0), .int v1, .int v2, .ref oa] (gcW h kc f1 f2 dr cl tr se (nI g) (nI r) inf (nI ct) ++ ([(oa, .inl (ok, 1, .inr (.inl ou)))])) (gcT kc ++ ([(ok, .long)])) sz) (va_Qi (fun (rv : Int32) (_u : Unit) => rv = 1) (fun _u t9 => va_P (dC, dI) vwCl (gcW h kc f1 f2 dr cl tr se (nI g) (nI r) inf (nI ct) ++ ([(oa, .inl (ok, 1, .inr (.inl ou)))])) t9.heap ∧ va_D (va_A (gcW h kc f1 f2 dr cl tr se (nI g) (nI r) inf (nI ct) ++ ([(oa, .inl (ok, 1, .inr (.inl ou)))])) sz) (gcW h kc f1 f2 dr cl tr se (nI g) (nI r) inf (nI ct) ++ ([(oa, .inl (ok, 1, .inr (.inl ou)))]))) (va_A (gcW h kc f1 f2 dr cl tr se (nI g) (nI r) inf (nI ct) ++ ([(oa, .inl (ok, 1, .inr (.inl ou)))])) sz)) 1 6 (va_A (gcW h kc f1 f2 dr cl tr se (nI g) (nI r) inf (nI ct) ++ ([(oa, .inl (ok, 1, .inr (.inl ou)))])) sz) := by
  refine va_MetW (cc := cL_steps) (maxL := 5) (ret := (some .int)) (by decide) rfl ?_
  intro p e s m args below meth c s₁ B hml hv
  obtain ⟨rfl, hsz, hP, hK, hD0, hgX⟩ := hv
  have hx := B.exec
  have hb := B.bytes
  have hr := B.returns
  have hts := atoms_spec (ws := wsL_steps) B.pre
  have hown : s.vm.findClass RL = some m.cls := findClass_of_methodNamed B.named
  have hlocks := B.notSynchronized
  subst hsz
  have hD := hD0.self (sz := s.heap.size)
  generalize hAe : va_A (gcW h kc f1 f2 dr cl tr se (nI g) (nI r) inf (nI ct) ++ ([(oa, .inl (ok, 1, .inr (.inl ou)))])) s.heap.size = A at hD ⊢
  have hA : ∀ q : Nat, s.heap.size ≤ q → A q := fun q h => by rw [← hAe]; exact Or.inr h
  have hS : va_S A s.heap s.heap [] := va_S.rf
  have hgl := hl
  have hP : va_P (dC, dI) vwCl (gcW h kc f1 f2 dr cl tr se (nI g) (nI r) inf (nI ct) ++ ([(oa, .inl (ok, 1, .inr (.inl ou)))])) s.heap := hP
  have hin0 : ∀ w ∈ wsX00, w ∈ wsL_steps := by decide +kernel
  have hl := lv_entry [.ref (h 0), .int v1, .int v2, .ref oa] (n := 5) (Nat.le_of_ble_eq_true rfl)
  rw [lg_entry_eq]
  generalize (lg_sl [.ref (h 0), .int v1, .int v2, .ref oa] ++ List.replicate (5 - (lg_sl [.ref (h 0), .int v1, .int v2, .ref oa]).length) Slot.unset).toArray = ls at hl ⊢
  have hl : lv_has ls 5 [(0, .ref (h 0)), (1, .int v1), (2, .int v2), (3, .ref oa)] := hl
  refine lv_aload_n hx hb dL_steps_0 rfl (lv_at hl 3 rfl) ?_
  refine lv_iconst (v := 0) hx hb dL_steps_1 (by decide) ?_
  refine lv_aload_n hx hb dL_steps_2 rfl (lv_at hl 0 rfl) ?_
  refine lv_iload_n hx hb dL_steps_3 rfl (lv_at hl 1 rfl) ?_
  refine lv_iload_n hx hb dL_steps_4 rfl (lv_at hl 2 rfl) ?_
  have hPc : va_P (dC, dI) vwCl (gcW h kc f1 f2 dr cl tr se (nI g) (nI r) inf (nI ct)) _ := hP.sub [0, 1, 2, 3, 4, 5, 6] rfl
  have hKc : va_K (dC, dI) vwCl (gcT kc) s := hK.sub [0, 1, 2, 3, 4, 5] rfl
  refine vx_calli (vx_runV (As := [.int v1, .int v2]) (rest := [.int 0, .ref oa]) ⟨hx, hb, hml, hown, hts⟩ (x_X0_steps l hgl dC dI h kc f1 f2 dr cl tr se g r inf ct v1 v2 (by first | assumption | omega) (by first | assumption | omega)) (cwV 2 hts gL_steps_X0_steps rfl rfl rfl (by decide +kernel) ⟨Nat.le_of_ble_eq_true rfl, Nat.le_of_ble_eq_true rfl⟩) ⟨gcPX_blind, va_recv hK hP (ci := 0) (q0 := 0) rfl rfl, fun U hU hW => ⟨rfl, by rw [hU]; exact hPc, va_K.moved hW.alike hKc, gcX_go hgX hW (fun a ha => by rw [hU] <;> first | rfl | exact hS.2.1 a ha id)⟩⟩ rfl rfl hl.1 rfl (lv_room (Nat.le_of_ble_eq_true rfl)) dL_steps_5 ⟨Nat.le_of_ble_eq_true rfl, Nat.le_of_ble_eq_true rfl⟩) hS (fun q _ h => h.elim) (fun q h => h.elim) (fun q _ h => h.elim) (fun E ce q9 u t H locs ht hvm hpx hBX hz1 hk1 hS hce hcv hcl => ?_) (fun _ u t H locs ht hvm hw hB hz1 hk1 hS => hw.elim)
  have hE : E = "java/lang/IndexOutOfBoundsException" := hBX
  subst hE
  have htab := vx_table (x := yL_steps) B (hts (.codeWith yL_steps cL_steps 5 (some .int) [(0, 10, 13, 19)]) (by decide +kernel))
  have hP := gc_keep hP hk1
  refine vx_catch hown [] ⟨0, 10, 13, 19⟩ [] (by rw [htab]; rfl) (fun z h => absurd h List.not_mem_nil) (by decide) (by decide) (hts (.classLink RL 19 "java/lang/IndexOutOfBoundsException") (by decide +kernel)) (va_Nw.use rfl (hgX.1 (.castable "java/lang/IndexOutOfBoundsException" "java/lang/IndexOutOfBoundsException") (by decide +kernel))) hce hcv hcl ?_
  refine lv_astore (lv' := [(4, .ref q9), (0, .ref (h 0)), (1, .int v1), (2, .int v2), (3, .ref oa)]) hx hb dL_steps_13 hl (by decide) rfl (fun ls hl => ?_)
  refine lv_iconst (v := 1) hx hb dL_steps_15 (by decide) ?_
  have hpost : (1 : Int32) = 1 := by rfl
  exact W.iret (v := 1) hx hb hr (fun t ht hW => ⟨⟨1, (), rfl, hpost, ⟨by rw [ht]; exact hP, hD⟩⟩, hS.F ht⟩) hS.2.2 dL_steps_16
set_option maxHeartbeats 4000000 in
set_option maxRecDepth 100000 in
theorem wx_tightens (l : Launch) (hl : l.stackTraces = false) (dC : Nat → ClassId) (dI : Nat → Nat → Nat) (h : Nat → Nat) (kc : Nat → ClassId) (f1 : Nat → Int32) (f2 : Nat → Int32) (dr : Nat → Int32) (cl : Nat → Int32) (tr : Nat → Int32) (se : Nat → Int32) (g : Nat) (r : Nat) (inf : Int32) (ct : Nat) (oa : Nat) (ok : ClassId) (ou : Nat → Int64) (v1 : Int32) (v2 : Int32) (sz : Nat) (hg : g ≤ 10) (hno : (∀ j : Nat, j < 2 * g → v1 ≠ nI j) ∨ ∀ j : Nat, j < 2 * g → v2 ≠ nI j) : Met l yL_tightens wsL_tightens ({ frames := 8, cells := 1, slots := 6, locals := 129 }) (gcPN (dC, dI) [.ref (h 0), .int v1, .int v2, .ref oa] (gcW h kc f1 f2 dr cl tr se (nI g) (nI r) inf (nI ct) ++ ([(oa, .inl (ok, 1, .inr (.inl ou)))])) (gcT kc ++ ([(ok, .long)])) sz) (va_Qi (fun (rv : Int32) (_u : Unit) => rv = 1) (fun _u t9 => va_P (dC, dI) vwCl (gcW h kc f1 f2 dr cl tr se (nI g) (nI r) inf (nI ct) ++ ([(oa, .inl (ok, 1, .inr (.inl ou)))])) t9.heap ∧ va_D (va_A (gcW h kc f1 f2 dr cl tr se (nI g) (nI r) inf (nI ct) ++ ([(oa, .inl (ok, 1, .inr (.inl ou)))])) sz) (gcW h kc f1 f2 dr cl tr se (nI g) (nI r) inf (nI ct) ++ ([(oa, .inl (ok, 1, .inr (.inl ou)))]))) (va_A (gcW h kc f1 f2 dr cl tr se (nI g) (nI r) inf (nI ct) ++ ([(oa, .inl (ok, 1, .inr (.inl ou)))])) sz)) 1 6 (va_A (gcW h kc f1 f2 dr cl tr se (nI g) (nI r) inf (nI ct) ++ ([(oa, .inl (ok, 1, .inr (.inl ou)))])) sz) := by
  refine va_MetW (cc := cL_tightens) (maxL := 5) (ret := (some .int)) (by decide) rfl ?_
  intro p e s m args below meth c s₁ B hml hv
  obtain ⟨rfl, hsz, hP, hK, hD0, hgX⟩ := hv
  have hx := B.exec
  have hb := B.bytes
  have hr := B.returns
  have hts := atoms_spec (ws := wsL_tightens) B.pre
  have hown : s.vm.findClass RL = some m.cls := findClass_of_methodNamed B.named
  have hlocks := B.notSynchronized
  subst hsz
  have hD := hD0.self (sz := s.heap.size)
  generalize hAe : va_A (gcW h kc f1 f2 dr cl tr se (nI g) (nI r) inf (nI ct) ++ ([(oa, .inl (ok, 1, .inr (.inl ou)))])) s.heap.size = A at hD ⊢
  have hA : ∀ q : Nat, s.heap.size ≤ q → A q := fun q h => by rw [← hAe]; exact Or.inr h
  have hS : va_S A s.heap s.heap [] := va_S.rf
  have hgl := hl
  have hP : va_P (dC, dI) vwCl (gcW h kc f1 f2 dr cl tr se (nI g) (nI r) inf (nI ct) ++ ([(oa, .inl (ok, 1, .inr (.inl ou)))])) s.heap := hP
  have hin0 : ∀ w ∈ wsX00, w ∈ wsL_tightens := by decide +kernel
  have hl := lv_entry [.ref (h 0), .int v1, .int v2, .ref oa] (n := 5) (Nat.le_of_ble_eq_true rfl)
  rw [lg_entry_eq]
  generalize (lg_sl [.ref (h 0), .int v1, .int v2, .ref oa] ++ List.replicate (5 - (lg_sl [.ref (h 0), .int v1, .int v2, .ref oa]).length) Slot.unset).toArray = ls at hl ⊢
  have hl : lv_has ls 5 [(0, .ref (h 0)), (1, .int v1), (2, .int v2), (3, .ref oa)] := hl
  refine lv_aload_n hx hb dL_tightens_0 rfl (lv_at hl 3 rfl) ?_
  refine lv_iconst (v := 0) hx hb dL_tightens_1 (by decide) ?_
  refine lv_aload_n hx hb dL_tightens_2 rfl (lv_at hl 0 rfl) ?_
  refine lv_iload_n hx hb dL_tightens_3 rfl (lv_at hl 1 rfl) ?_
  refine lv_iload_n hx hb dL_tightens_4 rfl (lv_at hl 2 rfl) ?_
  have hPc : va_P (dC, dI) vwCl (gcW h kc f1 f2 dr cl tr se (nI g) (nI r) inf (nI ct)) _ := hP.sub [0, 1, 2, 3, 4, 5, 6] rfl
  have hKc : va_K (dC, dI) vwCl (gcT kc) s := hK.sub [0, 1, 2, 3, 4, 5] rfl
  refine vx_calli (vx_runV (As := [.int v1, .int v2]) (rest := [.int 0, .ref oa]) ⟨hx, hb, hml, hown, hts⟩ (x_X0_tightens l hgl dC dI h kc f1 f2 dr cl tr se g r inf ct v1 v2 (by first | assumption | omega) (by first | assumption | omega)) (cwV 2 hts gL_tightens_X0_tightens rfl rfl rfl (by decide +kernel) ⟨Nat.le_of_ble_eq_true rfl, Nat.le_of_ble_eq_true rfl⟩) ⟨gcPX_blind, va_recv hK hP (ci := 0) (q0 := 0) rfl rfl, fun U hU hW => ⟨rfl, by rw [hU]; exact hPc, va_K.moved hW.alike hKc, gcX_go hgX hW (fun a ha => by rw [hU] <;> first | rfl | exact hS.2.1 a ha id)⟩⟩ rfl rfl hl.1 rfl (lv_room (Nat.le_of_ble_eq_true rfl)) dL_tightens_5 ⟨Nat.le_of_ble_eq_true rfl, Nat.le_of_ble_eq_true rfl⟩) hS (fun q _ h => h.elim) (fun q h => h.elim) (fun q _ h => h.elim) (fun E ce q9 u t H locs ht hvm hpx hBX hz1 hk1 hS hce hcv hcl => ?_) (fun _ u t H locs ht hvm hw hB hz1 hk1 hS => hw.elim)
  have hE : E = "java/lang/IndexOutOfBoundsException" := hBX
  subst hE
  have htab := vx_table (x := yL_tightens) B (hts (.codeWith yL_tightens cL_tightens 5 (some .int) [(0, 10, 13, 19)]) (by decide +kernel))
  have hP := gc_keep hP hk1
  refine vx_catch hown [] ⟨0, 10, 13, 19⟩ [] (by rw [htab]; rfl) (fun z h => absurd h List.not_mem_nil) (by decide) (by decide) (hts (.classLink RL 19 "java/lang/IndexOutOfBoundsException") (by decide +kernel)) (va_Nw.use rfl (hgX.1 (.castable "java/lang/IndexOutOfBoundsException" "java/lang/IndexOutOfBoundsException") (by decide +kernel))) hce hcv hcl ?_
  refine lv_astore (lv' := [(4, .ref q9), (0, .ref (h 0)), (1, .int v1), (2, .int v2), (3, .ref oa)]) hx hb dL_tightens_13 hl (by decide) rfl (fun ls hl => ?_)
  refine lv_iconst (v := 1) hx hb dL_tightens_15 (by decide) ?_
  have hpost : (1 : Int32) = 1 := by rfl
  exact W.iret (v := 1) hx hb hr (fun t ht hW => ⟨⟨1, (), rfl, hpost, ⟨by rw [ht]; exact hP, hD⟩⟩, hS.F ht⟩) hS.2.2 dL_tightens_16
set_option maxHeartbeats 4000000 in
set_option maxRecDepth 100000 in
theorem wx_reach (l : Launch) (hl : l.stackTraces = false) (dC : Nat → ClassId) (dI : Nat → Nat → Nat) (h : Nat → Nat) (kc : Nat → ClassId) (f1 : Nat → Int32) (f2 : Nat → Int32) (dr : Nat → Int32) (cl : Nat → Int32) (tr : Nat → Int32) (se : Nat → Int32) (g : Nat) (r : Nat) (inf : Int32) (ct : Nat) (oa : Nat) (ok : ClassId) (ou : Nat → Int64) (v : Int32) (sz : Nat) (hg : g ≤ 10) (hno : ∀ j : Nat, j < 2 * g → v ≠ nI j) : Met l yL_reach wsL_reach ({ frames := 8, cells := 1, slots := 6, locals := 125 }) (gcPN (dC, dI) [.ref (h 0), .int v, .ref oa] (gcW h kc f1 f2 dr cl tr se (nI g) (nI r) inf (nI ct) ++ ([(oa, .inl (ok, 1, .inr (.inl ou)))])) (gcT kc ++ ([(ok, .long)])) sz) (va_Qi (fun (rv : Int32) (_u : Unit) => rv = 1) (fun _u t9 => va_P (dC, dI) vwCl (gcW h kc f1 f2 dr cl tr se (nI g) (nI r) inf (nI ct) ++ ([(oa, .inl (ok, 1, .inr (.inl ou)))])) t9.heap ∧ va_D (va_A (gcW h kc f1 f2 dr cl tr se (nI g) (nI r) inf (nI ct) ++ ([(oa, .inl (ok, 1, .inr (.inl ou)))])) sz) (gcW h kc f1 f2 dr cl tr se (nI g) (nI r) inf (nI ct) ++ ([(oa, .inl (ok, 1, .inr (.inl ou)))]))) (va_A (gcW h kc f1 f2 dr cl tr se (nI g) (nI r) inf (nI ct) ++ ([(oa, .inl (ok, 1, .inr (.inl ou)))])) sz)) 1 6 (va_A (gcW h kc f1 f2 dr cl tr se (nI g) (nI r) inf (nI ct) ++ ([(oa, .inl (ok, 1, .inr (.inl ou)))])) sz) := by
  refine va_MetW (cc := cL_reach) (maxL := 4) (ret := (some .int)) (by decide) rfl ?_
  intro p e s m args below meth c s₁ B hml hv
  obtain ⟨rfl, hsz, hP, hK, hD0, hgX⟩ := hv
  have hx := B.exec
  have hb := B.bytes
  have hr := B.returns
  have hts := atoms_spec (ws := wsL_reach) B.pre
  have hown : s.vm.findClass RL = some m.cls := findClass_of_methodNamed B.named
  have hlocks := B.notSynchronized
  subst hsz
  have hD := hD0.self (sz := s.heap.size)
  generalize hAe : va_A (gcW h kc f1 f2 dr cl tr se (nI g) (nI r) inf (nI ct) ++ ([(oa, .inl (ok, 1, .inr (.inl ou)))])) s.heap.size = A at hD ⊢
  have hA : ∀ q : Nat, s.heap.size ≤ q → A q := fun q h => by rw [← hAe]; exact Or.inr h
  have hS : va_S A s.heap s.heap [] := va_S.rf
  have hgl := hl
  have hP : va_P (dC, dI) vwCl (gcW h kc f1 f2 dr cl tr se (nI g) (nI r) inf (nI ct) ++ ([(oa, .inl (ok, 1, .inr (.inl ou)))])) s.heap := hP
  have hin0 : ∀ w ∈ wsX00, w ∈ wsL_reach := by decide +kernel
  have hl := lv_entry [.ref (h 0), .int v, .ref oa] (n := 4) (Nat.le_of_ble_eq_true rfl)
  rw [lg_entry_eq]
  generalize (lg_sl [.ref (h 0), .int v, .ref oa] ++ List.replicate (4 - (lg_sl [.ref (h 0), .int v, .ref oa]).length) Slot.unset).toArray = ls at hl ⊢
  have hl : lv_has ls 4 [(0, .ref (h 0)), (1, .int v), (2, .ref oa)] := hl
  refine lv_aload_n hx hb dL_reach_0 rfl (lv_at hl 2 rfl) ?_
  refine lv_iconst (v := 0) hx hb dL_reach_1 (by decide) ?_
  refine lv_aload_n hx hb dL_reach_2 rfl (lv_at hl 0 rfl) ?_
  refine lv_iload_n hx hb dL_reach_3 rfl (lv_at hl 1 rfl) ?_
  have hPc : va_P (dC, dI) vwCl (gcW h kc f1 f2 dr cl tr se (nI g) (nI r) inf (nI ct)) _ := hP.sub [0, 1, 2, 3, 4, 5, 6] rfl
  have hKc : va_K (dC, dI) vwCl (gcT kc) s := hK.sub [0, 1, 2, 3, 4, 5] rfl
  refine vx_calli (vx_runV (As := [.int v]) (rest := [.int 0, .ref oa]) ⟨hx, hb, hml, hown, hts⟩ (x_X0_reach l hgl dC dI h kc f1 f2 dr cl tr se g r inf ct v (by first | assumption | omega) (by first | assumption | omega)) (cwV 1 hts gL_reach_X0_reach rfl rfl rfl (by decide +kernel) ⟨Nat.le_of_ble_eq_true rfl, Nat.le_of_ble_eq_true rfl⟩) ⟨gcPX_blind, va_recv hK hP (ci := 0) (q0 := 0) rfl rfl, fun U hU hW => ⟨rfl, by rw [hU]; exact hPc, va_K.moved hW.alike hKc, gcX_go hgX hW (fun a ha => by rw [hU] <;> first | rfl | exact hS.2.1 a ha id)⟩⟩ rfl rfl hl.1 rfl (lv_room (Nat.le_of_ble_eq_true rfl)) dL_reach_4 ⟨Nat.le_of_ble_eq_true rfl, Nat.le_of_ble_eq_true rfl⟩) hS (fun q _ h => h.elim) (fun q h => h.elim) (fun q _ h => h.elim) (fun E ce q9 u t H locs ht hvm hpx hBX hz1 hk1 hS hce hcv hcl => ?_) (fun _ u t H locs ht hvm hw hB hz1 hk1 hS => hw.elim)
  have hE : E = "java/lang/IndexOutOfBoundsException" := hBX
  subst hE
  have htab := vx_table (x := yL_reach) B (hts (.codeWith yL_reach cL_reach 4 (some .int) [(0, 9, 12, 19)]) (by decide +kernel))
  have hP := gc_keep hP hk1
  refine vx_catch hown [] ⟨0, 9, 12, 19⟩ [] (by rw [htab]; rfl) (fun z h => absurd h List.not_mem_nil) (by decide) (by decide) (hts (.classLink RL 19 "java/lang/IndexOutOfBoundsException") (by decide +kernel)) (va_Nw.use rfl (hgX.1 (.castable "java/lang/IndexOutOfBoundsException" "java/lang/IndexOutOfBoundsException") (by decide +kernel))) hce hcv hcl ?_
  refine lv_astore_n (lv' := [(3, .ref q9), (0, .ref (h 0)), (1, .int v), (2, .ref oa)]) hx hb dL_reach_12 rfl hl (by decide) rfl (fun ls hl => ?_)
  refine lv_iconst (v := 1) hx hb dL_reach_13 (by decide) ?_
  have hpost : (1 : Int32) = 1 := by rfl
  exact W.iret (v := 1) hx hb hr (fun t ht hW => ⟨⟨1, (), rfl, hpost, ⟨by rw [ht]; exact hP, hD⟩⟩, hS.F ht⟩) hS.2.2 dL_reach_14
set_option maxHeartbeats 4000000 in
set_option maxRecDepth 100000 in
theorem wx_guest_1 (l : Launch) (hl : l.stackTraces = false) (dC : Nat → ClassId) (dI : Nat → Nat → Nat) (h : Nat → Nat) (kc : Nat → ClassId) (f1 : Nat → Int32) (f2 : Nat → Int32) (dr : Nat → Int32) (cl : Nat → Int32) (tr : Nat → Int32) (se : Nat → Int32) (g : Nat) (r : Nat) (inf : Int32) (ct : Nat) (oa : Nat) (ok : ClassId) (ou : Nat → Int64) (v1 : Int32) (v2 : Int32) (sz : Nat) (hg : g ≤ 10) (hno : ∀ j : Nat, j < g → v1 ≠ nI j) : Met l yL_guest wsL_guest ({ frames := 8, cells := 1, slots := 6, locals := 126 }) (gcPN (dC, dI) [.ref (h 0), .int v1, .int v2, .ref oa] (gcW h kc f1 f2 dr cl tr se (nI g) (nI r) inf (nI ct) ++ ([(oa, .inl (ok, 1, .inr (.inl ou)))])) (gcT kc ++ ([(ok, .long)])) sz) (va_Qi (fun (rv : Int32) (_u : Unit) => rv = 1) (fun _u t9 => va_P (dC, dI) vwCl (gcW h kc f1 f2 dr cl tr se (nI g) (nI r) inf (nI ct) ++ ([(oa, .inl (ok, 1, .inr (.inl ou)))])) t9.heap ∧ va_D (va_A (gcW h kc f1 f2 dr cl tr se (nI g) (nI r) inf (nI ct) ++ ([(oa, .inl (ok, 1, .inr (.inl ou)))])) sz) (gcW h kc f1 f2 dr cl tr se (nI g) (nI r) inf (nI ct) ++ ([(oa, .inl (ok, 1, .inr (.inl ou)))]))) (va_A (gcW h kc f1 f2 dr cl tr se (nI g) (nI r) inf (nI ct) ++ ([(oa, .inl (ok, 1, .inr (.inl ou)))])) sz)) 1 6 (va_A (gcW h kc f1 f2 dr cl tr se (nI g) (nI r) inf (nI ct) ++ ([(oa, .inl (ok, 1, .inr (.inl ou)))])) sz) := by
  refine va_MetW (cc := cL_guest) (maxL := 5) (ret := (some .int)) (by decide) rfl ?_
  intro p e s m args below meth c s₁ B hml hv
  obtain ⟨rfl, hsz, hP, hK, hD0, hgX⟩ := hv
  have hx := B.exec
  have hb := B.bytes
  have hr := B.returns
  have hts := atoms_spec (ws := wsL_guest) B.pre
  have hown : s.vm.findClass RL = some m.cls := findClass_of_methodNamed B.named
  have hlocks := B.notSynchronized
  subst hsz
  have hD := hD0.self (sz := s.heap.size)
  generalize hAe : va_A (gcW h kc f1 f2 dr cl tr se (nI g) (nI r) inf (nI ct) ++ ([(oa, .inl (ok, 1, .inr (.inl ou)))])) s.heap.size = A at hD ⊢
  have hA : ∀ q : Nat, s.heap.size ≤ q → A q := fun q h => by rw [← hAe]; exact Or.inr h
  have hS : va_S A s.heap s.heap [] := va_S.rf
  have hgl := hl
  have hP : va_P (dC, dI) vwCl (gcW h kc f1 f2 dr cl tr se (nI g) (nI r) inf (nI ct) ++ ([(oa, .inl (ok, 1, .inr (.inl ou)))])) s.heap := hP
  have hin0 : ∀ w ∈ wsX00, w ∈ wsL_guest := by decide +kernel
  have hl := lv_entry [.ref (h 0), .int v1, .int v2, .ref oa] (n := 5) (Nat.le_of_ble_eq_true rfl)
  rw [lg_entry_eq]
  generalize (lg_sl [.ref (h 0), .int v1, .int v2, .ref oa] ++ List.replicate (5 - (lg_sl [.ref (h 0), .int v1, .int v2, .ref oa]).length) Slot.unset).toArray = ls at hl ⊢
  have hl : lv_has ls 5 [(0, .ref (h 0)), (1, .int v1), (2, .int v2), (3, .ref oa)] := hl
  refine lv_aload_n hx hb dL_guest_0 rfl (lv_at hl 3 rfl) ?_
  refine lv_iconst (v := 0) hx hb dL_guest_1 (by decide) ?_
  refine lv_aload_n hx hb dL_guest_2 rfl (lv_at hl 0 rfl) ?_
  refine lv_iload_n hx hb dL_guest_3 rfl (lv_at hl 1 rfl) ?_
  refine lv_iload_n hx hb dL_guest_4 rfl (lv_at hl 2 rfl) ?_
  have hPc : va_P (dC, dI) vwCl (gcW h kc f1 f2 dr cl tr se (nI g) (nI r) inf (nI ct)) _ := hP.sub [0, 1, 2, 3, 4, 5, 6] rfl
  have hKc : va_K (dC, dI) vwCl (gcT kc) s := hK.sub [0, 1, 2, 3, 4, 5] rfl
  refine vx_calli (vx_runV (As := [.int v1, .int v2]) (rest := [.int 0, .ref oa]) ⟨hx, hb, hml, hown, hts⟩ (x_X0_guest_1 l hgl dC dI h kc f1 f2 dr cl tr se g r inf ct v1 v2 (by first | assumption | omega) (by first | assumption | omega)) (cwV 2 hts gL_guest_X0_guest rfl rfl rfl (by decide +kernel) ⟨Nat.le_of_ble_eq_true rfl, Nat.le_of_ble_eq_true rfl⟩) ⟨gcPX_blind, va_recv hK hP (ci := 0) (q0 := 0) rfl rfl, fun U hU hW => ⟨rfl, by rw [hU]; exact hPc, va_K.moved hW.alike hKc, gcX_go hgX hW (fun a ha => by rw [hU] <;> first | rfl | exact hS.2.1 a ha id)⟩⟩ rfl rfl hl.1 rfl (lv_room (Nat.le_of_ble_eq_true rfl)) dL_guest_5 ⟨Nat.le_of_ble_eq_true rfl, Nat.le_of_ble_eq_true rfl⟩) hS (fun q _ h => h.elim) (fun q h => h.elim) (fun q _ h => h.elim) (fun E ce q9 u t H locs ht hvm hpx hBX hz1 hk1 hS hce hcv hcl => ?_) (fun _ u t H locs ht hvm hw hB hz1 hk1 hS => hw.elim)
  have hE : E = "java/lang/IndexOutOfBoundsException" := hBX
  subst hE
  have htab := vx_table (x := yL_guest) B (hts (.codeWith yL_guest cL_guest 5 (some .int) [(0, 10, 13, 19)]) (by decide +kernel))
  have hP := gc_keep hP hk1
  refine vx_catch hown [] ⟨0, 10, 13, 19⟩ [] (by rw [htab]; rfl) (fun z h => absurd h List.not_mem_nil) (by decide) (by decide) (hts (.classLink RL 19 "java/lang/IndexOutOfBoundsException") (by decide +kernel)) (va_Nw.use rfl (hgX.1 (.castable "java/lang/IndexOutOfBoundsException" "java/lang/IndexOutOfBoundsException") (by decide +kernel))) hce hcv hcl ?_
  refine lv_astore (lv' := [(4, .ref q9), (0, .ref (h 0)), (1, .int v1), (2, .int v2), (3, .ref oa)]) hx hb dL_guest_13 hl (by decide) rfl (fun ls hl => ?_)
  refine lv_iconst (v := 1) hx hb dL_guest_15 (by decide) ?_
  have hpost : (1 : Int32) = 1 := by rfl
  exact W.iret (v := 1) hx hb hr (fun t ht hW => ⟨⟨1, (), rfl, hpost, ⟨by rw [ht]; exact hP, hD⟩⟩, hS.F ht⟩) hS.2.2 dL_guest_16
set_option maxHeartbeats 4000000 in
set_option maxRecDepth 100000 in
theorem wx_guest_2 (l : Launch) (hl : l.stackTraces = false) (dC : Nat → ClassId) (dI : Nat → Nat → Nat) (h : Nat → Nat) (kc : Nat → ClassId) (f1 : Nat → Int32) (f2 : Nat → Int32) (dr : Nat → Int32) (cl : Nat → Int32) (tr : Nat → Int32) (se : Nat → Int32) (g : Nat) (r : Nat) (inf : Int32) (ct : Nat) (oa : Nat) (ok : ClassId) (ou : Nat → Int64) (x : Nat) (v2 : Int32) (sz : Nat) (hg : g ≤ 10) (hx2 : x < g) (hno : ∀ j : Nat, j < 4 → v2 ≠ nI j) : Met l yL_guest wsL_guest ({ frames := 8, cells := 1, slots := 6, locals := 126 }) (gcPN (dC, dI) [.ref (h 0), .int (nI x), .int v2, .ref oa] (gcW h kc f1 f2 dr cl tr se (nI g) (nI r) inf (nI ct) ++ ([(oa, .inl (ok, 1, .inr (.inl ou)))])) (gcT kc ++ ([(ok, .long)])) sz) (va_Qi (fun (rv : Int32) (_u : Unit) => rv = 1) (fun _u t9 => va_P (dC, dI) vwCl (gcW h kc f1 f2 dr cl tr se (nI g) (nI r) inf (nI ct) ++ ([(oa, .inl (ok, 1, .inr (.inl ou)))])) t9.heap ∧ va_D (va_A (gcW h kc f1 f2 dr cl tr se (nI g) (nI r) inf (nI ct) ++ ([(oa, .inl (ok, 1, .inr (.inl ou)))])) sz) (gcW h kc f1 f2 dr cl tr se (nI g) (nI r) inf (nI ct) ++ ([(oa, .inl (ok, 1, .inr (.inl ou)))]))) (va_A (gcW h kc f1 f2 dr cl tr se (nI g) (nI r) inf (nI ct) ++ ([(oa, .inl (ok, 1, .inr (.inl ou)))])) sz)) 1 6 (va_A (gcW h kc f1 f2 dr cl tr se (nI g) (nI r) inf (nI ct) ++ ([(oa, .inl (ok, 1, .inr (.inl ou)))])) sz) := by
  refine va_MetW (cc := cL_guest) (maxL := 5) (ret := (some .int)) (by decide) rfl ?_
  intro p e s m args below meth c s₁ B hml hv
  obtain ⟨rfl, hsz, hP, hK, hD0, hgX⟩ := hv
  have hx := B.exec
  have hb := B.bytes
  have hr := B.returns
  have hts := atoms_spec (ws := wsL_guest) B.pre
  have hown : s.vm.findClass RL = some m.cls := findClass_of_methodNamed B.named
  have hlocks := B.notSynchronized
  subst hsz
  have hD := hD0.self (sz := s.heap.size)
  generalize hAe : va_A (gcW h kc f1 f2 dr cl tr se (nI g) (nI r) inf (nI ct) ++ ([(oa, .inl (ok, 1, .inr (.inl ou)))])) s.heap.size = A at hD ⊢
  have hA : ∀ q : Nat, s.heap.size ≤ q → A q := fun q h => by rw [← hAe]; exact Or.inr h
  have hS : va_S A s.heap s.heap [] := va_S.rf
  have hgl := hl
  have hP : va_P (dC, dI) vwCl (gcW h kc f1 f2 dr cl tr se (nI g) (nI r) inf (nI ct) ++ ([(oa, .inl (ok, 1, .inr (.inl ou)))])) s.heap := hP
  have hin0 : ∀ w ∈ wsX00, w ∈ wsL_guest := by decide +kernel
  have hl := lv_entry [.ref (h 0), .int (nI x), .int v2, .ref oa] (n := 5) (Nat.le_of_ble_eq_true rfl)
  rw [lg_entry_eq]
  generalize (lg_sl [.ref (h 0), .int (nI x), .int v2, .ref oa] ++ List.replicate (5 - (lg_sl [.ref (h 0), .int (nI x), .int v2, .ref oa]).length) Slot.unset).toArray = ls at hl ⊢
  have hl : lv_has ls 5 [(0, .ref (h 0)), (1, .int (nI x)), (2, .int v2), (3, .ref oa)] := hl
  refine lv_aload_n hx hb dL_guest_0 rfl (lv_at hl 3 rfl) ?_
  refine lv_iconst (v := 0) hx hb dL_guest_1 (by decide) ?_
  refine lv_aload_n hx hb dL_guest_2 rfl (lv_at hl 0 rfl) ?_
  refine lv_iload_n hx hb dL_guest_3 rfl (lv_at hl 1 rfl) ?_
  refine lv_iload_n hx hb dL_guest_4 rfl (lv_at hl 2 rfl) ?_
  have hPc : va_P (dC, dI) vwCl (gcW h kc f1 f2 dr cl tr se (nI g) (nI r) inf (nI ct)) _ := hP.sub [0, 1, 2, 3, 4, 5, 6] rfl
  have hKc : va_K (dC, dI) vwCl (gcT kc) s := hK.sub [0, 1, 2, 3, 4, 5] rfl
  refine vx_calli (vx_runV (As := [.int (nI x), .int v2]) (rest := [.int 0, .ref oa]) ⟨hx, hb, hml, hown, hts⟩ (x_X0_guest_2 l hgl dC dI h kc f1 f2 dr cl tr se g r inf ct x v2 (by first | assumption | omega) (by first | assumption | omega) (by first | assumption | omega)) (cwV 2 hts gL_guest_X0_guest rfl rfl rfl (by decide +kernel) ⟨Nat.le_of_ble_eq_true rfl, Nat.le_of_ble_eq_true rfl⟩) ⟨gcPX_blind, va_recv hK hP (ci := 0) (q0 := 0) rfl rfl, fun U hU hW => ⟨rfl, by rw [hU]; exact hPc, va_K.moved hW.alike hKc, gcX_go hgX hW (fun a ha => by rw [hU] <;> first | rfl | exact hS.2.1 a ha id)⟩⟩ rfl rfl hl.1 rfl (lv_room (Nat.le_of_ble_eq_true rfl)) dL_guest_5 ⟨Nat.le_of_ble_eq_true rfl, Nat.le_of_ble_eq_true rfl⟩) hS (fun q _ h => h.elim) (fun q h => h.elim) (fun q _ h => h.elim) (fun E ce q9 u t H locs ht hvm hpx hBX hz1 hk1 hS hce hcv hcl => ?_) (fun _ u t H locs ht hvm hw hB hz1 hk1 hS => hw.elim)
  have hE : E = "java/lang/IndexOutOfBoundsException" := hBX
  subst hE
  have htab := vx_table (x := yL_guest) B (hts (.codeWith yL_guest cL_guest 5 (some .int) [(0, 10, 13, 19)]) (by decide +kernel))
  have hP := gc_keep hP hk1
  refine vx_catch hown [] ⟨0, 10, 13, 19⟩ [] (by rw [htab]; rfl) (fun z h => absurd h List.not_mem_nil) (by decide) (by decide) (hts (.classLink RL 19 "java/lang/IndexOutOfBoundsException") (by decide +kernel)) (va_Nw.use rfl (hgX.1 (.castable "java/lang/IndexOutOfBoundsException" "java/lang/IndexOutOfBoundsException") (by decide +kernel))) hce hcv hcl ?_
  refine lv_astore (lv' := [(4, .ref q9), (0, .ref (h 0)), (1, .int (nI x)), (2, .int v2), (3, .ref oa)]) hx hb dL_guest_13 hl (by decide) rfl (fun ls hl => ?_)
  refine lv_iconst (v := 1) hx hb dL_guest_15 (by decide) ?_
  have hpost : (1 : Int32) = 1 := by rfl
  exact W.iret (v := 1) hx hb hr (fun t ht hW => ⟨⟨1, (), rfl, hpost, ⟨by rw [ht]; exact hP, hD⟩⟩, hS.F ht⟩) hS.2.2 dL_guest_16
set_option maxHeartbeats 4000000 in
set_option maxRecDepth 100000 in
theorem wx_broken (l : Launch) (hl : l.stackTraces = false) (dC : Nat → ClassId) (dI : Nat → Nat → Nat) (h : Nat → Nat) (kc : Nat → ClassId) (f1 : Nat → Int32) (f2 : Nat → Int32) (dr : Nat → Int32) (cl : Nat → Int32) (tr : Nat → Int32) (se : Nat → Int32) (g : Nat) (r : Nat) (inf : Int32) (ct : Nat) (oa : Nat) (ok : ClassId) (ou : Nat → Int64) (v : Int32) (sz : Nat) (hg : g ≤ 10) (hno : ∀ j : Nat, j < 2 ^ g → v ≠ nI j) : Met l yL_broken wsL_broken ({ frames := 7, cells := 1, slots := 6, locals := 104 }) (gcPN (dC, dI) [.ref (h 0), .int v, .ref oa] (gcW h kc f1 f2 dr cl tr se (nI g) (nI r) inf (nI ct) ++ ([(oa, .inl (ok, 1, .inr (.inl ou)))])) (gcT kc ++ ([(ok, .long)])) sz) (va_Qi (fun (rv : Int32) (_u : Unit) => rv = 1) (fun _u t9 => va_P (dC, dI) vwCl (gcW h kc f1 f2 dr cl tr se (nI g) (nI r) inf (nI ct) ++ ([(oa, .inl (ok, 1, .inr (.inl ou)))])) t9.heap ∧ va_D (va_A (gcW h kc f1 f2 dr cl tr se (nI g) (nI r) inf (nI ct) ++ ([(oa, .inl (ok, 1, .inr (.inl ou)))])) sz) (gcW h kc f1 f2 dr cl tr se (nI g) (nI r) inf (nI ct) ++ ([(oa, .inl (ok, 1, .inr (.inl ou)))]))) (va_A (gcW h kc f1 f2 dr cl tr se (nI g) (nI r) inf (nI ct) ++ ([(oa, .inl (ok, 1, .inr (.inl ou)))])) sz)) 1 6 (va_A (gcW h kc f1 f2 dr cl tr se (nI g) (nI r) inf (nI ct) ++ ([(oa, .inl (ok, 1, .inr (.inl ou)))])) sz) := by
  refine va_MetW (cc := cL_broken) (maxL := 4) (ret := (some .int)) (by decide) rfl ?_
  intro p e s m args below meth c s₁ B hml hv
  obtain ⟨rfl, hsz, hP, hK, hD0, hgX⟩ := hv
  have hx := B.exec
  have hb := B.bytes
  have hr := B.returns
  have hts := atoms_spec (ws := wsL_broken) B.pre
  have hown : s.vm.findClass RL = some m.cls := findClass_of_methodNamed B.named
  have hlocks := B.notSynchronized
  subst hsz
  have hD := hD0.self (sz := s.heap.size)
  generalize hAe : va_A (gcW h kc f1 f2 dr cl tr se (nI g) (nI r) inf (nI ct) ++ ([(oa, .inl (ok, 1, .inr (.inl ou)))])) s.heap.size = A at hD ⊢
  have hA : ∀ q : Nat, s.heap.size ≤ q → A q := fun q h => by rw [← hAe]; exact Or.inr h
  have hS : va_S A s.heap s.heap [] := va_S.rf
  have hgl := hl
  have hP : va_P (dC, dI) vwCl (gcW h kc f1 f2 dr cl tr se (nI g) (nI r) inf (nI ct) ++ ([(oa, .inl (ok, 1, .inr (.inl ou)))])) s.heap := hP
  have hin0 : ∀ w ∈ wsX00, w ∈ wsL_broken := by decide +kernel
  have hl := lv_entry [.ref (h 0), .int v, .ref oa] (n := 4) (Nat.le_of_ble_eq_true rfl)
  rw [lg_entry_eq]
  generalize (lg_sl [.ref (h 0), .int v, .ref oa] ++ List.replicate (4 - (lg_sl [.ref (h 0), .int v, .ref oa]).length) Slot.unset).toArray = ls at hl ⊢
  have hl : lv_has ls 4 [(0, .ref (h 0)), (1, .int v), (2, .ref oa)] := hl
  refine lv_aload_n hx hb dL_broken_0 rfl (lv_at hl 2 rfl) ?_
  refine lv_iconst (v := 0) hx hb dL_broken_1 (by decide) ?_
  refine lv_aload_n hx hb dL_broken_2 rfl (lv_at hl 0 rfl) ?_
  refine lv_iload_n hx hb dL_broken_3 rfl (lv_at hl 1 rfl) ?_
  have hPc : va_P (dC, dI) vwCl (gcW h kc f1 f2 dr cl tr se (nI g) (nI r) inf (nI ct)) _ := hP.sub [0, 1, 2, 3, 4, 5, 6] rfl
  have hKc : va_K (dC, dI) vwCl (gcT kc) s := hK.sub [0, 1, 2, 3, 4, 5] rfl
  refine vx_calli (vx_runV (As := [.int v]) (rest := [.int 0, .ref oa]) ⟨hx, hb, hml, hown, hts⟩ (x_X0_broken l hgl dC dI h kc f1 f2 dr cl tr se g r inf ct v (by first | assumption | omega) (by first | assumption | omega)) (cwV 1 hts gL_broken_X0_broken rfl rfl rfl (by decide +kernel) ⟨Nat.le_of_ble_eq_true rfl, Nat.le_of_ble_eq_true rfl⟩) ⟨gcPX_blind, va_recv hK hP (ci := 0) (q0 := 0) rfl rfl, fun U hU hW => ⟨rfl, by rw [hU]; exact hPc, va_K.moved hW.alike hKc, gcX_go hgX hW (fun a ha => by rw [hU] <;> first | rfl | exact hS.2.1 a ha id)⟩⟩ rfl rfl hl.1 rfl (lv_room (Nat.le_of_ble_eq_true rfl)) dL_broken_4 ⟨Nat.le_of_ble_eq_true rfl, Nat.le_of_ble_eq_true rfl⟩) hS (fun q _ h => h.elim) (fun q h => h.elim) (fun q _ h => h.elim) (fun E ce q9 u t H locs ht hvm hpx hBX hz1 hk1 hS hce hcv hcl => ?_) (fun _ u t H locs ht hvm hw hB hz1 hk1 hS => hw.elim)
  have hE : E = "java/lang/IllegalArgumentException" := hBX
  subst hE
  have htab := vx_table (x := yL_broken) B (hts (.codeWith yL_broken cL_broken 4 (some .int) [(0, 9, 12, 21)]) (by decide +kernel))
  have hP := gc_keep hP hk1
  refine vx_catch hown [] ⟨0, 9, 12, 21⟩ [] (by rw [htab]; rfl) (fun z h => absurd h List.not_mem_nil) (by decide) (by decide) (hts (.classLink RL 21 "java/lang/IllegalArgumentException") (by decide +kernel)) (va_Nw.use rfl (hgX.1 (.castable "java/lang/IllegalArgumentException" "java/lang/IllegalArgumentException") (by decide +kernel))) hce hcv hcl ?_
  refine lv_astore_n (lv' := [(3, .ref q9), (0, .ref (h 0)), (1, .int v), (2, .ref oa)]) hx hb dL_broken_12 rfl hl (by decide) rfl (fun ls hl => ?_)
  refine lv_iconst (v := 1) hx hb dL_broken_13 (by decide) ?_
  have hpost : (1 : Int32) = 1 := by rfl
  exact W.iret (v := 1) hx hb hr (fun t ht hW => ⟨⟨1, (), rfl, hpost, ⟨by rw [ht]; exact hP, hD⟩⟩, hS.F ht⟩) hS.2.2 dL_broken_14
set_option maxHeartbeats 4000000 in
set_option maxRecDepth 100000 in
theorem wx_count (l : Launch) (hl : l.stackTraces = false) (dC : Nat → ClassId) (dI : Nat → Nat → Nat) (h : Nat → Nat) (kc : Nat → ClassId) (f1 : Nat → Int32) (f2 : Nat → Int32) (dr : Nat → Int32) (cl : Nat → Int32) (tr : Nat → Int32) (se : Nat → Int32) (g : Nat) (r : Nat) (inf : Int32) (ct : Nat) (oa : Nat) (ok : ClassId) (ou : Nat → Int64) (v : Int32) (sz : Nat) (hno : ∀ j : Nat, j < 6 → v ≠ nI j) : Met l yL_count wsL_count ({ frames := 8, cells := 1, slots := 6, locals := 124 }) (gcPN (dC, dI) [.ref (h 0), .int v, .ref oa] (gcW h kc f1 f2 dr cl tr se (nI g) (nI r) inf (nI ct) ++ ([(oa, .inl (ok, 1, .inr (.inl ou)))])) (gcT kc ++ ([(ok, .long)])) sz) (va_Qi (fun (rv : Int32) (_u : Unit) => rv = 1) (fun _u t9 => va_P (dC, dI) vwCl (gcW h kc f1 f2 dr cl tr se (nI g) (nI r) inf (nI ct) ++ ([(oa, .inl (ok, 1, .inr (.inl ou)))])) t9.heap ∧ va_D (va_A (gcW h kc f1 f2 dr cl tr se (nI g) (nI r) inf (nI ct) ++ ([(oa, .inl (ok, 1, .inr (.inl ou)))])) sz) (gcW h kc f1 f2 dr cl tr se (nI g) (nI r) inf (nI ct) ++ ([(oa, .inl (ok, 1, .inr (.inl ou)))]))) (va_A (gcW h kc f1 f2 dr cl tr se (nI g) (nI r) inf (nI ct) ++ ([(oa, .inl (ok, 1, .inr (.inl ou)))])) sz)) 1 6 (va_A (gcW h kc f1 f2 dr cl tr se (nI g) (nI r) inf (nI ct) ++ ([(oa, .inl (ok, 1, .inr (.inl ou)))])) sz) := by
  refine va_MetW (cc := cL_count) (maxL := 4) (ret := (some .int)) (by decide) rfl ?_
  intro p e s m args below meth c s₁ B hml hv
  obtain ⟨rfl, hsz, hP, hK, hD0, hgX⟩ := hv
  have hx := B.exec
  have hb := B.bytes
  have hr := B.returns
  have hts := atoms_spec (ws := wsL_count) B.pre
  have hown : s.vm.findClass RL = some m.cls := findClass_of_methodNamed B.named
  have hlocks := B.notSynchronized
  subst hsz
  have hD := hD0.self (sz := s.heap.size)
  generalize hAe : va_A (gcW h kc f1 f2 dr cl tr se (nI g) (nI r) inf (nI ct) ++ ([(oa, .inl (ok, 1, .inr (.inl ou)))])) s.heap.size = A at hD ⊢
  have hA : ∀ q : Nat, s.heap.size ≤ q → A q := fun q h => by rw [← hAe]; exact Or.inr h
  have hS : va_S A s.heap s.heap [] := va_S.rf
  have hgl := hl
  have hP : va_P (dC, dI) vwCl (gcW h kc f1 f2 dr cl tr se (nI g) (nI r) inf (nI ct) ++ ([(oa, .inl (ok, 1, .inr (.inl ou)))])) s.heap := hP
  have hin0 : ∀ w ∈ wsX00, w ∈ wsL_count := by decide +kernel
  have hl := lv_entry [.ref (h 0), .int v, .ref oa] (n := 4) (Nat.le_of_ble_eq_true rfl)
  rw [lg_entry_eq]
  generalize (lg_sl [.ref (h 0), .int v, .ref oa] ++ List.replicate (4 - (lg_sl [.ref (h 0), .int v, .ref oa]).length) Slot.unset).toArray = ls at hl ⊢
  have hl : lv_has ls 4 [(0, .ref (h 0)), (1, .int v), (2, .ref oa)] := hl
  refine lv_aload_n hx hb dL_count_0 rfl (lv_at hl 2 rfl) ?_
  refine lv_iconst (v := 0) hx hb dL_count_1 (by decide) ?_
  refine lv_aload_n hx hb dL_count_2 rfl (lv_at hl 0 rfl) ?_
  refine lv_iload_n hx hb dL_count_3 rfl (lv_at hl 1 rfl) ?_
  have hPc : va_P (dC, dI) vwCl (gcW h kc f1 f2 dr cl tr se (nI g) (nI r) inf (nI ct)) _ := hP.sub [0, 1, 2, 3, 4, 5, 6] rfl
  have hKc : va_K (dC, dI) vwCl (gcT kc) s := hK.sub [0, 1, 2, 3, 4, 5] rfl
  refine vx_calli (vx_runV (As := [.int v]) (rest := [.int 0, .ref oa]) ⟨hx, hb, hml, hown, hts⟩ (x_X0_count l hgl dC dI h kc f1 f2 dr cl tr se g r inf ct v (by first | assumption | omega)) (cwV 1 hts gL_count_X0_count rfl rfl rfl (by decide +kernel) ⟨Nat.le_of_ble_eq_true rfl, Nat.le_of_ble_eq_true rfl⟩) ⟨gcPX_blind, va_recv hK hP (ci := 0) (q0 := 0) rfl rfl, fun U hU hW => ⟨rfl, by rw [hU]; exact hPc, va_K.moved hW.alike hKc, gcX_go hgX hW (fun a ha => by rw [hU] <;> first | rfl | exact hS.2.1 a ha id)⟩⟩ rfl rfl hl.1 rfl (lv_room (Nat.le_of_ble_eq_true rfl)) dL_count_4 ⟨Nat.le_of_ble_eq_true rfl, Nat.le_of_ble_eq_true rfl⟩) hS (fun q _ h => h.elim) (fun q h => h.elim) (fun q _ h => h.elim) (fun E ce q9 u t H locs ht hvm hpx hBX hz1 hk1 hS hce hcv hcl => ?_) (fun _ u t H locs ht hvm hw hB hz1 hk1 hS => hw.elim)
  have hE : E = "java/lang/IndexOutOfBoundsException" := hBX
  subst hE
  have htab := vx_table (x := yL_count) B (hts (.codeWith yL_count cL_count 4 (some .int) [(0, 9, 12, 19)]) (by decide +kernel))
  have hP := gc_keep hP hk1
  refine vx_catch hown [] ⟨0, 9, 12, 19⟩ [] (by rw [htab]; rfl) (fun z h => absurd h List.not_mem_nil) (by decide) (by decide) (hts (.classLink RL 19 "java/lang/IndexOutOfBoundsException") (by decide +kernel)) (va_Nw.use rfl (hgX.1 (.castable "java/lang/IndexOutOfBoundsException" "java/lang/IndexOutOfBoundsException") (by decide +kernel))) hce hcv hcl ?_
  refine lv_astore_n (lv' := [(3, .ref q9), (0, .ref (h 0)), (1, .int v), (2, .ref oa)]) hx hb dL_count_12 rfl hl (by decide) rfl (fun ls hl => ?_)
  refine lv_iconst (v := 1) hx hb dL_count_13 (by decide) ?_
  have hpost : (1 : Int32) = 1 := by rfl
  exact W.iret (v := 1) hx hb hr (fun t ht hW => ⟨⟨1, (), rfl, hpost, ⟨by rw [ht]; exact hP, hD⟩⟩, hS.F ht⟩) hS.2.2 dL_count_14
