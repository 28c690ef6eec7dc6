/-! BY HAND: all that follows, and all seatings. -/
set_option maxHeartbeats 4000000 in
set_option maxRecDepth 100000 in
theorem c_X1_reckon (l : Launch) (dC : Nat → ClassId) (dI : Nat → Nat → Nat) (sa : Nat) (ru : Nat) (kA : ClassId) (kI : ClassId) (r : Nat) (rr : Nat → Nat) (K : Bk) (g : Nat) (sz : Nat) (hg : g ≤ 7) (hKr : K.1 = r) (hr30 : r ≤ 30) (hKg : Kg K g) (hne : ∀ j, j < r → K.2.1 j ≠ K.2.2.1 j) : Met l yX1_reckon wsX1_reckon ({ frames := 3, cells := 16, slots := 338, locals := 64 }) (qaPM (dC, dI) [.ref sa] (([(sa, .inr (1, [.int (nI g), .ref ru, .null, .null, .int 0]))] ++ ([(ru, qa_R kA r (qa_up r rr))])) ++ (qT r rr (qE kI 3 (qF K)) ++ [])) ([(kA, .array .int), (kI, .int)]) sz) (va_Qr (fun (u : (Nat) × (Nat → Nat) × (Nat → Nat → Nat) × (Nat) × (Nat → Int32)) => (match u with | (q2, sr, D, q3, fs) => FT K (2 * g) D ∧ ∀ T, T < 2 ^ g → fs T = qS K T)) (fun u rv t9 => va_P (dC, dI) vwCl (match u with | (q2, sr, D, q3, fs) => (([(sa, .inr (1, [.int (nI g), .ref ru, .ref q2, .ref q3, .int (nI (fb_ct (sb K) (2 ^ g)))]))] ++ ([(ru, qa_R kA r (qa_up r rr))] ++ ([(q2, qa_R kA (2 * g) (qa_up (2 * g) sr))] ++ ([(q3, .inl (kI, 2 ^ g, .inl fs))])))) ++ (qT r rr (qE kI 3 (qF K)) ++ qT (2 * g) sr (qE kI (2 * g) (qD D))))) t9.heap ∧ va_D (va_A (([(sa, .inr (1, [.int (nI g), .ref ru, .null, .null, .int 0]))] ++ ([(ru, qa_R kA r (qa_up r rr))])) ++ (qT r rr (qE kI 3 (qF K)) ++ [])) sz) (match u with | (q2, sr, D, q3, fs) => (([(sa, .inr (1, [.int (nI g), .ref ru, .ref q2, .ref q3, .int (nI (fb_ct (sb K) (2 ^ g)))]))] ++ ([(ru, qa_R kA r (qa_up r rr))] ++ ([(q2, qa_R kA (2 * g) (qa_up (2 * g) sr))] ++ ([(q3, .inl (kI, 2 ^ g, .inl fs))])))) ++ (qT r rr (qE kI 3 (qF K)) ++ qT (2 * g) sr (qE kI (2 * g) (qD D)))))) (va_A (([(sa, .inr (1, [.int (nI g), .ref ru, .null, .null, .int 0]))] ++ ([(ru, qa_R kA r (qa_up r rr))])) ++ (qT r rr (qE kI 3 (qF K)) ++ [])) sz)) 16 338 (va_A (([(sa, .inr (1, [.int (nI g), .ref ru, .null, .null, .int 0]))] ++ ([(ru, qa_R kA r (qa_up r rr))])) ++ (qT r rr (qE kI 3 (qF K)) ++ [])) sz) := by
  refine Met.ofW (cc := cX1_reckon) (maxL := 6) (ret := (some (.object "GuestChairsLaw$Sim"))) (by decide) rfl ?_
  intro p e s m args below meth c s₁ B hml hv
  obtain ⟨rfl, hsz, hP, hK, hD0, hO⟩ := hv
  have hx := B.exec
  have hb := B.bytes
  have hr := B.returns
  have hts := atoms_spec (ws := wsX1_reckon) B.pre
  have hown : s.vm.findClass RX1 = some m.cls := findClass_of_methodNamed B.named
  have hlocks := B.notSynchronized
  subst hsz
  have hD := hD0.self (sz := s.heap.size)
  generalize hAe : va_A (([(sa, .inr (1, [.int (nI g), .ref ru, .null, .null, .int 0]))] ++ ([(ru, qa_R kA r (qa_up r rr))])) ++ (qT r rr (qE kI 3 (qF K)) ++ [])) s.heap.size = A at hD ⊢
  have hA : ∀ q : Nat, s.heap.size ≤ q → A q := fun q h => by rw [← hAe]; exact Or.inr h
  have hS : va_S A s.heap s.heap [] := va_S.rf
  have hP : va_P (dC, dI) vwCl (([(sa, .inr (1, [.int (nI g), .ref ru, .null, .null, .int 0]))] ++ ([(ru, qa_R kA r (qa_up r rr))])) ++ (qT r rr (qE kI 3 (qF K)) ++ [])) s.heap := hP
  have hin1 : ∀ w ∈ wsX10, w ∈ wsX1_reckon := by decide +kernel
  have hl := lv_entry [.ref sa] (n := 6) (Nat.le_of_ble_eq_true rfl)
  rw [lg_entry_eq]
  generalize (lg_sl [.ref sa] ++ List.replicate (6 - (lg_sl [.ref sa]).length) Slot.unset).toArray = ls at hl ⊢
  have hl : lv_has ls 6 [(0, .ref sa)] := hl
  have hg2 : 2 ^ g ≤ 128 := Nat.pow_le_pow_right (n := 2) (by decide) hg
  have hgg : 2 * g * (2 * g) ≤ 196 := by have q := Nat.mul_le_mul (show 2 * g ≤ 14 by omega) (show 2 * g ≤ 14 by omega); omega
  have hw20 : ∀ j, j < r → K.2.1 j < 20 ∧ K.2.2.1 j < 20 := fun j hj => by have q := hKg j (by omega); omega
  refine lv_iconst (v := 2) hx hb dX1_reckon_0 (by decide) ?_
  refine lv_aload_n hx hb dX1_reckon_1 rfl (lv_at hl 0 rfl) ?_
  refine va_get (D := (dC, dI)) (ci := 1) (v := .int (nI g)) (C := RX1) (T := TX1) (N := 5) hx hb hts hin1 hown hK hP 0 rfl rfl 0 (by decide) (hts (.fieldLink RX1 22 "GuestChairsLaw$Sim" "guests" "I") (by decide +kernel)) (fun _ h9 => h9) rfl dX1_reckon_2 ?_
  refine lv_imul hx hb dX1_reckon_5 ?_
  refine gc_topi (y := nI (2 * g)) (pk_mul 2 g) ?_
  refine lv_istore_n (lv' := [(1, .int (nI (2 * g))), (0, .ref sa)]) hx hb dX1_reckon_6 rfl hl (by decide) rfl (fun ls hl => ?_)
  refine lv_aload_n hx hb dX1_reckon_7 rfl (lv_at hl 1 rfl) ?_
  refine lv_iload_n hx hb dX1_reckon_8 rfl (lv_at hl 0 rfl) ?_
  refine lv_iload_n hx hb dX1_reckon_9 rfl (lv_at hl 0 rfl) ?_
  refine qa_mna (X := ([(sa, .inr (1, [.int (nI g), .ref ru, .null, .null, .int 0]))] ++ ([(ru, qa_R kA r (qa_up r rr))]))) (T1 := qT r rr (qE kI 3 (qF K))) hx hb hown (hts (.classLink RX1 26 "[[I") (by decide +kernel)) hO (hts (.arrayClass .int) (by decide +kernel)) hK hP hD hS hA 1 0 rfl rfl (n := nI (2 * g)) (k := nI (2 * g)) (N' := (2 * g)) (K' := (2 * g)) (nI_pos (by omega)) (nI_pos (by omega)) (nI_clamp (by omega)) (nI_clamp (by omega)) (by omega) (by omega) (by omega) (by show _ ≤ (16 : Nat); omega) (by show _ ≤ (338 : Nat); omega) dX1_reckon_10 (fun q2 sr H hP hD hS => ?_)
  have hP : va_P (dC, dI) vwCl (([(sa, .inr (1, [.int (nI g), .ref ru, .null, .null, .int 0]))] ++ ([(ru, qa_R kA r (qa_up r rr))] ++ ([(q2, qa_R kA (2 * g) (qa_up (2 * g) sr))]))) ++ (qT r rr (qE kI 3 (qF K)) ++ qT (2 * g) sr (qE kI (2 * g) (qD (fun _ _ => 0))))) H := hP
  have hD : va_D A (([(sa, .inr (1, [.int (nI g), .ref ru, .null, .null, .int 0]))] ++ ([(ru, qa_R kA r (qa_up r rr))] ++ ([(q2, qa_R kA (2 * g) (qa_up (2 * g) sr))]))) ++ (qT r rr (qE kI 3 (qF K)) ++ qT (2 * g) sr (qE kI (2 * g) (qD (fun _ _ => 0))))) := hD
  refine W.widen (k := 15) (n := 210) (by omega) (by omega) ?_
  refine va_put (D := (dC, dI)) (ci := 1) (v := .ref q2) (ty := (.array (.array .int))) (C := RX1) (T := TX1) (N := 5) hx hb hts hin1 tyX1 tyX1_ok nmX1 hown hK hP hD hS 0 rfl rfl 2 (by decide) (hts (.fieldLink RX1 27 "GuestChairsLaw$Sim" "steps" "[[I") (by decide +kernel)) (fun _ h9 => h9) rfl (by decide +kernel) rfl rfl (Nat.le_of_ble_eq_true rfl) dX1_reckon_14 (fun H locs hP hD hS => ?_)
  have hP : va_P (dC, dI) vwCl (([(sa, .inr (1, [.int (nI g), .ref ru, .ref q2, .null, .int 0]))] ++ ([(ru, qa_R kA r (qa_up r rr))] ++ ([(q2, qa_R kA (2 * g) (qa_up (2 * g) sr))]))) ++ (qT r rr (qE kI 3 (qF K)) ++ qT (2 * g) sr (qE kI (2 * g) (qD (fun _ _ => 0))))) H := hP
  have hD : va_D A (([(sa, .inr (1, [.int (nI g), .ref ru, .ref q2, .null, .int 0]))] ++ ([(ru, qa_R kA r (qa_up r rr))] ++ ([(q2, qa_R kA (2 * g) (qa_up (2 * g) sr))]))) ++ (qT r rr (qE kI 3 (qF K)) ++ qT (2 * g) sr (qE kI (2 * g) (qD (fun _ _ => 0))))) := hD
  refine lv_iconst (v := 0) hx hb dX1_reckon_17 (by decide) ?_
  refine lv_istore_n (lv' := [(2, .int 0), (1, .int (nI (2 * g))), (0, .ref sa)]) hx hb dX1_reckon_18 rfl hl (by decide) rfl (fun ls hl => ?_)
  refine gc_loop (2 * g) (fun (u : Nat) (H : Heap) (locs : List Loc) (ls : Array Slot) => ∃ (D1 : Nat → Nat → Nat), (RI (2 * g) u 0 D1) ∧ va_P (dC, dI) vwCl (([(sa, .inr (1, [.int (nI g), .ref ru, .ref q2, .null, .int 0]))] ++ ([(ru, qa_R kA r (qa_up r rr))] ++ ([(q2, qa_R kA (2 * g) (qa_up (2 * g) sr))]))) ++ (qT r rr (qE kI 3 (qF K)) ++ qT (2 * g) sr (qE kI (2 * g) (qD D1)))) H ∧ va_D A (([(sa, .inr (1, [.int (nI g), .ref ru, .ref q2, .null, .int 0]))] ++ ([(ru, qa_R kA r (qa_up r rr))] ++ ([(q2, qa_R kA (2 * g) (qa_up (2 * g) sr))]))) ++ (qT r rr (qE kI 3 (qF K)) ++ qT (2 * g) sr (qE kI (2 * g) (qD D1)))) ∧ va_S A s.heap H locs ∧ lv_has ls 6 [(2, .int (nI u)), (1, .int (nI (2 * g))), (0, .ref sa)]) 0 (Nat.zero_le _) ⟨(fun _ _ => 0), (RI_0 _ _), hP, hD, hS, lv_sub hl [0, 1, 2] rfl⟩ ?_
  intro u H locs ls hu hI ihu
  obtain ⟨D1, hR, hP, hD, hS, hl⟩ := hI
  refine lv_iload_n hx hb dX1_reckon_19 rfl (lv_at hl 0 rfl) ?_
  refine lv_iload_n hx hb dX1_reckon_20 rfl (lv_at hl 1 rfl) ?_
  refine lv_icmp_ge (tgt := 62) hx hb dX1_reckon_21 (by decide) (fun c_21 => ?_) (fun c_21 => ?_)
  · skip
    have hEu : u = 2 * g := gc_ge c_21 (by omega) (by omega)
    refine lv_aload_n hx hb dX1_reckon_62 rfl (lv_at hl 2 rfl) ?_
    refine va_get (D := (dC, dI)) (ci := 1) (v := .ref ru) (C := RX1) (T := TX1) (N := 5) hx hb hts hin1 hown hK hP 0 rfl rfl 1 (by decide) (hts (.fieldLink RX1 9 "GuestChairsLaw$Sim" "rules" "[[I") (by decide +kernel)) (fun _ h9 => h9) rfl dX1_reckon_63 ?_
    refine lv_astore_n (lv' := [(2, .ref ru), (1, .int (nI (2 * g))), (0, .ref sa)]) hx hb dX1_reckon_66 rfl hl (by decide) rfl (fun ls hl => ?_)
    refine lv_aload_n hx hb dX1_reckon_67 rfl (lv_at hl 0 rfl) ?_
    refine va_alen hx hb hK hP 1 0 rfl rfl (v := nI r) rfl dX1_reckon_68 ?_
    refine lv_istore_n (lv' := [(3, .int (nI r)), (2, .ref ru), (1, .int (nI (2 * g))), (0, .ref sa)]) hx hb dX1_reckon_69 rfl hl (by decide) rfl (fun ls hl => ?_)
    refine lv_iconst (v := 0) hx hb dX1_reckon_70 (by decide) ?_
    refine lv_istore (lv' := [(4, .int 0), (3, .int (nI r)), (2, .ref ru), (1, .int (nI (2 * g))), (0, .ref sa)]) hx hb dX1_reckon_71 hl (by decide) rfl (fun ls hl => ?_)
    refine gc_loop (r) (fun (i : Nat) (H : Heap) (locs : List Loc) (ls : Array Slot) => ∃ (Dq : Nat → Nat → Nat), (FR K i (2 * g) Dq) ∧ va_P (dC, dI) vwCl (([(sa, .inr (1, [.int (nI g), .ref ru, .ref q2, .null, .int 0]))] ++ ([(ru, qa_R kA r (qa_up r rr))] ++ ([(q2, qa_R kA (2 * g) (qa_up (2 * g) sr))]))) ++ (qT r rr (qE kI 3 (qF K)) ++ qT (2 * g) sr (qE kI (2 * g) (qD Dq)))) H ∧ va_D A (([(sa, .inr (1, [.int (nI g), .ref ru, .ref q2, .null, .int 0]))] ++ ([(ru, qa_R kA r (qa_up r rr))] ++ ([(q2, qa_R kA (2 * g) (qa_up (2 * g) sr))]))) ++ (qT r rr (qE kI 3 (qF K)) ++ qT (2 * g) sr (qE kI (2 * g) (qD Dq)))) ∧ va_S A s.heap H locs ∧ lv_has ls 6 [(4, .int (nI i)), (3, .int (nI r)), (2, .ref ru), (1, .int (nI (2 * g))), (0, .ref sa)]) 0 (Nat.zero_le _) ⟨D1, (RI_FR (by have q := hR; rw [hEu] at q; exact q)), hP, hD, hS, lv_sub hl [0, 1, 2, 3, 4] rfl⟩ ?_
    intro i H locs ls hi hI ihi
    obtain ⟨Dq, hF, hP, hD, hS, hl⟩ := hI
    refine lv_iload hx hb dX1_reckon_73 (lv_at hl 0 rfl) ?_
    refine lv_iload_n hx hb dX1_reckon_75 rfl (lv_at hl 1 rfl) ?_
    refine lv_icmp_ge (tgt := 175) hx hb dX1_reckon_76 (by decide) (fun c_76 => ?_) (fun c_76 => ?_)
    · skip
      have hEi : i = r := gc_ge c_76 (by omega) (by omega)
      refine lv_iconst (v := 0) hx hb dX1_reckon_175 (by decide) ?_
      refine lv_istore_n (lv' := [(2, .int 0), (4, .int (nI i)), (3, .int (nI r)), (1, .int (nI (2 * g))), (0, .ref sa)]) hx hb dX1_reckon_176 rfl hl (by decide) rfl (fun ls hl => ?_)
      refine gc_loop (2 * g) (fun (k : Nat) (H : Heap) (locs : List Loc) (ls : Array Slot) => ∃ (Da : Nat → Nat → Nat), (FA K (2 * g) Da) ∧ (FB K (2 * g) k Da) ∧ va_P (dC, dI) vwCl (([(sa, .inr (1, [.int (nI g), .ref ru, .ref q2, .null, .int 0]))] ++ ([(ru, qa_R kA r (qa_up r rr))] ++ ([(q2, qa_R kA (2 * g) (qa_up (2 * g) sr))]))) ++ (qT r rr (qE kI 3 (qF K)) ++ qT (2 * g) sr (qE kI (2 * g) (qD Da)))) H ∧ va_D A (([(sa, .inr (1, [.int (nI g), .ref ru, .ref q2, .null, .int 0]))] ++ ([(ru, qa_R kA r (qa_up r rr))] ++ ([(q2, qa_R kA (2 * g) (qa_up (2 * g) sr))]))) ++ (qT r rr (qE kI 3 (qF K)) ++ qT (2 * g) sr (qE kI (2 * g) (qD Da)))) ∧ va_S A s.heap H locs ∧ lv_has ls 6 [(2, .int (nI k)), (1, .int (nI (2 * g))), (0, .ref sa)]) 0 (Nat.zero_le _) ⟨Dq, (FR_FA (by have q := hF; rw [hEi, ← hKr] at q; exact q)), (FR_FB (by have q := hF; rw [hEi, ← hKr] at q; exact q)), hP, hD, hS, lv_sub hl [0, 3, 4] rfl⟩ ?_
      intro k H locs ls hk hI ihk
      obtain ⟨Da, hA0, hB0, hP, hD, hS, hl⟩ := hI
      refine lv_iload_n hx hb dX1_reckon_177 rfl (lv_at hl 0 rfl) ?_
      refine lv_iload_n hx hb dX1_reckon_178 rfl (lv_at hl 1 rfl) ?_
      refine lv_icmp_ge (tgt := 255) hx hb dX1_reckon_179 (by decide) (fun c_179 => ?_) (fun c_179 => ?_)
      · skip
        have hEk : k = 2 * g := gc_ge c_179 (by omega) (by omega)
        have hFT := F_told (by omega) hKg hA0 (by have q := hB0; rw [hEk] at q; exact q)
        refine lv_aload_n hx hb dX1_reckon_255 rfl (lv_at hl 2 rfl) ?_
        refine lv_iconst (v := 1) hx hb dX1_reckon_256 (by decide) ?_
        refine lv_aload_n hx hb dX1_reckon_257 rfl (lv_at hl 2 rfl) ?_
        refine va_get (D := (dC, dI)) (ci := 1) (v := .int (nI g)) (C := RX1) (T := TX1) (N := 5) hx hb hts hin1 hown hK hP 0 rfl rfl 0 (by decide) (hts (.fieldLink RX1 22 "GuestChairsLaw$Sim" "guests" "I") (by decide +kernel)) (fun _ h9 => h9) rfl dX1_reckon_258 ?_
        refine lv_ishl hx hb dX1_reckon_261 ?_
        refine gc_topi (y := nI (2 ^ g)) (gc_shl1 (by omega)) ?_
        refine qa_newI hx hb (hts (.arrayClass .int) (by decide +kernel)) hK hP hD hS hA 1 rfl (n := nI (2 ^ g)) (N' := (2 ^ g)) (nI_pos (by omega)) (nI_clamp (by omega)) (by omega) (by show _ ≤ (16 : Nat); omega) (by show _ ≤ (338 : Nat); omega) dX1_reckon_262 (fun q3 H hP hD hS => ?_)
        have hP := hP.perm qa_side
        have hD := hD.perm qa_side
        have hP : va_P (dC, dI) vwCl (([(sa, .inr (1, [.int (nI g), .ref ru, .ref q2, .null, .int 0]))] ++ ([(ru, qa_R kA r (qa_up r rr))] ++ ([(q2, qa_R kA (2 * g) (qa_up (2 * g) sr))] ++ ([(q3, .inl (kI, (2 ^ g), .inl (fun _ => 0)))])))) ++ (qT r rr (qE kI 3 (qF K)) ++ qT (2 * g) sr (qE kI (2 * g) (qD Da)))) H := hP
        have hD : va_D A (([(sa, .inr (1, [.int (nI g), .ref ru, .ref q2, .null, .int 0]))] ++ ([(ru, qa_R kA r (qa_up r rr))] ++ ([(q2, qa_R kA (2 * g) (qa_up (2 * g) sr))] ++ ([(q3, .inl (kI, (2 ^ g), .inl (fun _ => 0)))])))) ++ (qT r rr (qE kI 3 (qF K)) ++ qT (2 * g) sr (qE kI (2 * g) (qD Da)))) := hD
        refine va_put (D := (dC, dI)) (ci := 1) (v := .ref q3) (ty := (.array .int)) (C := RX1) (T := TX1) (N := 5) hx hb hts hin1 tyX1 tyX1_ok nmX1 hown hK hP hD hS 0 rfl rfl 3 (by decide) (hts (.fieldLink RX1 36 "GuestChairsLaw$Sim" "sets" "[I") (by decide +kernel)) (fun _ h9 => h9) rfl (by decide +kernel) rfl rfl (Nat.le_of_ble_eq_true rfl) dX1_reckon_264 (fun H locs hP hD hS => ?_)
        have hP : va_P (dC, dI) vwCl (([(sa, .inr (1, [.int (nI g), .ref ru, .ref q2, .ref q3, .int 0]))] ++ ([(ru, qa_R kA r (qa_up r rr))] ++ ([(q2, qa_R kA (2 * g) (qa_up (2 * g) sr))] ++ ([(q3, .inl (kI, (2 ^ g), .inl (fun _ => 0)))])))) ++ (qT r rr (qE kI 3 (qF K)) ++ qT (2 * g) sr (qE kI (2 * g) (qD Da)))) H := hP
        have hD : va_D A (([(sa, .inr (1, [.int (nI g), .ref ru, .ref q2, .ref q3, .int 0]))] ++ ([(ru, qa_R kA r (qa_up r rr))] ++ ([(q2, qa_R kA (2 * g) (qa_up (2 * g) sr))] ++ ([(q3, .inl (kI, (2 ^ g), .inl (fun _ => 0)))])))) ++ (qT r rr (qE kI 3 (qF K)) ++ qT (2 * g) sr (qE kI (2 * g) (qD Da)))) := hD
        refine lv_aload_n hx hb dX1_reckon_267 rfl (lv_at hl 2 rfl) ?_
        refine lv_iconst (v := 0) hx hb dX1_reckon_268 (by decide) ?_
        refine va_put (D := (dC, dI)) (ci := 1) (v := .int 0) (ty := .int) (C := RX1) (T := TX1) (N := 5) hx hb hts hin1 tyX1 tyX1_ok nmX1 hown hK hP hD hS 0 rfl rfl 4 (by decide) (hts (.fieldLink RX1 39 "GuestChairsLaw$Sim" "many" "I") (by decide +kernel)) (fun _ h9 => h9) rfl (by decide +kernel) rfl rfl (Nat.le_of_ble_eq_true rfl) dX1_reckon_269 (fun H locs hP hD hS => ?_)
        have hP : va_P (dC, dI) vwCl (([(sa, .inr (1, [.int (nI g), .ref ru, .ref q2, .ref q3, .int 0]))] ++ ([(ru, qa_R kA r (qa_up r rr))] ++ ([(q2, qa_R kA (2 * g) (qa_up (2 * g) sr))] ++ ([(q3, .inl (kI, (2 ^ g), .inl (fun _ => 0)))])))) ++ (qT r rr (qE kI 3 (qF K)) ++ qT (2 * g) sr (qE kI (2 * g) (qD Da)))) H := hP
        have hD : va_D A (([(sa, .inr (1, [.int (nI g), .ref ru, .ref q2, .ref q3, .int 0]))] ++ ([(ru, qa_R kA r (qa_up r rr))] ++ ([(q2, qa_R kA (2 * g) (qa_up (2 * g) sr))] ++ ([(q3, .inl (kI, (2 ^ g), .inl (fun _ => 0)))])))) ++ (qT r rr (qE kI 3 (qF K)) ++ qT (2 * g) sr (qE kI (2 * g) (qD Da)))) := hD
        refine lv_iconst (v := 0) hx hb dX1_reckon_272 (by decide) ?_
        refine lv_istore_n (lv' := [(2, .int 0), (1, .int (nI (2 * g))), (0, .ref sa)]) hx hb dX1_reckon_273 rfl hl (by decide) rfl (fun ls hl => ?_)
        refine gc_loop (2 ^ g) (fun (S1 : Nat) (H : Heap) (locs : List Loc) (ls : Array Slot) => ∃ (fs : Nat → Int32) (mm : Nat), mm = fb_ct (sb K) S1 ∧ (∀ T, T < S1 → fs T = qS K T) ∧ va_P (dC, dI) vwCl (([(sa, .inr (1, [.int (nI g), .ref ru, .ref q2, .ref q3, .int (nI mm)]))] ++ ([(ru, qa_R kA r (qa_up r rr))] ++ ([(q2, qa_R kA (2 * g) (qa_up (2 * g) sr))] ++ ([(q3, .inl (kI, (2 ^ g), .inl fs))])))) ++ (qT r rr (qE kI 3 (qF K)) ++ qT (2 * g) sr (qE kI (2 * g) (qD Da)))) H ∧ va_D A (([(sa, .inr (1, [.int (nI g), .ref ru, .ref q2, .ref q3, .int (nI mm)]))] ++ ([(ru, qa_R kA r (qa_up r rr))] ++ ([(q2, qa_R kA (2 * g) (qa_up (2 * g) sr))] ++ ([(q3, .inl (kI, (2 ^ g), .inl fs))])))) ++ (qT r rr (qE kI 3 (qF K)) ++ qT (2 * g) sr (qE kI (2 * g) (qD Da)))) ∧ va_S A s.heap H locs ∧ lv_has ls 6 [(2, .int (nI S1)), (1, .int (nI (2 * g))), (0, .ref sa)]) 0 (Nat.zero_le _) ⟨(fun _ => 0), 0, (by first | rfl | assumption | omega), (fun T hT => absurd hT (Nat.not_lt_zero T)), hP, hD, hS, lv_sub hl [0, 1, 2] rfl⟩ ?_
        intro S1 H locs ls hS1 hI ihS1
        obtain ⟨fs, mm, e_mm, hfs, hP, hD, hS, hl⟩ := hI
        refine lv_iload_n hx hb dX1_reckon_274 rfl (lv_at hl 0 rfl) ?_
        refine lv_aload_n hx hb dX1_reckon_275 rfl (lv_at hl 2 rfl) ?_
        refine va_get (D := (dC, dI)) (ci := 1) (v := .ref q3) (C := RX1) (T := TX1) (N := 5) hx hb hts hin1 hown hK hP 0 rfl rfl 3 (by decide) (hts (.fieldLink RX1 36 "GuestChairsLaw$Sim" "sets" "[I") (by decide +kernel)) (fun _ h9 => h9) rfl dX1_reckon_276 ?_
        refine va_alen hx hb hK hP 3 1 rfl rfl (v := nI (2 ^ g)) rfl dX1_reckon_279 ?_
        refine lv_icmp_ge (tgt := 368) hx hb dX1_reckon_280 (by decide) (fun c_280 => ?_) (fun c_280 => ?_)
        · skip
          have hES1 : S1 = 2 ^ g := gc_ge c_280 (by omega) (by omega)
          refine lv_aload_n hx hb dX1_reckon_368 rfl (lv_at hl 2 rfl) ?_
          have hpost : FT K (2 * g) Da ∧ ∀ T, T < 2 ^ g → fs T = qS K T := ⟨hFT, by have q := hfs; rw [hES1] at q; exact q⟩
          have hWe : ((([(sa, .inr (1, [.int (nI g), .ref ru, .ref q2, .ref q3, .int (nI mm)]))] ++ ([(ru, qa_R kA r (qa_up r rr))] ++ ([(q2, qa_R kA (2 * g) (qa_up (2 * g) sr))] ++ ([(q3, .inl (kI, (2 ^ g), .inl fs))])))) ++ (qT r rr (qE kI 3 (qF K)) ++ qT (2 * g) sr (qE kI (2 * g) (qD Da)))) : va_W) = (([(sa, .inr (1, [.int (nI g), .ref ru, .ref q2, .ref q3, .int (nI (fb_ct (sb K) (2 ^ g)))]))] ++ ([(ru, qa_R kA r (qa_up r rr))] ++ ([(q2, qa_R kA (2 * g) (qa_up (2 * g) sr))] ++ ([(q3, .inl (kI, 2 ^ g, .inl fs))])))) ++ (qT r rr (qE kI 3 (qF K)) ++ qT (2 * g) sr (qE kI (2 * g) (qD Da)))) := by rw [e_mm, hES1]
          rw [hWe] at hP hD
          refine W.widen (k := 16) (n := 338) (by omega) (by omega) ?_
          exact W.aret (v := .ref sa) hx hb hr (Or.inl ⟨_, rfl⟩) (Or.inr ⟨_, rfl⟩) (fun t ht hW => ⟨⟨(q2, sr, Da, q3, fs), sa, rfl, hpost, ⟨by rw [ht]; exact hP, hD⟩⟩, hS.F ht⟩) hS.2.2 dX1_reckon_369
        · skip
          have hLS1 : S1 < 2 ^ g := gc_lt c_280 (by omega) (by omega)
          refine lv_iconst (v := 0) hx hb dX1_reckon_283 (by decide) ?_
          refine lv_istore_n (lv' := [(3, .int 0), (2, .int (nI S1)), (1, .int (nI (2 * g))), (0, .ref sa)]) hx hb dX1_reckon_284 rfl hl (by decide) rfl (fun ls hl => ?_)
          refine lv_iconst (v := 0) hx hb dX1_reckon_285 (by decide) ?_
          refine lv_istore (lv' := [(4, .int 0), (3, .int 0), (2, .int (nI S1)), (1, .int (nI (2 * g))), (0, .ref sa)]) hx hb dX1_reckon_286 hl (by decide) rfl (fun ls hl => ?_)
          refine gc_loop (g) (fun (y : Nat) (H : Heap) (locs : List Loc) (ls : Array Slot) => ∃ (z : Nat), z = fb_ct (fun x => S1.testBit x) y ∧ va_P (dC, dI) vwCl (([(sa, .inr (1, [.int (nI g), .ref ru, .ref q2, .ref q3, .int (nI mm)]))] ++ ([(ru, qa_R kA r (qa_up r rr))] ++ ([(q2, qa_R kA (2 * g) (qa_up (2 * g) sr))] ++ ([(q3, .inl (kI, (2 ^ g), .inl fs))])))) ++ (qT r rr (qE kI 3 (qF K)) ++ qT (2 * g) sr (qE kI (2 * g) (qD Da)))) H ∧ va_D A (([(sa, .inr (1, [.int (nI g), .ref ru, .ref q2, .ref q3, .int (nI mm)]))] ++ ([(ru, qa_R kA r (qa_up r rr))] ++ ([(q2, qa_R kA (2 * g) (qa_up (2 * g) sr))] ++ ([(q3, .inl (kI, (2 ^ g), .inl fs))])))) ++ (qT r rr (qE kI 3 (qF K)) ++ qT (2 * g) sr (qE kI (2 * g) (qD Da)))) ∧ va_S A s.heap H locs ∧ lv_has ls 6 [(4, .int (nI y)), (3, .int (nI z)), (2, .int (nI S1)), (1, .int (nI (2 * g))), (0, .ref sa)]) 0 (Nat.zero_le _) ⟨0, (by first | rfl | assumption | omega), hP, hD, hS, lv_sub hl [0, 1, 2, 3, 4] rfl⟩ ?_
          intro y H locs ls hy hI ihy
          obtain ⟨z, e_z, hP, hD, hS, hl⟩ := hI
          refine lv_iload hx hb dX1_reckon_288 (lv_at hl 0 rfl) ?_
          refine lv_aload_n hx hb dX1_reckon_290 rfl (lv_at hl 4 rfl) ?_
          refine va_get (D := (dC, dI)) (ci := 1) (v := .int (nI g)) (C := RX1) (T := TX1) (N := 5) hx hb hts hin1 hown hK hP 0 rfl rfl 0 (by decide) (hts (.fieldLink RX1 22 "GuestChairsLaw$Sim" "guests" "I") (by decide +kernel)) (fun _ h9 => h9) rfl dX1_reckon_291 ?_
          refine lv_icmp_ge (tgt := 320) hx hb dX1_reckon_294 (by decide) (fun c_294 => ?_) (fun c_294 => ?_)
          · skip
            have hEy : y = g := gc_ge c_294 (by omega) (by omega)
            refine lv_aload_n hx hb dX1_reckon_320 rfl (lv_at hl 4 rfl) ?_
            refine va_get (D := (dC, dI)) (ci := 1) (v := .ref q3) (C := RX1) (T := TX1) (N := 5) hx hb hts hin1 hown hK hP 0 rfl rfl 3 (by decide) (hts (.fieldLink RX1 36 "GuestChairsLaw$Sim" "sets" "[I") (by decide +kernel)) (fun _ h9 => h9) rfl dX1_reckon_321 ?_
            refine lv_iload_n hx hb dX1_reckon_324 rfl (lv_at hl 2 rfl) ?_
            refine lv_aload_n hx hb dX1_reckon_325 rfl (lv_at hl 4 rfl) ?_
            refine lv_iload_n hx hb dX1_reckon_326 rfl (lv_at hl 2 rfl) ?_
            have hPc : va_P (dC, dI) vwCl (([(sa, .inr (1, [.int (nI g), .ref ru, .ref q2, .ref q3, .int (nI mm)]))] ++ ([(ru, qa_R kA r (qa_up r rr))])) ++ (qT r rr (qE kI 3 (qF K)) ++ (qT (2 * g) sr (qE kI (2 * g) (qD Da))))) _ := hP.part [0, 1] rfl
            have hKc : va_K (dC, dI) vwCl ([(kA, .array .int), (kI, .int)]) s := hK.sub [0, 1] rfl
            refine va_calli (va_runV (As := [.int (nI S1)]) (rest := [.int (nI S1), .ref q3]) ⟨hx, hb, hml, hown, hts⟩ (c_X1_broken l dC dI sa ru q2 q3 (nI g) (nI mm) kA kI r rr K (qT (2 * g) sr (qE kI (2 * g) (qD Da))) S1 (by first | assumption | omega) (by first | assumption | omega) (hw20) (by first | assumption | omega)) (cwV 1 hts gX1_reckon_X1_broken rfl rfl rfl (by decide +kernel) ⟨Nat.le_of_ble_eq_true rfl, Nat.le_of_ble_eq_true rfl⟩) ⟨gcPR_blind, va_recv hK hP (ci := 1) (q0 := 0) rfl rfl, fun U hU hW => ⟨rfl, by rw [hU]; exact hPc, va_K.moved hW.alike hKc⟩⟩ rfl rfl hl.1 rfl (lv_room (Nat.le_of_ble_eq_true rfl)) dX1_reckon_327 ⟨by show _ ≤ (16 : Nat); omega, by show _ ≤ (338 : Nat); omega⟩) hS (fun q _ h => h.elim) (fun q h => h.elim) (fun r1 u t H locs ht hvm hw hB hz1 hk1 hS => ?_)
            have hP := gc_keep hP hk1
            have hw : r1 = gFst (qP K S1) r := hw
            subst hw
            clear hw
            clear hB hz1 hk1 ht hvm
            clear hPc hKc
            refine lv_if_ge (tgt := 337) hx hb dX1_reckon_330 (by decide) (fun c_330 => ?_) (fun c_330 => ?_)
            · skip
              have hq9 : ¬ satp K S1 := qP_pos (by omega) (by rw [hKr]; exact c_330)
              refine lv_iconst (v := -1) hx hb dX1_reckon_337 (by decide) ?_
              refine va_iast hx hb hK hP hD hS 3 1 rfl rfl (vp_in_nI (n := S1) (N := (2 ^ g)) (by omega) (by omega)) dX1_reckon_338 (fun H locs hP hD hS => ?_)
              rw [show (nI S1 : Int32).toNatClampNeg = S1 from nI_clamp (by omega)] at hP hD
              have hP : va_P (dC, dI) vwCl (([(sa, .inr (1, [.int (nI g), .ref ru, .ref q2, .ref q3, .int (nI mm)]))] ++ ([(ru, qa_R kA r (qa_up r rr))] ++ ([(q2, qa_R kA (2 * g) (qa_up (2 * g) sr))] ++ ([(q3, .inl (kI, (2 ^ g), .inl (upd fs S1 (-1))))])))) ++ (qT r rr (qE kI 3 (qF K)) ++ qT (2 * g) sr (qE kI (2 * g) (qD Da)))) H := hP
              have hD : va_D A (([(sa, .inr (1, [.int (nI g), .ref ru, .ref q2, .ref q3, .int (nI mm)]))] ++ ([(ru, qa_R kA r (qa_up r rr))] ++ ([(q2, qa_R kA (2 * g) (qa_up (2 * g) sr))] ++ ([(q3, .inl (kI, (2 ^ g), .inl (upd fs S1 (-1))))])))) ++ (qT r rr (qE kI 3 (qF K)) ++ qT (2 * g) sr (qE kI (2 * g) (qD Da)))) := hD
              refine lv_aload_n hx hb dX1_reckon_339 rfl (lv_at hl 4 rfl) ?_
              refine lv_dup hx hb dX1_reckon_340 rfl ?_
              refine va_get (D := (dC, dI)) (ci := 1) (v := .int (nI mm)) (C := RX1) (T := TX1) (N := 5) hx hb hts hin1 hown hK hP 0 rfl rfl 4 (by decide) (hts (.fieldLink RX1 39 "GuestChairsLaw$Sim" "many" "I") (by decide +kernel)) (fun _ h9 => h9) rfl dX1_reckon_341 ?_
              refine lv_aload_n hx hb dX1_reckon_344 rfl (lv_at hl 4 rfl) ?_
              refine va_get (D := (dC, dI)) (ci := 1) (v := .ref q3) (C := RX1) (T := TX1) (N := 5) hx hb hts hin1 hown hK hP 0 rfl rfl 3 (by decide) (hts (.fieldLink RX1 36 "GuestChairsLaw$Sim" "sets" "[I") (by decide +kernel)) (fun _ h9 => h9) rfl dX1_reckon_345 ?_
              refine lv_iload_n hx hb dX1_reckon_348 rfl (lv_at hl 2 rfl) ?_
              refine va_iald hx hb hK hP 3 1 rfl rfl (vp_in_nI (n := S1) (N := (2 ^ g)) (by omega) (by omega)) dX1_reckon_349 ?_
              rw [show (nI S1 : Int32).toNatClampNeg = S1 from nI_clamp (by omega)]
              refine gc_topi (y := (-1)) (upd_is _ _ _) ?_
              refine lv_if_ge (tgt := 357) hx hb dX1_reckon_350 (by decide) (fun c_350 => ?_) (fun c_350 => ?_)
              · skip
                exact absurd c_350 (by decide)
              · skip
                refine lv_iconst (v := 0) hx hb dX1_reckon_353 (by decide) ?_
                refine lv_goto (tgt := 358) hx hb dX1_reckon_354 (by decide) ?_
                refine lv_iadd hx hb dX1_reckon_358 ?_
                refine gc_topi (y := nI mm) (Int32.add_zero _) ?_
                refine va_put (D := (dC, dI)) (ci := 1) (v := .int (nI mm)) (ty := .int) (C := RX1) (T := TX1) (N := 5) hx hb hts hin1 tyX1 tyX1_ok nmX1 hown hK hP hD hS 0 rfl rfl 4 (by decide) (hts (.fieldLink RX1 39 "GuestChairsLaw$Sim" "many" "I") (by decide +kernel)) (fun _ h9 => h9) rfl (by decide +kernel) rfl rfl (Nat.le_of_ble_eq_true rfl) dX1_reckon_359 (fun H locs hP hD hS => ?_)
                have hP : va_P (dC, dI) vwCl (([(sa, .inr (1, [.int (nI g), .ref ru, .ref q2, .ref q3, .int (nI mm)]))] ++ ([(ru, qa_R kA r (qa_up r rr))] ++ ([(q2, qa_R kA (2 * g) (qa_up (2 * g) sr))] ++ ([(q3, .inl (kI, (2 ^ g), .inl (upd fs S1 (-1))))])))) ++ (qT r rr (qE kI 3 (qF K)) ++ qT (2 * g) sr (qE kI (2 * g) (qD Da)))) H := hP
                have hD : va_D A (([(sa, .inr (1, [.int (nI g), .ref ru, .ref q2, .ref q3, .int (nI mm)]))] ++ ([(ru, qa_R kA r (qa_up r rr))] ++ ([(q2, qa_R kA (2 * g) (qa_up (2 * g) sr))] ++ ([(q3, .inl (kI, (2 ^ g), .inl (upd fs S1 (-1))))])))) ++ (qT r rr (qE kI 3 (qF K)) ++ qT (2 * g) sr (qE kI (2 * g) (qD Da)))) := hD
                refine lv_iinc (v := nI (S1 + 1)) (lv' := [(2, .int (nI (S1 + 1))), (4, .int (nI y)), (3, .int (nI z)), (1, .int (nI (2 * g))), (0, .ref sa)]) hx hb dX1_reckon_362 hl (k := 2) rfl (nI_1 S1) (by decide) rfl (fun ls hl => ?_)
                refine lv_goto (tgt := 274) hx hb dX1_reckon_365 (by decide) ?_
                exact ihS1 H _ ls (by omega) ⟨(upd fs S1 (-1)), mm, (by show _ = fb_ct _ S1 + (if sb K S1 then 1 else 0); rw [← e_mm, sb_f hq9]; rfl), (upS hfs (qS_n hq9).symm), hP, hD, hS, lv_sub hl [0, 3, 4] rfl⟩
            · skip
              have hq9 : satp K S1 := qP_neg (by omega) (by rw [hKr]; exact c_330)
              refine lv_iload_n hx hb dX1_reckon_333 rfl (lv_at hl 1 rfl) ?_
              refine lv_goto (tgt := 338) hx hb dX1_reckon_334 (by decide) ?_
              refine va_iast hx hb hK hP hD hS 3 1 rfl rfl (vp_in_nI (n := S1) (N := (2 ^ g)) (by omega) (by omega)) dX1_reckon_338 (fun H locs hP hD hS => ?_)
              rw [show (nI S1 : Int32).toNatClampNeg = S1 from nI_clamp (by omega)] at hP hD
              have hP : va_P (dC, dI) vwCl (([(sa, .inr (1, [.int (nI g), .ref ru, .ref q2, .ref q3, .int (nI mm)]))] ++ ([(ru, qa_R kA r (qa_up r rr))] ++ ([(q2, qa_R kA (2 * g) (qa_up (2 * g) sr))] ++ ([(q3, .inl (kI, (2 ^ g), .inl (upd fs S1 (nI z))))])))) ++ (qT r rr (qE kI 3 (qF K)) ++ qT (2 * g) sr (qE kI (2 * g) (qD Da)))) H := hP
              have hD : va_D A (([(sa, .inr (1, [.int (nI g), .ref ru, .ref q2, .ref q3, .int (nI mm)]))] ++ ([(ru, qa_R kA r (qa_up r rr))] ++ ([(q2, qa_R kA (2 * g) (qa_up (2 * g) sr))] ++ ([(q3, .inl (kI, (2 ^ g), .inl (upd fs S1 (nI z))))])))) ++ (qT r rr (qE kI 3 (qF K)) ++ qT (2 * g) sr (qE kI (2 * g) (qD Da)))) := hD
              refine lv_aload_n hx hb dX1_reckon_339 rfl (lv_at hl 4 rfl) ?_
              refine lv_dup hx hb dX1_reckon_340 rfl ?_
              refine va_get (D := (dC, dI)) (ci := 1) (v := .int (nI mm)) (C := RX1) (T := TX1) (N := 5) hx hb hts hin1 hown hK hP 0 rfl rfl 4 (by decide) (hts (.fieldLink RX1 39 "GuestChairsLaw$Sim" "many" "I") (by decide +kernel)) (fun _ h9 => h9) rfl dX1_reckon_341 ?_
              refine lv_aload_n hx hb dX1_reckon_344 rfl (lv_at hl 4 rfl) ?_
              refine va_get (D := (dC, dI)) (ci := 1) (v := .ref q3) (C := RX1) (T := TX1) (N := 5) hx hb hts hin1 hown hK hP 0 rfl rfl 3 (by decide) (hts (.fieldLink RX1 36 "GuestChairsLaw$Sim" "sets" "[I") (by decide +kernel)) (fun _ h9 => h9) rfl dX1_reckon_345 ?_
              refine lv_iload_n hx hb dX1_reckon_348 rfl (lv_at hl 2 rfl) ?_
              refine va_iald hx hb hK hP 3 1 rfl rfl (vp_in_nI (n := S1) (N := (2 ^ g)) (by omega) (by omega)) dX1_reckon_349 ?_
              rw [show (nI S1 : Int32).toNatClampNeg = S1 from nI_clamp (by omega)]
              refine gc_topi (y := nI z) (upd_is _ _ _) ?_
              refine lv_if_ge (tgt := 357) hx hb dX1_reckon_350 (by decide) (fun c_350 => ?_) (fun c_350 => ?_)
              · skip
                refine lv_iconst (v := 1) hx hb dX1_reckon_357 (by decide) ?_
                refine lv_iadd hx hb dX1_reckon_358 ?_
                refine gc_topi (y := nI (mm + 1)) (nI_1 mm) ?_
                refine va_put (D := (dC, dI)) (ci := 1) (v := .int (nI (mm + 1))) (ty := .int) (C := RX1) (T := TX1) (N := 5) hx hb hts hin1 tyX1 tyX1_ok nmX1 hown hK hP hD hS 0 rfl rfl 4 (by decide) (hts (.fieldLink RX1 39 "GuestChairsLaw$Sim" "many" "I") (by decide +kernel)) (fun _ h9 => h9) rfl (by decide +kernel) rfl rfl (Nat.le_of_ble_eq_true rfl) dX1_reckon_359 (fun H locs hP hD hS => ?_)
                have hP : va_P (dC, dI) vwCl (([(sa, .inr (1, [.int (nI g), .ref ru, .ref q2, .ref q3, .int (nI (mm + 1))]))] ++ ([(ru, qa_R kA r (qa_up r rr))] ++ ([(q2, qa_R kA (2 * g) (qa_up (2 * g) sr))] ++ ([(q3, .inl (kI, (2 ^ g), .inl (upd fs S1 (nI z))))])))) ++ (qT r rr (qE kI 3 (qF K)) ++ qT (2 * g) sr (qE kI (2 * g) (qD Da)))) H := hP
                have hD : va_D A (([(sa, .inr (1, [.int (nI g), .ref ru, .ref q2, .ref q3, .int (nI (mm + 1))]))] ++ ([(ru, qa_R kA r (qa_up r rr))] ++ ([(q2, qa_R kA (2 * g) (qa_up (2 * g) sr))] ++ ([(q3, .inl (kI, (2 ^ g), .inl (upd fs S1 (nI z))))])))) ++ (qT r rr (qE kI 3 (qF K)) ++ qT (2 * g) sr (qE kI (2 * g) (qD Da)))) := hD
                refine lv_iinc (v := nI (S1 + 1)) (lv' := [(2, .int (nI (S1 + 1))), (4, .int (nI y)), (3, .int (nI z)), (1, .int (nI (2 * g))), (0, .ref sa)]) hx hb dX1_reckon_362 hl (k := 2) rfl (nI_1 S1) (by decide) rfl (fun ls hl => ?_)
                refine lv_goto (tgt := 274) hx hb dX1_reckon_365 (by decide) ?_
                exact ihS1 H _ ls (by omega) ⟨(upd fs S1 (nI z)), (mm + 1), (by show _ = fb_ct _ S1 + (if sb K S1 then 1 else 0); rw [← e_mm, sb_t hq9]; rfl), (upS hfs (by rw [qS_y hq9, e_z, hEy, pc_g (by omega) hLS1])), hP, hD, hS, lv_sub hl [0, 3, 4] rfl⟩
              · skip
                exact absurd (nI_pos0 z (by have := fb_ct_le (fun x => S1.testBit x) y; omega)) c_350
          · skip
            have hLy : y < g := gc_lt c_294 (by omega) (by omega)
            refine lv_iload_n hx hb dX1_reckon_297 rfl (lv_at hl 1 rfl) ?_
            refine lv_iload_n hx hb dX1_reckon_298 rfl (lv_at hl 2 rfl) ?_
            refine lv_iload hx hb dX1_reckon_299 (lv_at hl 0 rfl) ?_
            refine va_calli (va_runS (As := [.int (nI S1), .int (nI y)]) (rest := [.int (nI z)]) ⟨hx, hb, hml, hown, hts⟩ (c_X1_comes l S1 y (by first | assumption | omega) (by first | assumption | omega)) (va_cwS 2 hts gX1_reckon_X1_comes rfl rfl rfl (by decide +kernel) ⟨Nat.le_of_ble_eq_true rfl, Nat.le_of_ble_eq_true rfl⟩) ⟨fun a U g mk q => q, fun U hU hW => ⟨rfl, trivial⟩⟩ rfl rfl hl.1 rfl (lv_room (Nat.le_of_ble_eq_true rfl)) dX1_reckon_301 ⟨by show _ ≤ (16 : Nat); omega, by show _ ≤ (338 : Nat); omega⟩) hS (fun q _ h => h.elim) (fun q h => h.elim) (fun r2 u t H locs ht hvm hw hB hz1 hk1 hS => ?_)
            have hP := gc_keep hP hk1
            have hw : r2 = gB (S1.testBit y) := hw
            subst hw
            clear hw
            clear hB hz1 hk1 ht hvm
            refine lv_if_eq (tgt := 311) hx hb dX1_reckon_304 (by decide) (fun c_304 => ?_) (fun c_304 => ?_)
            · skip
              have c_304 := gB_f c_304
              refine lv_iconst (v := 0) hx hb dX1_reckon_311 (by decide) ?_
              refine lv_iadd hx hb dX1_reckon_312 ?_
              refine gc_topi (y := nI z) (Int32.add_zero _) ?_
              refine lv_istore_n (lv' := [(3, .int (nI z)), (4, .int (nI y)), (2, .int (nI S1)), (1, .int (nI (2 * g))), (0, .ref sa)]) hx hb dX1_reckon_313 rfl hl (by decide) rfl (fun ls hl => ?_)
              refine lv_iinc (v := nI (y + 1)) (lv' := [(4, .int (nI (y + 1))), (3, .int (nI z)), (2, .int (nI S1)), (1, .int (nI (2 * g))), (0, .ref sa)]) hx hb dX1_reckon_314 hl (k := 1) rfl (nI_1 y) (by decide) rfl (fun ls hl => ?_)
              refine lv_goto (tgt := 288) hx hb dX1_reckon_317 (by decide) ?_
              exact ihy H _ ls (by omega) ⟨z, (by show _ = fb_ct _ y + (if S1.testBit y then 1 else 0); rw [← e_z, c_304]; rfl), hP, hD, hS, lv_sub hl [0, 1, 2, 3, 4] rfl⟩
            · skip
              have c_304 := gB_t c_304
              refine lv_iconst (v := 1) hx hb dX1_reckon_307 (by decide) ?_
              refine lv_goto (tgt := 312) hx hb dX1_reckon_308 (by decide) ?_
              refine lv_iadd hx hb dX1_reckon_312 ?_
              refine gc_topi (y := nI (z + 1)) (nI_1 z) ?_
              refine lv_istore_n (lv' := [(3, .int (nI (z + 1))), (4, .int (nI y)), (2, .int (nI S1)), (1, .int (nI (2 * g))), (0, .ref sa)]) hx hb dX1_reckon_313 rfl hl (by decide) rfl (fun ls hl => ?_)
              refine lv_iinc (v := nI (y + 1)) (lv' := [(4, .int (nI (y + 1))), (3, .int (nI (z + 1))), (2, .int (nI S1)), (1, .int (nI (2 * g))), (0, .ref sa)]) hx hb dX1_reckon_314 hl (k := 1) rfl (nI_1 y) (by decide) rfl (fun ls hl => ?_)
              refine lv_goto (tgt := 288) hx hb dX1_reckon_317 (by decide) ?_
              exact ihy H _ ls (by omega) ⟨(z + 1), (by show _ = fb_ct _ y + (if S1.testBit y then 1 else 0); rw [← e_z, c_304]; rfl), hP, hD, hS, lv_sub hl [0, 1, 2, 3, 4] rfl⟩
      · skip
        have hLk : k < 2 * g := gc_lt c_179 (by omega) (by omega)
        refine lv_iconst (v := 0) hx hb dX1_reckon_182 (by decide) ?_
        refine lv_istore_n (lv' := [(3, .int 0), (2, .int (nI k)), (1, .int (nI (2 * g))), (0, .ref sa)]) hx hb dX1_reckon_183 rfl hl (by decide) rfl (fun ls hl => ?_)
        refine gc_loop (2 * g) (fun (u : Nat) (H : Heap) (locs : List Loc) (ls : Array Slot) => ∃ (Db : Nat → Nat → Nat), (FC K (2 * g) k u 0 Da Db) ∧ va_P (dC, dI) vwCl (([(sa, .inr (1, [.int (nI g), .ref ru, .ref q2, .null, .int 0]))] ++ ([(ru, qa_R kA r (qa_up r rr))] ++ ([(q2, qa_R kA (2 * g) (qa_up (2 * g) sr))]))) ++ (qT r rr (qE kI 3 (qF K)) ++ qT (2 * g) sr (qE kI (2 * g) (qD Db)))) H ∧ va_D A (([(sa, .inr (1, [.int (nI g), .ref ru, .ref q2, .null, .int 0]))] ++ ([(ru, qa_R kA r (qa_up r rr))] ++ ([(q2, qa_R kA (2 * g) (qa_up (2 * g) sr))]))) ++ (qT r rr (qE kI 3 (qF K)) ++ qT (2 * g) sr (qE kI (2 * g) (qD Db)))) ∧ va_S A s.heap H locs ∧ lv_has ls 6 [(3, .int (nI u)), (2, .int (nI k)), (1, .int (nI (2 * g))), (0, .ref sa)]) 0 (Nat.zero_le _) ⟨Da, (FC_start hA0), hP, hD, hS, lv_sub hl [0, 1, 2, 3] rfl⟩ ?_
        intro u H locs ls hu hI ihu
        obtain ⟨Db, hC, hP, hD, hS, hl⟩ := hI
        refine lv_iload_n hx hb dX1_reckon_184 rfl (lv_at hl 0 rfl) ?_
        refine lv_iload_n hx hb dX1_reckon_185 rfl (lv_at hl 2 rfl) ?_
        refine lv_icmp_ge (tgt := 249) hx hb dX1_reckon_186 (by decide) (fun c_186 => ?_) (fun c_186 => ?_)
        · skip
          have hEu : u = 2 * g := gc_ge c_186 (by omega) (by omega)
          refine lv_iinc (v := nI (k + 1)) (lv' := [(2, .int (nI (k + 1))), (3, .int (nI u)), (1, .int (nI (2 * g))), (0, .ref sa)]) hx hb dX1_reckon_249 hl (k := 1) rfl (nI_1 k) (by decide) rfl (fun ls hl => ?_)
          refine lv_goto (tgt := 177) hx hb dX1_reckon_252 (by decide) ?_
          exact ihk H _ ls (by omega) ⟨Db, (hC.1), (FC_end (by have q := hC; rw [hEu] at q; exact q) hLk hB0), hP, hD, hS, lv_sub hl [0, 2, 3] rfl⟩
        · skip
          have hLu : u < 2 * g := gc_lt c_186 (by omega) (by omega)
          refine lv_iconst (v := 0) hx hb dX1_reckon_189 (by decide) ?_
          refine lv_istore (lv' := [(4, .int 0), (3, .int (nI u)), (2, .int (nI k)), (1, .int (nI (2 * g))), (0, .ref sa)]) hx hb dX1_reckon_190 hl (by decide) rfl (fun ls hl => ?_)
          refine gc_loop (2 * g) (fun (v : Nat) (H : Heap) (locs : List Loc) (ls : Array Slot) => ∃ (Dc : Nat → Nat → Nat), (FC K (2 * g) k u v Da Dc) ∧ va_P (dC, dI) vwCl (([(sa, .inr (1, [.int (nI g), .ref ru, .ref q2, .null, .int 0]))] ++ ([(ru, qa_R kA r (qa_up r rr))] ++ ([(q2, qa_R kA (2 * g) (qa_up (2 * g) sr))]))) ++ (qT r rr (qE kI 3 (qF K)) ++ qT (2 * g) sr (qE kI (2 * g) (qD Dc)))) H ∧ va_D A (([(sa, .inr (1, [.int (nI g), .ref ru, .ref q2, .null, .int 0]))] ++ ([(ru, qa_R kA r (qa_up r rr))] ++ ([(q2, qa_R kA (2 * g) (qa_up (2 * g) sr))]))) ++ (qT r rr (qE kI 3 (qF K)) ++ qT (2 * g) sr (qE kI (2 * g) (qD Dc)))) ∧ va_S A s.heap H locs ∧ lv_has ls 6 [(4, .int (nI v)), (3, .int (nI u)), (2, .int (nI k)), (1, .int (nI (2 * g))), (0, .ref sa)]) 0 (Nat.zero_le _) ⟨Db, (hC), hP, hD, hS, lv_sub hl [0, 1, 2, 3, 4] rfl⟩ ?_
          intro v H locs ls hv hI ihv
          obtain ⟨Dc, hC2, hP, hD, hS, hl⟩ := hI
          refine lv_iload hx hb dX1_reckon_192 (lv_at hl 0 rfl) ?_
          refine lv_iload_n hx hb dX1_reckon_194 rfl (lv_at hl 3 rfl) ?_
          refine lv_icmp_ge (tgt := 243) hx hb dX1_reckon_195 (by decide) (fun c_195 => ?_) (fun c_195 => ?_)
          · skip
            have hEv : v = 2 * g := gc_ge c_195 (by omega) (by omega)
            refine lv_iinc (v := nI (u + 1)) (lv' := [(3, .int (nI (u + 1))), (4, .int (nI v)), (2, .int (nI k)), (1, .int (nI (2 * g))), (0, .ref sa)]) hx hb dX1_reckon_243 hl (k := 1) rfl (nI_1 u) (by decide) rfl (fun ls hl => ?_)
            refine lv_goto (tgt := 184) hx hb dX1_reckon_246 (by decide) ?_
            exact ihu H _ ls (by omega) ⟨Dc, (FC_row (by have q := hC2; rw [hEv] at q; exact q)), hP, hD, hS, lv_sub hl [0, 2, 3, 4] rfl⟩
          · skip
            have hLv : v < 2 * g := gc_lt c_195 (by omega) (by omega)
            refine lv_aload_n hx hb dX1_reckon_198 rfl (lv_at hl 4 rfl) ?_
            refine va_get (D := (dC, dI)) (ci := 1) (v := .ref q2) (C := RX1) (T := TX1) (N := 5) hx hb hts hin1 hown hK hP 0 rfl rfl 2 (by decide) (hts (.fieldLink RX1 27 "GuestChairsLaw$Sim" "steps" "[[I") (by decide +kernel)) (fun _ h9 => h9) rfl dX1_reckon_199 ?_
            refine lv_iload_n hx hb dX1_reckon_202 rfl (lv_at hl 1 rfl) ?_
            refine qa_ald hx hb hK hP 2 0 rfl rfl (v := sr u) (vp_in_nI (n := u) (N := (2 * g)) (by omega) (by omega)) (by rw [show (nI u : Int32).toNatClampNeg = u from nI_clamp (by omega)]; exact qa_up_at (by omega)) dX1_reckon_203 ?_
            refine lv_iload hx hb dX1_reckon_204 (lv_at hl 0 rfl) ?_
            refine lv_aload_n hx hb dX1_reckon_206 rfl (lv_at hl 4 rfl) ?_
            refine va_get (D := (dC, dI)) (ci := 1) (v := .ref q2) (C := RX1) (T := TX1) (N := 5) hx hb hts hin1 hown hK hP 0 rfl rfl 2 (by decide) (hts (.fieldLink RX1 27 "GuestChairsLaw$Sim" "steps" "[[I") (by decide +kernel)) (fun _ h9 => h9) rfl dX1_reckon_207 ?_
            refine lv_iload_n hx hb dX1_reckon_210 rfl (lv_at hl 1 rfl) ?_
            refine qa_ald hx hb hK hP 2 0 rfl rfl (v := sr u) (vp_in_nI (n := u) (N := (2 * g)) (by omega) (by omega)) (by rw [show (nI u : Int32).toNatClampNeg = u from nI_clamp (by omega)]; exact qa_up_at (by omega)) dX1_reckon_211 ?_
            refine lv_iload hx hb dX1_reckon_212 (lv_at hl 0 rfl) ?_
            refine va_iald hx hb hK hP _ 1 (qR2 (i := u) (by omega) _ _) rfl (vp_in_nI (n := v) (N := (2 * g)) (by omega) (by omega)) dX1_reckon_214 ?_
            rw [show (nI v : Int32).toNatClampNeg = v from nI_clamp (by omega)]
            refine gc_topi (y := nI (Dc u v)) rfl ?_
            refine lv_aload_n hx hb dX1_reckon_215 rfl (lv_at hl 4 rfl) ?_
            refine va_get (D := (dC, dI)) (ci := 1) (v := .ref q2) (C := RX1) (T := TX1) (N := 5) hx hb hts hin1 hown hK hP 0 rfl rfl 2 (by decide) (hts (.fieldLink RX1 27 "GuestChairsLaw$Sim" "steps" "[[I") (by decide +kernel)) (fun _ h9 => h9) rfl dX1_reckon_216 ?_
            refine lv_iload_n hx hb dX1_reckon_219 rfl (lv_at hl 1 rfl) ?_
            refine qa_ald hx hb hK hP 2 0 rfl rfl (v := sr u) (vp_in_nI (n := u) (N := (2 * g)) (by omega) (by omega)) (by rw [show (nI u : Int32).toNatClampNeg = u from nI_clamp (by omega)]; exact qa_up_at (by omega)) dX1_reckon_220 ?_
            refine lv_iload_n hx hb dX1_reckon_221 rfl (lv_at hl 2 rfl) ?_
            refine va_iald hx hb hK hP _ 1 (qR2 (i := u) (by omega) _ _) rfl (vp_in_nI (n := k) (N := (2 * g)) (by omega) (by omega)) dX1_reckon_222 ?_
            rw [show (nI k : Int32).toNatClampNeg = k from nI_clamp (by omega)]
            refine gc_topi (y := nI (Dc u k)) rfl ?_
            refine lv_aload_n hx hb dX1_reckon_223 rfl (lv_at hl 4 rfl) ?_
            refine va_get (D := (dC, dI)) (ci := 1) (v := .ref q2) (C := RX1) (T := TX1) (N := 5) hx hb hts hin1 hown hK hP 0 rfl rfl 2 (by decide) (hts (.fieldLink RX1 27 "GuestChairsLaw$Sim" "steps" "[[I") (by decide +kernel)) (fun _ h9 => h9) rfl dX1_reckon_224 ?_
            refine lv_iload_n hx hb dX1_reckon_227 rfl (lv_at hl 2 rfl) ?_
            refine qa_ald hx hb hK hP 2 0 rfl rfl (v := sr k) (vp_in_nI (n := k) (N := (2 * g)) (by omega) (by omega)) (by rw [show (nI k : Int32).toNatClampNeg = k from nI_clamp (by omega)]; exact qa_up_at (by omega)) dX1_reckon_228 ?_
            refine lv_iload hx hb dX1_reckon_229 (lv_at hl 0 rfl) ?_
            refine va_iald hx hb hK hP _ 1 (qR2 (i := k) (by omega) _ _) rfl (vp_in_nI (n := v) (N := (2 * g)) (by omega) (by omega)) dX1_reckon_231 ?_
            rw [show (nI v : Int32).toNatClampNeg = v from nI_clamp (by omega)]
            refine gc_topi (y := nI (Dc k v)) rfl ?_
            refine lv_iadd hx hb dX1_reckon_232 ?_
            refine gc_topi (y := nI (Dc u k + Dc k v)) (nI_add _ _) ?_
            refine va_mmin hx hb (hml.trans hl.1.symm) hown (hts (.methodLink RX1 30 Lib.Math.min.name) (by decide +kernel)) (hts (.static Lib.Math.min.name) (by decide +kernel)) (hts (.initialized "java/lang/Math") (by decide +kernel)) (hts (.code Lib.Math.min.name Lib.Math.min.code 2 (some .int)) (by decide +kernel)) (Nat.le_of_ble_eq_true rfl) (Nat.le_of_ble_eq_true rfl) (by show _ ≤ (16 : Nat); omega) (by show _ ≤ (338 : Nat); omega) dX1_reckon_233 ?_
            refine gc_topi (y := nI (min (Dc u v) (Dc u k + Dc k v))) (nI_min (by have := FA_le hC2.1 hLu hLv; omega) (by have := FA_le hC2.1 hLu hLk; have := FA_le hC2.1 hLk hLv; omega)) ?_
            refine va_iast hx hb hK hP hD hS _ 1 (qR2 (i := u) (by omega) _ _) rfl (vp_in_nI (n := v) (N := (2 * g)) (by omega) (by omega)) dX1_reckon_236 (fun H locs hP hD hS => ?_)
            have hW9 := qW2D (X := ([(sa, .inr (1, [.int (nI g), .ref ru, .ref q2, .null, .int 0]))] ++ ([(ru, qa_R kA r (qa_up r rr))] ++ ([(q2, qa_R kA (2 * g) (qa_up (2 * g) sr))])))) (Y := qT r rr (qE kI 3 (qF K))) (k := kI) (n := (2 * g)) (len := (2 * g)) (i := u) (by omega) sr Dc v (min (Dc u v) (Dc u k + Dc k v))
            rw [show (nI v : Int32).toNatClampNeg = v from nI_clamp (by omega)] at hP hD
            have hP : va_P (dC, dI) vwCl (([(sa, .inr (1, [.int (nI g), .ref ru, .ref q2, .null, .int 0]))] ++ ([(ru, qa_R kA r (qa_up r rr))] ++ ([(q2, qa_R kA (2 * g) (qa_up (2 * g) sr))]))) ++ (qT r rr (qE kI 3 (qF K)) ++ qT (2 * g) sr (qE kI (2 * g) (qD (D2 Dc u v (min (Dc u v) (Dc u k + Dc k v))))))) H := by rw [← hW9]; exact hP
            have hD : va_D A (([(sa, .inr (1, [.int (nI g), .ref ru, .ref q2, .null, .int 0]))] ++ ([(ru, qa_R kA r (qa_up r rr))] ++ ([(q2, qa_R kA (2 * g) (qa_up (2 * g) sr))]))) ++ (qT r rr (qE kI 3 (qF K)) ++ qT (2 * g) sr (qE kI (2 * g) (qD (D2 Dc u v (min (Dc u v) (Dc u k + Dc k v))))))) := by rw [← hW9]; exact hD
            clear hW9
            refine lv_iinc (v := nI (v + 1)) (lv' := [(4, .int (nI (v + 1))), (3, .int (nI u)), (2, .int (nI k)), (1, .int (nI (2 * g))), (0, .ref sa)]) hx hb dX1_reckon_237 hl (k := 0) rfl (nI_1 v) (by decide) rfl (fun ls hl => ?_)
            refine lv_goto (tgt := 192) hx hb dX1_reckon_240 (by decide) ?_
            exact ihv H _ ls (by omega) ⟨(D2 Dc u v (min (Dc u v) (Dc u k + Dc k v))), (FC_step hC2 hLk hLu hLv), hP, hD, hS, lv_sub hl [0, 1, 2, 3, 4] rfl⟩
    · skip
      have hLi : i < r := gc_lt c_76 (by omega) (by omega)
      have hk1 := (hKg i (by omega)).1
      have hk2 := (hKg i (by omega)).2
      have hk3 := xor1_lt hk1
      have hk4 := xor1_lt hk2
      have hne1 := hne i hLi
      refine lv_aload_n hx hb dX1_reckon_79 rfl (lv_at hl 2 rfl) ?_
      refine lv_iload hx hb dX1_reckon_80 (lv_at hl 0 rfl) ?_
      refine qa_ald hx hb hK hP 1 0 rfl rfl (v := rr i) (vp_in_nI (n := i) (N := r) (by omega) (by omega)) (by rw [show (nI i : Int32).toNatClampNeg = i from nI_clamp (by omega)]; exact qa_up_at (by omega)) dX1_reckon_82 ?_
      refine lv_astore (lv' := [(5, .ref (rr i)), (4, .int (nI i)), (3, .int (nI r)), (2, .ref ru), (1, .int (nI (2 * g))), (0, .ref sa)]) hx hb dX1_reckon_83 hl (by decide) rfl (fun ls hl => ?_)
      refine lv_aload hx hb dX1_reckon_85 (lv_at hl 0 rfl) ?_
      refine lv_iconst (v := 2) hx hb dX1_reckon_87 (by decide) ?_
      refine va_iald hx hb hK hP _ 1 (qR1 (i := i) (by omega) _ _) rfl (vp_in_nI (n := 2) (N := 3) (by omega) (by omega)) dX1_reckon_88 ?_
      rw [show (2 : Int32).toNatClampNeg = 2 from rfl]
      refine gc_topi (y := gB (K.2.2.2 i)) rfl ?_
      refine lv_if_ne (tgt := 95) hx hb dX1_reckon_89 (by decide) (fun c_89 => ?_) (fun c_89 => ?_)
      · skip
        have c_89 := gB_t c_89
        refine lv_aload_n hx hb dX1_reckon_95 rfl (lv_at hl 5 rfl) ?_
        refine va_get (D := (dC, dI)) (ci := 1) (v := .ref q2) (C := RX1) (T := TX1) (N := 5) hx hb hts hin1 hown hK hP 0 rfl rfl 2 (by decide) (hts (.fieldLink RX1 27 "GuestChairsLaw$Sim" "steps" "[[I") (by decide +kernel)) (fun _ h9 => h9) rfl dX1_reckon_96 ?_
        refine lv_aload hx hb dX1_reckon_99 (lv_at hl 0 rfl) ?_
        refine lv_iconst (v := 0) hx hb dX1_reckon_101 (by decide) ?_
        refine va_iald hx hb hK hP _ 1 (qR1 (i := i) (by omega) _ _) rfl (vp_in_nI (n := 0) (N := 3) (by omega) (by omega)) dX1_reckon_102 ?_
        rw [show (0 : Int32).toNatClampNeg = 0 from rfl]
        refine gc_topi (y := nI (K.2.1 i)) rfl ?_
        refine qa_ald hx hb hK hP 2 0 rfl rfl (v := sr (K.2.1 i)) (vp_in_nI (n := (K.2.1 i)) (N := (2 * g)) (by omega) (by omega)) (by rw [show (nI (K.2.1 i) : Int32).toNatClampNeg = (K.2.1 i) from nI_clamp (by omega)]; exact qa_up_at (by omega)) dX1_reckon_103 ?_
        refine lv_aload hx hb dX1_reckon_104 (lv_at hl 0 rfl) ?_
        refine lv_iconst (v := 1) hx hb dX1_reckon_106 (by decide) ?_
        refine va_iald hx hb hK hP _ 1 (qR1 (i := i) (by omega) _ _) rfl (vp_in_nI (n := 1) (N := 3) (by omega) (by omega)) dX1_reckon_107 ?_
        rw [show (1 : Int32).toNatClampNeg = 1 from rfl]
        refine gc_topi (y := nI (K.2.2.1 i)) rfl ?_
        refine va_iald hx hb hK hP _ 1 (qR2 (i := (K.2.1 i)) (by omega) _ _) rfl (vp_in_nI (n := (K.2.2.1 i)) (N := (2 * g)) (by omega) (by omega)) dX1_reckon_108 ?_
        rw [show (nI (K.2.2.1 i) : Int32).toNatClampNeg = (K.2.2.1 i) from nI_clamp (by omega)]
        refine gc_topi (y := nI (Dq (K.2.1 i) (K.2.2.1 i))) rfl ?_
        refine lv_iconst (v := 1) hx hb dX1_reckon_109 (by decide) ?_
        refine lv_icmp_le (tgt := 128) hx hb dX1_reckon_110 (by decide) (fun c_110 => ?_) (fun c_110 => ?_)
        · skip
          have hd1 := le1_of (FR_le hF hk1 hk2) c_110
          refine lv_aload_n hx hb dX1_reckon_128 rfl (lv_at hl 5 rfl) ?_
          refine va_get (D := (dC, dI)) (ci := 1) (v := .ref q2) (C := RX1) (T := TX1) (N := 5) hx hb hts hin1 hown hK hP 0 rfl rfl 2 (by decide) (hts (.fieldLink RX1 27 "GuestChairsLaw$Sim" "steps" "[[I") (by decide +kernel)) (fun _ h9 => h9) rfl dX1_reckon_129 ?_
          refine lv_aload hx hb dX1_reckon_132 (lv_at hl 0 rfl) ?_
          refine lv_iconst (v := 1) hx hb dX1_reckon_134 (by decide) ?_
          refine va_iald hx hb hK hP _ 1 (qR1 (i := i) (by omega) _ _) rfl (vp_in_nI (n := 1) (N := 3) (by omega) (by omega)) dX1_reckon_135 ?_
          rw [show (1 : Int32).toNatClampNeg = 1 from rfl]
          refine gc_topi (y := nI (K.2.2.1 i)) rfl ?_
          refine lv_iconst (v := 1) hx hb dX1_reckon_136 (by decide) ?_
          refine lv_ixor hx hb dX1_reckon_137 ?_
          refine gc_topi (y := nI (K.2.2.1 i ^^^ 1)) (nI_xor1 _) ?_
          refine qa_ald hx hb hK hP 2 0 rfl rfl (v := sr (K.2.2.1 i ^^^ 1)) (vp_in_nI (n := (K.2.2.1 i ^^^ 1)) (N := (2 * g)) (by omega) (by omega)) (by rw [show (nI (K.2.2.1 i ^^^ 1) : Int32).toNatClampNeg = (K.2.2.1 i ^^^ 1) from nI_clamp (by omega)]; exact qa_up_at (by omega)) dX1_reckon_138 ?_
          refine lv_aload hx hb dX1_reckon_139 (lv_at hl 0 rfl) ?_
          refine lv_iconst (v := 0) hx hb dX1_reckon_141 (by decide) ?_
          refine va_iald hx hb hK hP _ 1 (qR1 (i := i) (by omega) _ _) rfl (vp_in_nI (n := 0) (N := 3) (by omega) (by omega)) dX1_reckon_142 ?_
          rw [show (0 : Int32).toNatClampNeg = 0 from rfl]
          refine gc_topi (y := nI (K.2.1 i)) rfl ?_
          refine lv_iconst (v := 1) hx hb dX1_reckon_143 (by decide) ?_
          refine lv_ixor hx hb dX1_reckon_144 ?_
          refine gc_topi (y := nI (K.2.1 i ^^^ 1)) (nI_xor1 _) ?_
          refine va_iald hx hb hK hP _ 1 (qR2 (i := (K.2.2.1 i ^^^ 1)) (by omega) _ _) rfl (vp_in_nI (n := (K.2.1 i ^^^ 1)) (N := (2 * g)) (by omega) (by omega)) dX1_reckon_145 ?_
          rw [show (nI (K.2.1 i ^^^ 1) : Int32).toNatClampNeg = (K.2.1 i ^^^ 1) from nI_clamp (by omega)]
          refine gc_topi (y := nI (Dq (K.2.2.1 i ^^^ 1) (K.2.1 i ^^^ 1))) rfl ?_
          refine lv_iconst (v := 1) hx hb dX1_reckon_146 (by decide) ?_
          refine lv_icmp_le (tgt := 169) hx hb dX1_reckon_147 (by decide) (fun c_147 => ?_) (fun c_147 => ?_)
          · skip
            have hd2 := le1_of (by first | exact FR_le hF hk4 hk3 | exact D2_lt (FR_le hF hk4 hk3)) c_147
            refine lv_iinc (v := nI (i + 1)) (lv' := [(4, .int (nI (i + 1))), (5, .ref (rr i)), (3, .int (nI r)), (2, .ref ru), (1, .int (nI (2 * g))), (0, .ref sa)]) hx hb dX1_reckon_169 hl (k := 1) rfl (nI_1 i) (by decide) rfl (fun ls hl => ?_)
            refine lv_goto (tgt := 73) hx hb dX1_reckon_172 (by decide) ?_
            exact ihi H _ ls (by omega) ⟨Dq, (by have q := FR_rule hF c_89 hne1 hk1 hk2 hk3 hk4; (first | rw [Dr_y hd1] at q | rw [Dr_n hd1] at q); (first | rw [Dr_y hd2] at q | rw [Dr_n hd2] at q); exact q), hP, hD, hS, lv_sub hl [0, 2, 3, 4, 5] rfl⟩
          · skip
            have hd2 := lt1_of (by first | exact FR_le hF hk4 hk3 | exact D2_lt (FR_le hF hk4 hk3)) c_147
            refine lv_aload_n hx hb dX1_reckon_150 rfl (lv_at hl 5 rfl) ?_
            refine va_get (D := (dC, dI)) (ci := 1) (v := .ref q2) (C := RX1) (T := TX1) (N := 5) hx hb hts hin1 hown hK hP 0 rfl rfl 2 (by decide) (hts (.fieldLink RX1 27 "GuestChairsLaw$Sim" "steps" "[[I") (by decide +kernel)) (fun _ h9 => h9) rfl dX1_reckon_151 ?_
            refine lv_aload hx hb dX1_reckon_154 (lv_at hl 0 rfl) ?_
            refine lv_iconst (v := 1) hx hb dX1_reckon_156 (by decide) ?_
            refine va_iald hx hb hK hP _ 1 (qR1 (i := i) (by omega) _ _) rfl (vp_in_nI (n := 1) (N := 3) (by omega) (by omega)) dX1_reckon_157 ?_
            rw [show (1 : Int32).toNatClampNeg = 1 from rfl]
            refine gc_topi (y := nI (K.2.2.1 i)) rfl ?_
            refine lv_iconst (v := 1) hx hb dX1_reckon_158 (by decide) ?_
            refine lv_ixor hx hb dX1_reckon_159 ?_
            refine gc_topi (y := nI (K.2.2.1 i ^^^ 1)) (nI_xor1 _) ?_
            refine qa_ald hx hb hK hP 2 0 rfl rfl (v := sr (K.2.2.1 i ^^^ 1)) (vp_in_nI (n := (K.2.2.1 i ^^^ 1)) (N := (2 * g)) (by omega) (by omega)) (by rw [show (nI (K.2.2.1 i ^^^ 1) : Int32).toNatClampNeg = (K.2.2.1 i ^^^ 1) from nI_clamp (by omega)]; exact qa_up_at (by omega)) dX1_reckon_160 ?_
            refine lv_aload hx hb dX1_reckon_161 (lv_at hl 0 rfl) ?_
            refine lv_iconst (v := 0) hx hb dX1_reckon_163 (by decide) ?_
            refine va_iald hx hb hK hP _ 1 (qR1 (i := i) (by omega) _ _) rfl (vp_in_nI (n := 0) (N := 3) (by omega) (by omega)) dX1_reckon_164 ?_
            rw [show (0 : Int32).toNatClampNeg = 0 from rfl]
            refine gc_topi (y := nI (K.2.1 i)) rfl ?_
            refine lv_iconst (v := 1) hx hb dX1_reckon_165 (by decide) ?_
            refine lv_ixor hx hb dX1_reckon_166 ?_
            refine gc_topi (y := nI (K.2.1 i ^^^ 1)) (nI_xor1 _) ?_
            refine lv_iconst (v := 1) hx hb dX1_reckon_167 (by decide) ?_
            refine va_iast hx hb hK hP hD hS _ 1 (qR2 (i := (K.2.2.1 i ^^^ 1)) (by omega) _ _) rfl (vp_in_nI (n := (K.2.1 i ^^^ 1)) (N := (2 * g)) (by omega) (by omega)) dX1_reckon_168 (fun H locs hP hD hS => ?_)
            have hW9 := qW2D (X := ([(sa, .inr (1, [.int (nI g), .ref ru, .ref q2, .null, .int 0]))] ++ ([(ru, qa_R kA r (qa_up r rr))] ++ ([(q2, qa_R kA (2 * g) (qa_up (2 * g) sr))])))) (Y := qT r rr (qE kI 3 (qF K))) (k := kI) (n := (2 * g)) (len := (2 * g)) (i := (K.2.2.1 i ^^^ 1)) (by omega) sr Dq (K.2.1 i ^^^ 1) 1
            rw [show (nI (K.2.1 i ^^^ 1) : Int32).toNatClampNeg = (K.2.1 i ^^^ 1) from nI_clamp (by omega)] at hP hD
            have hP : va_P (dC, dI) vwCl (([(sa, .inr (1, [.int (nI g), .ref ru, .ref q2, .null, .int 0]))] ++ ([(ru, qa_R kA r (qa_up r rr))] ++ ([(q2, qa_R kA (2 * g) (qa_up (2 * g) sr))]))) ++ (qT r rr (qE kI 3 (qF K)) ++ qT (2 * g) sr (qE kI (2 * g) (qD (D2 Dq (K.2.2.1 i ^^^ 1) (K.2.1 i ^^^ 1) 1))))) H := by rw [← hW9]; exact hP
            have hD : va_D A (([(sa, .inr (1, [.int (nI g), .ref ru, .ref q2, .null, .int 0]))] ++ ([(ru, qa_R kA r (qa_up r rr))] ++ ([(q2, qa_R kA (2 * g) (qa_up (2 * g) sr))]))) ++ (qT r rr (qE kI 3 (qF K)) ++ qT (2 * g) sr (qE kI (2 * g) (qD (D2 Dq (K.2.2.1 i ^^^ 1) (K.2.1 i ^^^ 1) 1))))) := by rw [← hW9]; exact hD
            clear hW9
            refine lv_iinc (v := nI (i + 1)) (lv' := [(4, .int (nI (i + 1))), (5, .ref (rr i)), (3, .int (nI r)), (2, .ref ru), (1, .int (nI (2 * g))), (0, .ref sa)]) hx hb dX1_reckon_169 hl (k := 1) rfl (nI_1 i) (by decide) rfl (fun ls hl => ?_)
            refine lv_goto (tgt := 73) hx hb dX1_reckon_172 (by decide) ?_
            exact ihi H _ ls (by omega) ⟨(D2 Dq (K.2.2.1 i ^^^ 1) (K.2.1 i ^^^ 1) 1), (by have q := FR_rule hF c_89 hne1 hk1 hk2 hk3 hk4; (first | rw [Dr_y hd1] at q | rw [Dr_n hd1] at q); (first | rw [Dr_y hd2] at q | rw [Dr_n hd2] at q); exact q), hP, hD, hS, lv_sub hl [0, 2, 3, 4, 5] rfl⟩
        · skip
          have hd1 := lt1_of (FR_le hF hk1 hk2) c_110
          refine lv_aload_n hx hb dX1_reckon_113 rfl (lv_at hl 5 rfl) ?_
          refine va_get (D := (dC, dI)) (ci := 1) (v := .ref q2) (C := RX1) (T := TX1) (N := 5) hx hb hts hin1 hown hK hP 0 rfl rfl 2 (by decide) (hts (.fieldLink RX1 27 "GuestChairsLaw$Sim" "steps" "[[I") (by decide +kernel)) (fun _ h9 => h9) rfl dX1_reckon_114 ?_
          refine lv_aload hx hb dX1_reckon_117 (lv_at hl 0 rfl) ?_
          refine lv_iconst (v := 0) hx hb dX1_reckon_119 (by decide) ?_
          refine va_iald hx hb hK hP _ 1 (qR1 (i := i) (by omega) _ _) rfl (vp_in_nI (n := 0) (N := 3) (by omega) (by omega)) dX1_reckon_120 ?_
          rw [show (0 : Int32).toNatClampNeg = 0 from rfl]
          refine gc_topi (y := nI (K.2.1 i)) rfl ?_
          refine qa_ald hx hb hK hP 2 0 rfl rfl (v := sr (K.2.1 i)) (vp_in_nI (n := (K.2.1 i)) (N := (2 * g)) (by omega) (by omega)) (by rw [show (nI (K.2.1 i) : Int32).toNatClampNeg = (K.2.1 i) from nI_clamp (by omega)]; exact qa_up_at (by omega)) dX1_reckon_121 ?_
          refine lv_aload hx hb dX1_reckon_122 (lv_at hl 0 rfl) ?_
          refine lv_iconst (v := 1) hx hb dX1_reckon_124 (by decide) ?_
          refine va_iald hx hb hK hP _ 1 (qR1 (i := i) (by omega) _ _) rfl (vp_in_nI (n := 1) (N := 3) (by omega) (by omega)) dX1_reckon_125 ?_
          rw [show (1 : Int32).toNatClampNeg = 1 from rfl]
          refine gc_topi (y := nI (K.2.2.1 i)) rfl ?_
          refine lv_iconst (v := 1) hx hb dX1_reckon_126 (by decide) ?_
          refine va_iast hx hb hK hP hD hS _ 1 (qR2 (i := (K.2.1 i)) (by omega) _ _) rfl (vp_in_nI (n := (K.2.2.1 i)) (N := (2 * g)) (by omega) (by omega)) dX1_reckon_127 (fun H locs hP hD hS => ?_)
          have hW9 := qW2D (X := ([(sa, .inr (1, [.int (nI g), .ref ru, .ref q2, .null, .int 0]))] ++ ([(ru, qa_R kA r (qa_up r rr))] ++ ([(q2, qa_R kA (2 * g) (qa_up (2 * g) sr))])))) (Y := qT r rr (qE kI 3 (qF K))) (k := kI) (n := (2 * g)) (len := (2 * g)) (i := (K.2.1 i)) (by omega) sr Dq (K.2.2.1 i) 1
          rw [show (nI (K.2.2.1 i) : Int32).toNatClampNeg = (K.2.2.1 i) from nI_clamp (by omega)] at hP hD
          have hP : va_P (dC, dI) vwCl (([(sa, .inr (1, [.int (nI g), .ref ru, .ref q2, .null, .int 0]))] ++ ([(ru, qa_R kA r (qa_up r rr))] ++ ([(q2, qa_R kA (2 * g) (qa_up (2 * g) sr))]))) ++ (qT r rr (qE kI 3 (qF K)) ++ qT (2 * g) sr (qE kI (2 * g) (qD (D2 Dq (K.2.1 i) (K.2.2.1 i) 1))))) H := by rw [← hW9]; exact hP
          have hD : va_D A (([(sa, .inr (1, [.int (nI g), .ref ru, .ref q2, .null, .int 0]))] ++ ([(ru, qa_R kA r (qa_up r rr))] ++ ([(q2, qa_R kA (2 * g) (qa_up (2 * g) sr))]))) ++ (qT r rr (qE kI 3 (qF K)) ++ qT (2 * g) sr (qE kI (2 * g) (qD (D2 Dq (K.2.1 i) (K.2.2.1 i) 1))))) := by rw [← hW9]; exact hD
          clear hW9
          refine lv_aload_n hx hb dX1_reckon_128 rfl (lv_at hl 5 rfl) ?_
          refine va_get (D := (dC, dI)) (ci := 1) (v := .ref q2) (C := RX1) (T := TX1) (N := 5) hx hb hts hin1 hown hK hP 0 rfl rfl 2 (by decide) (hts (.fieldLink RX1 27 "GuestChairsLaw$Sim" "steps" "[[I") (by decide +kernel)) (fun _ h9 => h9) rfl dX1_reckon_129 ?_
          refine lv_aload hx hb dX1_reckon_132 (lv_at hl 0 rfl) ?_
          refine lv_iconst (v := 1) hx hb dX1_reckon_134 (by decide) ?_
          refine va_iald hx hb hK hP _ 1 (qR1 (i := i) (by omega) _ _) rfl (vp_in_nI (n := 1) (N := 3) (by omega) (by omega)) dX1_reckon_135 ?_
          rw [show (1 : Int32).toNatClampNeg = 1 from rfl]
          refine gc_topi (y := nI (K.2.2.1 i)) rfl ?_
          refine lv_iconst (v := 1) hx hb dX1_reckon_136 (by decide) ?_
          refine lv_ixor hx hb dX1_reckon_137 ?_
          refine gc_topi (y := nI (K.2.2.1 i ^^^ 1)) (nI_xor1 _) ?_
          refine qa_ald hx hb hK hP 2 0 rfl rfl (v := sr (K.2.2.1 i ^^^ 1)) (vp_in_nI (n := (K.2.2.1 i ^^^ 1)) (N := (2 * g)) (by omega) (by omega)) (by rw [show (nI (K.2.2.1 i ^^^ 1) : Int32).toNatClampNeg = (K.2.2.1 i ^^^ 1) from nI_clamp (by omega)]; exact qa_up_at (by omega)) dX1_reckon_138 ?_
          refine lv_aload hx hb dX1_reckon_139 (lv_at hl 0 rfl) ?_
          refine lv_iconst (v := 0) hx hb dX1_reckon_141 (by decide) ?_
          refine va_iald hx hb hK hP _ 1 (qR1 (i := i) (by omega) _ _) rfl (vp_in_nI (n := 0) (N := 3) (by omega) (by omega)) dX1_reckon_142 ?_
          rw [show (0 : Int32).toNatClampNeg = 0 from rfl]
          refine gc_topi (y := nI (K.2.1 i)) rfl ?_
          refine lv_iconst (v := 1) hx hb dX1_reckon_143 (by decide) ?_
          refine lv_ixor hx hb dX1_reckon_144 ?_
          refine gc_topi (y := nI (K.2.1 i ^^^ 1)) (nI_xor1 _) ?_
          refine va_iald hx hb hK hP _ 1 (qR2 (i := (K.2.2.1 i ^^^ 1)) (by omega) _ _) rfl (vp_in_nI (n := (K.2.1 i ^^^ 1)) (N := (2 * g)) (by omega) (by omega)) dX1_reckon_145 ?_
          rw [show (nI (K.2.1 i ^^^ 1) : Int32).toNatClampNeg = (K.2.1 i ^^^ 1) from nI_clamp (by omega)]
          refine gc_topi (y := nI ((D2 Dq (K.2.1 i) (K.2.2.1 i) 1) (K.2.2.1 i ^^^ 1) (K.2.1 i ^^^ 1))) rfl ?_
          refine lv_iconst (v := 1) hx hb dX1_reckon_146 (by decide) ?_
          refine lv_icmp_le (tgt := 169) hx hb dX1_reckon_147 (by decide) (fun c_147 => ?_) (fun c_147 => ?_)
          · skip
            have hd2 := le1_of (by first | exact FR_le hF hk4 hk3 | exact D2_lt (FR_le hF hk4 hk3)) c_147
            refine lv_iinc (v := nI (i + 1)) (lv' := [(4, .int (nI (i + 1))), (5, .ref (rr i)), (3, .int (nI r)), (2, .ref ru), (1, .int (nI (2 * g))), (0, .ref sa)]) hx hb dX1_reckon_169 hl (k := 1) rfl (nI_1 i) (by decide) rfl (fun ls hl => ?_)
            refine lv_goto (tgt := 73) hx hb dX1_reckon_172 (by decide) ?_
            exact ihi H _ ls (by omega) ⟨(D2 Dq (K.2.1 i) (K.2.2.1 i) 1), (by have q := FR_rule hF c_89 hne1 hk1 hk2 hk3 hk4; (first | rw [Dr_y hd1] at q | rw [Dr_n hd1] at q); (first | rw [Dr_y hd2] at q | rw [Dr_n hd2] at q); exact q), hP, hD, hS, lv_sub hl [0, 2, 3, 4, 5] rfl⟩
          · skip
            have hd2 := lt1_of (by first | exact FR_le hF hk4 hk3 | exact D2_lt (FR_le hF hk4 hk3)) c_147
            refine lv_aload_n hx hb dX1_reckon_150 rfl (lv_at hl 5 rfl) ?_
            refine va_get (D := (dC, dI)) (ci := 1) (v := .ref q2) (C := RX1) (T := TX1) (N := 5) hx hb hts hin1 hown hK hP 0 rfl rfl 2 (by decide) (hts (.fieldLink RX1 27 "GuestChairsLaw$Sim" "steps" "[[I") (by decide +kernel)) (fun _ h9 => h9) rfl dX1_reckon_151 ?_
            refine lv_aload hx hb dX1_reckon_154 (lv_at hl 0 rfl) ?_
            refine lv_iconst (v := 1) hx hb dX1_reckon_156 (by decide) ?_
            refine va_iald hx hb hK hP _ 1 (qR1 (i := i) (by omega) _ _) rfl (vp_in_nI (n := 1) (N := 3) (by omega) (by omega)) dX1_reckon_157 ?_
            rw [show (1 : Int32).toNatClampNeg = 1 from rfl]
            refine gc_topi (y := nI (K.2.2.1 i)) rfl ?_
            refine lv_iconst (v := 1) hx hb dX1_reckon_158 (by decide) ?_
            refine lv_ixor hx hb dX1_reckon_159 ?_
            refine gc_topi (y := nI (K.2.2.1 i ^^^ 1)) (nI_xor1 _) ?_
            refine qa_ald hx hb hK hP 2 0 rfl rfl (v := sr (K.2.2.1 i ^^^ 1)) (vp_in_nI (n := (K.2.2.1 i ^^^ 1)) (N := (2 * g)) (by omega) (by omega)) (by rw [show (nI (K.2.2.1 i ^^^ 1) : Int32).toNatClampNeg = (K.2.2.1 i ^^^ 1) from nI_clamp (by omega)]; exact qa_up_at (by omega)) dX1_reckon_160 ?_
            refine lv_aload hx hb dX1_reckon_161 (lv_at hl 0 rfl) ?_
            refine lv_iconst (v := 0) hx hb dX1_reckon_163 (by decide) ?_
            refine va_iald hx hb hK hP _ 1 (qR1 (i := i) (by omega) _ _) rfl (vp_in_nI (n := 0) (N := 3) (by omega) (by omega)) dX1_reckon_164 ?_
            rw [show (0 : Int32).toNatClampNeg = 0 from rfl]
            refine gc_topi (y := nI (K.2.1 i)) rfl ?_
            refine lv_iconst (v := 1) hx hb dX1_reckon_165 (by decide) ?_
            refine lv_ixor hx hb dX1_reckon_166 ?_
            refine gc_topi (y := nI (K.2.1 i ^^^ 1)) (nI_xor1 _) ?_
            refine lv_iconst (v := 1) hx hb dX1_reckon_167 (by decide) ?_
            refine va_iast hx hb hK hP hD hS _ 1 (qR2 (i := (K.2.2.1 i ^^^ 1)) (by omega) _ _) rfl (vp_in_nI (n := (K.2.1 i ^^^ 1)) (N := (2 * g)) (by omega) (by omega)) dX1_reckon_168 (fun H locs hP hD hS => ?_)
            have hW9 := qW2D (X := ([(sa, .inr (1, [.int (nI g), .ref ru, .ref q2, .null, .int 0]))] ++ ([(ru, qa_R kA r (qa_up r rr))] ++ ([(q2, qa_R kA (2 * g) (qa_up (2 * g) sr))])))) (Y := qT r rr (qE kI 3 (qF K))) (k := kI) (n := (2 * g)) (len := (2 * g)) (i := (K.2.2.1 i ^^^ 1)) (by omega) sr (D2 Dq (K.2.1 i) (K.2.2.1 i) 1) (K.2.1 i ^^^ 1) 1
            rw [show (nI (K.2.1 i ^^^ 1) : Int32).toNatClampNeg = (K.2.1 i ^^^ 1) from nI_clamp (by omega)] at hP hD
            have hP : va_P (dC, dI) vwCl (([(sa, .inr (1, [.int (nI g), .ref ru, .ref q2, .null, .int 0]))] ++ ([(ru, qa_R kA r (qa_up r rr))] ++ ([(q2, qa_R kA (2 * g) (qa_up (2 * g) sr))]))) ++ (qT r rr (qE kI 3 (qF K)) ++ qT (2 * g) sr (qE kI (2 * g) (qD (D2 (D2 Dq (K.2.1 i) (K.2.2.1 i) 1) (K.2.2.1 i ^^^ 1) (K.2.1 i ^^^ 1) 1))))) H := by rw [← hW9]; exact hP
            have hD : va_D A (([(sa, .inr (1, [.int (nI g), .ref ru, .ref q2, .null, .int 0]))] ++ ([(ru, qa_R kA r (qa_up r rr))] ++ ([(q2, qa_R kA (2 * g) (qa_up (2 * g) sr))]))) ++ (qT r rr (qE kI 3 (qF K)) ++ qT (2 * g) sr (qE kI (2 * g) (qD (D2 (D2 Dq (K.2.1 i) (K.2.2.1 i) 1) (K.2.2.1 i ^^^ 1) (K.2.1 i ^^^ 1) 1))))) := by rw [← hW9]; exact hD
            clear hW9
            refine lv_iinc (v := nI (i + 1)) (lv' := [(4, .int (nI (i + 1))), (5, .ref (rr i)), (3, .int (nI r)), (2, .ref ru), (1, .int (nI (2 * g))), (0, .ref sa)]) hx hb dX1_reckon_169 hl (k := 1) rfl (nI_1 i) (by decide) rfl (fun ls hl => ?_)
            refine lv_goto (tgt := 73) hx hb dX1_reckon_172 (by decide) ?_
            exact ihi H _ ls (by omega) ⟨(D2 (D2 Dq (K.2.1 i) (K.2.2.1 i) 1) (K.2.2.1 i ^^^ 1) (K.2.1 i ^^^ 1) 1), (by have q := FR_rule hF c_89 hne1 hk1 hk2 hk3 hk4; (first | rw [Dr_y hd1] at q | rw [Dr_n hd1] at q); (first | rw [Dr_y hd2] at q | rw [Dr_n hd2] at q); exact q), hP, hD, hS, lv_sub hl [0, 2, 3, 4, 5] rfl⟩
      · skip
        have c_89 := gB_f c_89
        refine lv_goto (tgt := 169) hx hb dX1_reckon_92 (by decide) ?_
        refine lv_iinc (v := nI (i + 1)) (lv' := [(4, .int (nI (i + 1))), (5, .ref (rr i)), (3, .int (nI r)), (2, .ref ru), (1, .int (nI (2 * g))), (0, .ref sa)]) hx hb dX1_reckon_169 hl (k := 1) rfl (nI_1 i) (by decide) rfl (fun ls hl => ?_)
        refine lv_goto (tgt := 73) hx hb dX1_reckon_172 (by decide) ?_
        exact ihi H _ ls (by omega) ⟨Dq, (FR_skip hF c_89), hP, hD, hS, lv_sub hl [0, 2, 3, 4, 5] rfl⟩
  · skip
    have hLu : u < 2 * g := gc_lt c_21 (by omega) (by omega)
    refine lv_iconst (v := 0) hx hb dX1_reckon_24 (by decide) ?_
    refine lv_istore_n (lv' := [(3, .int 0), (2, .int (nI u)), (1, .int (nI (2 * g))), (0, .ref sa)]) hx hb dX1_reckon_25 rfl hl (by decide) rfl (fun ls hl => ?_)
    refine gc_loop (2 * g) (fun (v : Nat) (H : Heap) (locs : List Loc) (ls : Array Slot) => ∃ (Dx : Nat → Nat → Nat), (RI (2 * g) u v Dx) ∧ va_P (dC, dI) vwCl (([(sa, .inr (1, [.int (nI g), .ref ru, .ref q2, .null, .int 0]))] ++ ([(ru, qa_R kA r (qa_up r rr))] ++ ([(q2, qa_R kA (2 * g) (qa_up (2 * g) sr))]))) ++ (qT r rr (qE kI 3 (qF K)) ++ qT (2 * g) sr (qE kI (2 * g) (qD Dx)))) H ∧ va_D A (([(sa, .inr (1, [.int (nI g), .ref ru, .ref q2, .null, .int 0]))] ++ ([(ru, qa_R kA r (qa_up r rr))] ++ ([(q2, qa_R kA (2 * g) (qa_up (2 * g) sr))]))) ++ (qT r rr (qE kI 3 (qF K)) ++ qT (2 * g) sr (qE kI (2 * g) (qD Dx)))) ∧ va_S A s.heap H locs ∧ lv_has ls 6 [(3, .int (nI v)), (2, .int (nI u)), (1, .int (nI (2 * g))), (0, .ref sa)]) 0 (Nat.zero_le _) ⟨D1, (hR), hP, hD, hS, lv_sub hl [0, 1, 2, 3] rfl⟩ ?_
    intro v H locs ls hv hI ihv
    obtain ⟨Dx, hR2, hP, hD, hS, hl⟩ := hI
    refine lv_iload_n hx hb dX1_reckon_26 rfl (lv_at hl 0 rfl) ?_
    refine lv_iload_n hx hb dX1_reckon_27 rfl (lv_at hl 2 rfl) ?_
    refine lv_icmp_ge (tgt := 56) hx hb dX1_reckon_28 (by decide) (fun c_28 => ?_) (fun c_28 => ?_)
    · skip
      have hEv : v = 2 * g := gc_ge c_28 (by omega) (by omega)
      refine lv_iinc (v := nI (u + 1)) (lv' := [(2, .int (nI (u + 1))), (3, .int (nI v)), (1, .int (nI (2 * g))), (0, .ref sa)]) hx hb dX1_reckon_56 hl (k := 1) rfl (nI_1 u) (by decide) rfl (fun ls hl => ?_)
      refine lv_goto (tgt := 19) hx hb dX1_reckon_59 (by decide) ?_
      exact ihu H _ ls (by omega) ⟨Dx, (by (have q := hR2; rw [hEv] at q; exact RI_row q)), hP, hD, hS, lv_sub hl [0, 2, 3] rfl⟩
    · skip
      have hLv : v < 2 * g := gc_lt c_28 (by omega) (by omega)
      refine lv_aload_n hx hb dX1_reckon_31 rfl (lv_at hl 3 rfl) ?_
      refine va_get (D := (dC, dI)) (ci := 1) (v := .ref q2) (C := RX1) (T := TX1) (N := 5) hx hb hts hin1 hown hK hP 0 rfl rfl 2 (by decide) (hts (.fieldLink RX1 27 "GuestChairsLaw$Sim" "steps" "[[I") (by decide +kernel)) (fun _ h9 => h9) rfl dX1_reckon_32 ?_
      refine lv_iload_n hx hb dX1_reckon_35 rfl (lv_at hl 1 rfl) ?_
      refine qa_ald hx hb hK hP 2 0 rfl rfl (v := sr u) (vp_in_nI (n := u) (N := (2 * g)) (by omega) (by omega)) (by rw [show (nI u : Int32).toNatClampNeg = u from nI_clamp (by omega)]; exact qa_up_at (by omega)) dX1_reckon_36 ?_
      refine lv_iload_n hx hb dX1_reckon_37 rfl (lv_at hl 0 rfl) ?_
      refine lv_iload_n hx hb dX1_reckon_38 rfl (lv_at hl 1 rfl) ?_
      refine lv_iload_n hx hb dX1_reckon_39 rfl (lv_at hl 0 rfl) ?_
      refine lv_icmp_ne (tgt := 47) hx hb dX1_reckon_40 (by decide) (fun c_40 => ?_) (fun c_40 => ?_)
      · skip
        refine lv_bipush (v := 99) hx hb dX1_reckon_47 (by decide) ?_
        refine va_iast hx hb hK hP hD hS _ 1 (qR2 (i := u) (by omega) _ _) rfl (vp_in_nI (n := v) (N := (2 * g)) (by omega) (by omega)) dX1_reckon_49 (fun H locs hP hD hS => ?_)
        have hW9 := qW2D (X := ([(sa, .inr (1, [.int (nI g), .ref ru, .ref q2, .null, .int 0]))] ++ ([(ru, qa_R kA r (qa_up r rr))] ++ ([(q2, qa_R kA (2 * g) (qa_up (2 * g) sr))])))) (Y := qT r rr (qE kI 3 (qF K))) (k := kI) (n := (2 * g)) (len := (2 * g)) (i := u) (by omega) sr Dx v 99
        rw [show (nI v : Int32).toNatClampNeg = v from nI_clamp (by omega)] at hP hD
        have hP : va_P (dC, dI) vwCl (([(sa, .inr (1, [.int (nI g), .ref ru, .ref q2, .null, .int 0]))] ++ ([(ru, qa_R kA r (qa_up r rr))] ++ ([(q2, qa_R kA (2 * g) (qa_up (2 * g) sr))]))) ++ (qT r rr (qE kI 3 (qF K)) ++ qT (2 * g) sr (qE kI (2 * g) (qD (D2 Dx u v 99))))) H := by rw [← hW9]; exact hP
        have hD : va_D A (([(sa, .inr (1, [.int (nI g), .ref ru, .ref q2, .null, .int 0]))] ++ ([(ru, qa_R kA r (qa_up r rr))] ++ ([(q2, qa_R kA (2 * g) (qa_up (2 * g) sr))]))) ++ (qT r rr (qE kI 3 (qF K)) ++ qT (2 * g) sr (qE kI (2 * g) (qD (D2 Dx u v 99))))) := by rw [← hW9]; exact hD
        clear hW9
        refine lv_iinc (v := nI (v + 1)) (lv' := [(3, .int (nI (v + 1))), (2, .int (nI u)), (1, .int (nI (2 * g))), (0, .ref sa)]) hx hb dX1_reckon_50 hl (k := 0) rfl (nI_1 v) (by decide) rfl (fun ls hl => ?_)
        refine lv_goto (tgt := 26) hx hb dX1_reckon_53 (by decide) ?_
        exact ihv H _ ls (by omega) ⟨(D2 Dx u v 99), (RI_ne hR2 (fun q => c_40 (by rw [q]))), hP, hD, hS, lv_sub hl [0, 1, 2, 3] rfl⟩
      · skip
        refine lv_iconst (v := 0) hx hb dX1_reckon_43 (by decide) ?_
        refine lv_goto (tgt := 49) hx hb dX1_reckon_44 (by decide) ?_
        refine va_iast hx hb hK hP hD hS _ 1 (qR2 (i := u) (by omega) _ _) rfl (vp_in_nI (n := v) (N := (2 * g)) (by omega) (by omega)) dX1_reckon_49 (fun H locs hP hD hS => ?_)
        have hW9 := qW2D (X := ([(sa, .inr (1, [.int (nI g), .ref ru, .ref q2, .null, .int 0]))] ++ ([(ru, qa_R kA r (qa_up r rr))] ++ ([(q2, qa_R kA (2 * g) (qa_up (2 * g) sr))])))) (Y := qT r rr (qE kI 3 (qF K))) (k := kI) (n := (2 * g)) (len := (2 * g)) (i := u) (by omega) sr Dx v 0
        rw [show (nI v : Int32).toNatClampNeg = v from nI_clamp (by omega)] at hP hD
        have hP : va_P (dC, dI) vwCl (([(sa, .inr (1, [.int (nI g), .ref ru, .ref q2, .null, .int 0]))] ++ ([(ru, qa_R kA r (qa_up r rr))] ++ ([(q2, qa_R kA (2 * g) (qa_up (2 * g) sr))]))) ++ (qT r rr (qE kI 3 (qF K)) ++ qT (2 * g) sr (qE kI (2 * g) (qD (D2 Dx u v 0))))) H := by rw [← hW9]; exact hP
        have hD : va_D A (([(sa, .inr (1, [.int (nI g), .ref ru, .ref q2, .null, .int 0]))] ++ ([(ru, qa_R kA r (qa_up r rr))] ++ ([(q2, qa_R kA (2 * g) (qa_up (2 * g) sr))]))) ++ (qT r rr (qE kI 3 (qF K)) ++ qT (2 * g) sr (qE kI (2 * g) (qD (D2 Dx u v 0))))) := by rw [← hW9]; exact hD
        clear hW9
        refine lv_iinc (v := nI (v + 1)) (lv' := [(3, .int (nI (v + 1))), (2, .int (nI u)), (1, .int (nI (2 * g))), (0, .ref sa)]) hx hb dX1_reckon_50 hl (k := 0) rfl (nI_1 v) (by decide) rfl (fun ls hl => ?_)
        refine lv_goto (tgt := 26) hx hb dX1_reckon_53 (by decide) ?_
        exact ihv H _ ls (by omega) ⟨(D2 Dx u v 0), (RI_eq hR2 ((nI_eq (by omega) (by omega)).mp c_40)), hP, hD, hS, lv_sub hl [0, 1, 2, 3] rfl⟩
