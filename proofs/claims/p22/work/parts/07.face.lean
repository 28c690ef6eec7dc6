/-! THE BOOK'S PUBLIC METHODS, called as they may be. -/
theorem gs_l : ∀ n, n < 32 → ((nI n &&& 31).toBitVec.smod 32).toNat = n := by decide +kernel
theorem gc_shl1 {g : Nat} (h : g ≤ 10) : ((1 : Int32) <<< (nI g &&& 31)) = nI (2 ^ g) := by
  have h1 := Nat.pow_le_pow_right (n := 2) (by decide) h
  have h2 := pk_shlN (n := 1) (nI g &&& 31) g (gs_l g (by omega)) (by omega)
  rw [Nat.one_mul] at h2
  exact h2
def gRe (dr : Nat → Int32) (g a : Nat) : Nat → Int32
  | 0 => (1 : Int32) <<< (nI a &&& 31)
  | i + 1 => gOS dr (gRe dr g a i) (2 * g)
def gSp (dr : Nat → Int32) (g a b j : Nat) : Bool := gHas (gRe dr g a j) (nI b)
def gTo (f1 f2 : Nat → Int32) (inf : Int32) (x : Nat) : Nat → Int32
  | 0 => gAt 30 f1 (nI x)
  | 1 => gAt 30 f2 (nI x)
  | _ => gB (gHas inf (nI x))
def gGu (cl : Nat → Int32) (g x : Nat) : Nat → Int32
  | 0 => gB (gFt cl g && gVain 20 cl (nI (2 * x) ^^^ 1))
  | 1 => gB (gFt cl g && gVain 20 cl (nI (2 * x)))
  | 2 => gB (gTorn 20 cl (nI x))
  | _ => gBC (gGB cl (nI (2 * x)) (2 * g))
def gCo (cl : Nat → Int32) (g r : Nat) (inf : Int32) : Nat → Int32
  | 0 => nI g
  | 1 => nI r
  | 2 => gBC inf
  | 3 => gCT cl g
  | 4 => gCV cl (2 * g)
  | _ => gCP cl (2 * g)
def gSeat (se : Nat → Int32) (g ct : Nat) : Int32 := if ct = 0 then -1 else gGC (gAt 1024 se 0) g
def gDg (f : Nat → Int32) (d : Int64) : Nat → Int64
  | 0 => d
  | i + 1 => (gDg f d i * 31) + (f i).toInt64
def gDD (F : Nat → Nat → Int32) (n : Nat) (d : Int64) : Nat → Int64
  | 0 => d
  | i + 1 => gDg (F i) (gDD F n d i) n
set_option maxHeartbeats 4000000 in
set_option maxRecDepth 100000 in
theorem c_X0_requireFact (l : Launch) (w : Nat) (n : Nat) (hw : w < n) (hn : n ≤ 10) : Met l yX0_requireFact wsX0_requireFact ({ frames := 0, cells := 0, slots := 0, locals := 0 }) (va_Pc [.int (nI w), .int (nI n)] (fun _ => True)) (va_Qv (fun (_u : Unit) => True) (fun _ _ => True) (fun _ => False)) 0 0 (fun _ => False) := by
  refine Met.ofW (cc := cX0_requireFact) (maxL := 2) (ret := none) (by decide) rfl ?_
  intro p e s m args below meth c s₁ B hml hv
  obtain ⟨rfl, -⟩ := hv
  have hx := B.exec
  have hb := B.bytes
  have hr := B.returns
  have hts := atoms_spec (ws := wsX0_requireFact) B.pre
  have hown : s.vm.findClass RX0 = some m.cls := findClass_of_methodNamed B.named
  have hlocks := B.notSynchronized
  have hS : va_S (fun _ => False) s.heap s.heap [] := va_S.rf
  have hl := lv_entry [.int (nI w), .int (nI n)] (n := 2) (Nat.le_of_ble_eq_true rfl)
  rw [lg_entry_eq]
  generalize (lg_sl [.int (nI w), .int (nI n)] ++ List.replicate (2 - (lg_sl [.int (nI w), .int (nI n)]).length) Slot.unset).toArray = ls at hl ⊢
  have hl : lv_has ls 2 [(0, .int (nI w)), (1, .int (nI n))] := hl
  refine lv_iload_n hx hb dX0_requireFact_0 rfl (lv_at hl 0 rfl) ?_
  refine lv_if_lt (tgt := 9) hx hb dX0_requireFact_1 (by decide) (fun c_1 => ?_) (fun c_1 => ?_)
  · skip
    exact absurd c_1 (nI_pos (by omega))
  · skip
    refine lv_iload_n hx hb dX0_requireFact_4 rfl (lv_at hl 0 rfl) ?_
    refine lv_iload_n hx hb dX0_requireFact_5 rfl (lv_at hl 1 rfl) ?_
    refine lv_icmp_lt (tgt := 19) hx hb dX0_requireFact_6 (by decide) (fun c_6 => ?_) (fun c_6 => ?_)
    · skip
      exact W.vret hx hb hr (fun t ht hW => ⟨⟨(), rfl, trivial, trivial⟩, hS.F ht⟩) hS.2.2 dX0_requireFact_19
    · skip
      exact absurd ((nI_ltI (by omega) (by omega)).mpr hw) c_6
set_option maxHeartbeats 4000000 in
set_option maxRecDepth 100000 in
theorem c_X0_requireWishes (l : Launch) (dC : Nat → ClassId) (dI : Nat → Nat → Nat) (h : Nat → Nat) (kc : Nat → ClassId) (f1 : Nat → Int32) (f2 : Nat → Int32) (dr : Nat → Int32) (cl : Nat → Int32) (tr : Nat → Int32) (se : Nat → Int32) (g : Nat) (r : Nat) (inf : Int32) (ct : Nat) (wa : Nat) (wb : Nat) (hg : g ≤ 10) (ha : wa < 2 * g) (hb2 : wb < 2 * g) : Met l yX0_requireWishes wsX0_requireWishes ({ frames := 1, cells := 0, slots := 0, locals := 20 }) (gcPR (dC, dI) [.ref (h 0), .int (nI wa), .int (nI wb)] (gcW h kc f1 f2 dr cl tr se (nI g) (nI r) inf (nI ct)) (gcT kc)) (va_Qv (fun (_u : Unit) => True) (fun _ _ => True) (fun _ => False)) 0 0 (fun _ => False) := by
  refine Met.ofW (cc := cX0_requireWishes) (maxL := 3) (ret := none) (by decide) rfl ?_
  intro p e s m args below meth c s₁ B hml hv
  obtain ⟨rfl, hP, hK⟩ := hv
  have hx := B.exec
  have hb := B.bytes
  have hr := B.returns
  have hts := atoms_spec (ws := wsX0_requireWishes) B.pre
  have hown : s.vm.findClass RX0 = some m.cls := findClass_of_methodNamed B.named
  have hlocks := B.notSynchronized
  have hS : va_S (fun _ => False) s.heap s.heap [] := va_S.rf
  have hP : va_P (dC, dI) vwCl (gcW h kc f1 f2 dr cl tr se (nI g) (nI r) inf (nI ct)) s.heap := hP
  have hin0 : ∀ w ∈ wsX00, w ∈ wsX0_requireWishes := by decide +kernel
  have hl := lv_entry [.ref (h 0), .int (nI wa), .int (nI wb)] (n := 3) (Nat.le_of_ble_eq_true rfl)
  rw [lg_entry_eq]
  generalize (lg_sl [.ref (h 0), .int (nI wa), .int (nI wb)] ++ List.replicate (3 - (lg_sl [.ref (h 0), .int (nI wa), .int (nI wb)]).length) Slot.unset).toArray = ls at hl ⊢
  have hl : lv_has ls 3 [(0, .ref (h 0)), (1, .int (nI wa)), (2, .int (nI wb))] := hl
  refine lv_iload_n hx hb dX0_requireWishes_0 rfl (lv_at hl 1 rfl) ?_
  refine lv_if_lt (tgt := 24) hx hb dX0_requireWishes_1 (by decide) (fun c_1 => ?_) (fun c_1 => ?_)
  · skip
    exact absurd c_1 (nI_pos (by omega))
  · skip
    refine lv_iload_n hx hb dX0_requireWishes_4 rfl (lv_at hl 1 rfl) ?_
    refine lv_aload_n hx hb dX0_requireWishes_5 rfl (lv_at hl 0 rfl) ?_
    have hPc : va_P (dC, dI) vwCl (gcW h kc f1 f2 dr cl tr se (nI g) (nI r) inf (nI ct)) _ := hP.sub [0, 1, 2, 3, 4, 5, 6] rfl
    have hKc : va_K (dC, dI) vwCl (gcT kc) s := hK.sub [0, 1, 2, 3, 4, 5] rfl
    refine va_calli (va_runV (As := []) (rest := [.int (nI wa)]) ⟨hx, hb, hml, hown, hts⟩ (c_X0_wishCount l dC dI h kc f1 f2 dr cl tr se g r inf ct) (cwV 0 hts gX0_requireWishes_X0_wishCount rfl rfl rfl (by decide +kernel) ⟨Nat.le_of_ble_eq_true rfl, Nat.le_of_ble_eq_true rfl⟩) ⟨gcPR_blind, va_recv hK hP (ci := 0) (q0 := 0) rfl rfl, fun U hU hW => ⟨rfl, by rw [hU]; exact hPc, va_K.moved hW.alike hKc⟩⟩ rfl rfl hl.1 rfl (lv_room (Nat.le_of_ble_eq_true rfl)) dX0_requireWishes_6 ⟨Nat.zero_le _, Nat.zero_le _⟩) hS (fun q _ h => h.elim) (fun q h => h.elim) (fun r1 u t H locs ht hvm hw hB hz1 hk1 hS => ?_)
    have hP := gc_keep hP hk1
    have hw : r1 = nI (2 * g) := hw
    subst hw
    clear hw
    clear hB hz1 hk1 ht hvm
    clear hPc hKc
    refine lv_icmp_ge (tgt := 24) hx hb dX0_requireWishes_9 (by decide) (fun c_9 => ?_) (fun c_9 => ?_)
    · skip
      exact absurd c_9 (nI_ge ha (by omega))
    · skip
      refine lv_iload_n hx hb dX0_requireWishes_12 rfl (lv_at hl 2 rfl) ?_
      refine lv_if_lt (tgt := 24) hx hb dX0_requireWishes_13 (by decide) (fun c_13 => ?_) (fun c_13 => ?_)
      · skip
        exact absurd c_13 (nI_pos (by omega))
      · skip
        refine lv_iload_n hx hb dX0_requireWishes_16 rfl (lv_at hl 2 rfl) ?_
        refine lv_aload_n hx hb dX0_requireWishes_17 rfl (lv_at hl 0 rfl) ?_
        have hPc : va_P (dC, dI) vwCl (gcW h kc f1 f2 dr cl tr se (nI g) (nI r) inf (nI ct)) _ := hP.sub [0, 1, 2, 3, 4, 5, 6] rfl
        have hKc : va_K (dC, dI) vwCl (gcT kc) s := hK.sub [0, 1, 2, 3, 4, 5] rfl
        refine va_calli (va_runV (As := []) (rest := [.int (nI wb)]) ⟨hx, hb, hml, hown, hts⟩ (c_X0_wishCount l dC dI h kc f1 f2 dr cl tr se g r inf ct) (cwV 0 hts gX0_requireWishes_X0_wishCount rfl rfl rfl (by decide +kernel) ⟨Nat.le_of_ble_eq_true rfl, Nat.le_of_ble_eq_true rfl⟩) ⟨gcPR_blind, va_recv hK hP (ci := 0) (q0 := 0) rfl rfl, fun U hU hW => ⟨rfl, by rw [hU]; exact hPc, va_K.moved hW.alike hKc⟩⟩ rfl rfl hl.1 rfl (lv_room (Nat.le_of_ble_eq_true rfl)) dX0_requireWishes_18 ⟨Nat.zero_le _, Nat.zero_le _⟩) hS (fun q _ h => h.elim) (fun q h => h.elim) (fun r2 u t H locs ht hvm hw hB hz1 hk1 hS => ?_)
        have hP := gc_keep hP hk1
        have hw : r2 = nI (2 * g) := hw
        subst hw
        clear hw
        clear hB hz1 hk1 ht hvm
        clear hPc hKc
        refine lv_icmp_lt (tgt := 34) hx hb dX0_requireWishes_21 (by decide) (fun c_21 => ?_) (fun c_21 => ?_)
        · skip
          exact W.vret hx hb hr (fun t ht hW => ⟨⟨(), rfl, trivial, trivial⟩, hS.F ht⟩) hS.2.2 dX0_requireWishes_34
        · skip
          exact absurd ((nI_ltI (by omega) (by omega)).mpr hb2) c_21
set_option maxHeartbeats 4000000 in
set_option maxRecDepth 100000 in
theorem c_X0_requireGuest (l : Launch) (dC : Nat → ClassId) (dI : Nat → Nat → Nat) (h : Nat → Nat) (kc : Nat → ClassId) (f1 : Nat → Int32) (f2 : Nat → Int32) (dr : Nat → Int32) (cl : Nat → Int32) (tr : Nat → Int32) (se : Nat → Int32) (g : Nat) (r : Nat) (inf : Int32) (ct : Nat) (x : Nat) (hg : g ≤ 10) (hx2 : x < g) : Met l yX0_requireGuest wsX0_requireGuest ({ frames := 0, cells := 0, slots := 0, locals := 0 }) (gcPR (dC, dI) [.ref (h 0), .int (nI x)] (gcW h kc f1 f2 dr cl tr se (nI g) (nI r) inf (nI ct)) (gcT kc)) (va_Qv (fun (_u : Unit) => True) (fun _ _ => True) (fun _ => False)) 0 0 (fun _ => False) := by
  refine Met.ofW (cc := cX0_requireGuest) (maxL := 2) (ret := none) (by decide) rfl ?_
  intro p e s m args below meth c s₁ B hml hv
  obtain ⟨rfl, hP, hK⟩ := hv
  have hx := B.exec
  have hb := B.bytes
  have hr := B.returns
  have hts := atoms_spec (ws := wsX0_requireGuest) B.pre
  have hown : s.vm.findClass RX0 = some m.cls := findClass_of_methodNamed B.named
  have hlocks := B.notSynchronized
  have hS : va_S (fun _ => False) s.heap s.heap [] := va_S.rf
  have hP : va_P (dC, dI) vwCl (gcW h kc f1 f2 dr cl tr se (nI g) (nI r) inf (nI ct)) s.heap := hP
  have hin0 : ∀ w ∈ wsX00, w ∈ wsX0_requireGuest := by decide +kernel
  have hl := lv_entry [.ref (h 0), .int (nI x)] (n := 2) (Nat.le_of_ble_eq_true rfl)
  rw [lg_entry_eq]
  generalize (lg_sl [.ref (h 0), .int (nI x)] ++ List.replicate (2 - (lg_sl [.ref (h 0), .int (nI x)]).length) Slot.unset).toArray = ls at hl ⊢
  have hl : lv_has ls 2 [(0, .ref (h 0)), (1, .int (nI x))] := hl
  refine lv_iload_n hx hb dX0_requireGuest_0 rfl (lv_at hl 1 rfl) ?_
  refine lv_if_lt (tgt := 12) hx hb dX0_requireGuest_1 (by decide) (fun c_1 => ?_) (fun c_1 => ?_)
  · skip
    exact absurd c_1 (nI_pos (by omega))
  · skip
    refine lv_iload_n hx hb dX0_requireGuest_4 rfl (lv_at hl 1 rfl) ?_
    refine lv_aload_n hx hb dX0_requireGuest_5 rfl (lv_at hl 0 rfl) ?_
    refine va_get (D := (dC, dI)) (ci := 0) (v := .int (nI g)) (C := RX0) (T := TX0) (N := 10) hx hb hts hin0 hown hK hP 0 rfl rfl 6 (by decide) (hts (.fieldLink RX0 31 "GuestChairs" "guestCount" "I") (by decide +kernel)) (fun _ h9 => h9) rfl dX0_requireGuest_6 ?_
    refine lv_icmp_lt (tgt := 22) hx hb dX0_requireGuest_9 (by decide) (fun c_9 => ?_) (fun c_9 => ?_)
    · skip
      exact W.vret hx hb hr (fun t ht hW => ⟨⟨(), rfl, trivial, trivial⟩, hS.F ht⟩) hS.2.2 dX0_requireGuest_22
    · skip
      exact absurd ((nI_ltI (by omega) (by omega)).mpr hx2) c_9
set_option maxHeartbeats 4000000 in
set_option maxRecDepth 100000 in
theorem c_X0_requireRule (l : Launch) (dC : Nat → ClassId) (dI : Nat → Nat → Nat) (h : Nat → Nat) (kc : Nat → ClassId) (f1 : Nat → Int32) (f2 : Nat → Int32) (dr : Nat → Int32) (cl : Nat → Int32) (tr : Nat → Int32) (se : Nat → Int32) (g : Nat) (r : Nat) (inf : Int32) (ct : Nat) (x : Nat) (hr30 : r ≤ 30) (hx2 : x < r) : Met l yX0_requireRule wsX0_requireRule ({ frames := 0, cells := 0, slots := 0, locals := 0 }) (gcPR (dC, dI) [.ref (h 0), .int (nI x)] (gcW h kc f1 f2 dr cl tr se (nI g) (nI r) inf (nI ct)) (gcT kc)) (va_Qv (fun (_u : Unit) => True) (fun _ _ => True) (fun _ => False)) 0 0 (fun _ => False) := by
  refine Met.ofW (cc := cX0_requireRule) (maxL := 2) (ret := none) (by decide) rfl ?_
  intro p e s m args below meth c s₁ B hml hv
  obtain ⟨rfl, hP, hK⟩ := hv
  have hx := B.exec
  have hb := B.bytes
  have hr := B.returns
  have hts := atoms_spec (ws := wsX0_requireRule) B.pre
  have hown : s.vm.findClass RX0 = some m.cls := findClass_of_methodNamed B.named
  have hlocks := B.notSynchronized
  have hS : va_S (fun _ => False) s.heap s.heap [] := va_S.rf
  have hP : va_P (dC, dI) vwCl (gcW h kc f1 f2 dr cl tr se (nI g) (nI r) inf (nI ct)) s.heap := hP
  have hin0 : ∀ w ∈ wsX00, w ∈ wsX0_requireRule := by decide +kernel
  have hl := lv_entry [.ref (h 0), .int (nI x)] (n := 2) (Nat.le_of_ble_eq_true rfl)
  rw [lg_entry_eq]
  generalize (lg_sl [.ref (h 0), .int (nI x)] ++ List.replicate (2 - (lg_sl [.ref (h 0), .int (nI x)]).length) Slot.unset).toArray = ls at hl ⊢
  have hl : lv_has ls 2 [(0, .ref (h 0)), (1, .int (nI x))] := hl
  refine lv_iload_n hx hb dX0_requireRule_0 rfl (lv_at hl 1 rfl) ?_
  refine lv_if_lt (tgt := 12) hx hb dX0_requireRule_1 (by decide) (fun c_1 => ?_) (fun c_1 => ?_)
  · skip
    exact absurd c_1 (nI_pos (by omega))
  · skip
    refine lv_iload_n hx hb dX0_requireRule_4 rfl (lv_at hl 1 rfl) ?_
    refine lv_aload_n hx hb dX0_requireRule_5 rfl (lv_at hl 0 rfl) ?_
    refine va_get (D := (dC, dI)) (ci := 0) (v := .int (nI r)) (C := RX0) (T := TX0) (N := 10) hx hb hts hin0 hown hK hP 0 rfl rfl 7 (by decide) (hts (.fieldLink RX0 51 "GuestChairs" "ruleCount" "I") (by decide +kernel)) (fun _ h9 => h9) rfl dX0_requireRule_6 ?_
    refine lv_icmp_lt (tgt := 22) hx hb dX0_requireRule_9 (by decide) (fun c_9 => ?_) (fun c_9 => ?_)
    · skip
      exact W.vret hx hb hr (fun t ht hW => ⟨⟨(), rfl, trivial, trivial⟩, hS.F ht⟩) hS.2.2 dX0_requireRule_22
    · skip
      exact absurd ((nI_ltI (by omega) (by omega)).mpr hx2) c_9
set_option maxHeartbeats 4000000 in
set_option maxRecDepth 100000 in
theorem c_X0_told (l : Launch) (dC : Nat → ClassId) (dI : Nat → Nat → Nat) (h : Nat → Nat) (kc : Nat → ClassId) (f1 : Nat → Int32) (f2 : Nat → Int32) (dr : Nat → Int32) (cl : Nat → Int32) (tr : Nat → Int32) (se : Nat → Int32) (g : Nat) (r : Nat) (inf : Int32) (ct : Nat) (x : Nat) (w : Nat) (hr30 : r ≤ 30) (hx2 : x < r) (hw : w < 3) : Met l yX0_told wsX0_told ({ frames := 1, cells := 0, slots := 0, locals := 21 }) (gcPR (dC, dI) [.ref (h 0), .int (nI x), .int (nI w)] (gcW h kc f1 f2 dr cl tr se (nI g) (nI r) inf (nI ct)) (gcT kc)) (va_Qi (fun (rv : Int32) (_u : Unit) => rv = gTo f1 f2 inf x w) (fun _ _ => True) (fun _ => False)) 0 0 (fun _ => False) := by
  refine Met.ofW (cc := cX0_told) (maxL := 3) (ret := (some .int)) (by decide) rfl ?_
  intro p e s m args below meth c s₁ B hml hv
  obtain ⟨rfl, hP, hK⟩ := hv
  have hx := B.exec
  have hb := B.bytes
  have hr := B.returns
  have hts := atoms_spec (ws := wsX0_told) B.pre
  have hown : s.vm.findClass RX0 = some m.cls := findClass_of_methodNamed B.named
  have hlocks := B.notSynchronized
  have hS : va_S (fun _ => False) s.heap s.heap [] := va_S.rf
  have hP : va_P (dC, dI) vwCl (gcW h kc f1 f2 dr cl tr se (nI g) (nI r) inf (nI ct)) s.heap := hP
  have hin0 : ∀ w ∈ wsX00, w ∈ wsX0_told := by decide +kernel
  have hl := lv_entry [.ref (h 0), .int (nI x), .int (nI w)] (n := 3) (Nat.le_of_ble_eq_true rfl)
  rw [lg_entry_eq]
  generalize (lg_sl [.ref (h 0), .int (nI x), .int (nI w)] ++ List.replicate (3 - (lg_sl [.ref (h 0), .int (nI x), .int (nI w)]).length) Slot.unset).toArray = ls at hl ⊢
  have hl : lv_has ls 3 [(0, .ref (h 0)), (1, .int (nI x)), (2, .int (nI w))] := hl
  refine lv_aload_n hx hb dX0_told_0 rfl (lv_at hl 0 rfl) ?_
  refine lv_iload_n hx hb dX0_told_1 rfl (lv_at hl 1 rfl) ?_
  have hPc : va_P (dC, dI) vwCl (gcW h kc f1 f2 dr cl tr se (nI g) (nI r) inf (nI ct)) _ := hP.sub [0, 1, 2, 3, 4, 5, 6] rfl
  have hKc : va_K (dC, dI) vwCl (gcT kc) s := hK.sub [0, 1, 2, 3, 4, 5] rfl
  refine va_callv (va_runV (As := [.int (nI x)]) (rest := []) ⟨hx, hb, hml, hown, hts⟩ (c_X0_requireRule l dC dI h kc f1 f2 dr cl tr se g r inf ct x (by first | assumption | omega) (by first | assumption | omega)) (cwV 1 hts gX0_told_X0_requireRule rfl rfl rfl (by decide +kernel) ⟨Nat.le_of_ble_eq_true rfl, Nat.le_of_ble_eq_true rfl⟩) ⟨gcPR_blind, va_recv hK hP (ci := 0) (q0 := 0) rfl rfl, fun U hU hW => ⟨rfl, by rw [hU]; exact hPc, va_K.moved hW.alike hKc⟩⟩ rfl rfl hl.1 rfl (lv_room (Nat.le_of_ble_eq_true rfl)) dX0_told_2 ⟨Nat.zero_le _, Nat.zero_le _⟩) hS (fun q _ h => h.elim) (fun q h => h.elim) (fun u t H locs ht hvm hw hB hz1 hk1 hS => ?_)
  have hP := gc_keep hP hk1
  clear hB hz1 hk1 ht hvm
  clear hPc hKc
  refine lv_iload_n hx hb dX0_told_5 rfl (lv_at hl 2 rfl) ?_
  refine lv_iconst (v := 3) hx hb dX0_told_6 (by decide) ?_
  refine va_callv (va_runS (As := [.int (nI w), .int 3]) (rest := []) ⟨hx, hb, hml, hown, hts⟩ (c_X0_requireFact l w 3 (by first | assumption | omega) (by decide)) (va_cwS 2 hts gX0_told_X0_requireFact rfl rfl rfl (by decide +kernel) ⟨Nat.le_of_ble_eq_true rfl, Nat.le_of_ble_eq_true rfl⟩) ⟨fun a U g mk q => q, fun U hU hW => ⟨rfl, trivial⟩⟩ rfl rfl hl.1 rfl (lv_room (Nat.le_of_ble_eq_true rfl)) dX0_told_7 ⟨Nat.zero_le _, Nat.zero_le _⟩) hS (fun q _ h => h.elim) (fun q h => h.elim) (fun u t H locs ht hvm hw hB hz1 hk1 hS => ?_)
  have hP := gc_keep hP hk1
  clear hB hz1 hk1 ht hvm
  refine lv_iload_n hx hb dX0_told_10 rfl (lv_at hl 2 rfl) ?_
  refine lv_if_ne (tgt := 23) hx hb dX0_told_11 (by decide) (fun c_11 => ?_) (fun c_11 => ?_)
  · skip
    have c_11 : ¬ w = 0 := fun q => c_11 (by rw [q]; rfl)
    refine lv_iload_n hx hb dX0_told_23 rfl (lv_at hl 2 rfl) ?_
    refine lv_iconst (v := 1) hx hb dX0_told_24 (by decide) ?_
    refine lv_icmp_ne (tgt := 37) hx hb dX0_told_25 (by decide) (fun c_25 => ?_) (fun c_25 => ?_)
    · skip
      have c_25 : ¬ w = 1 := fun q => c_25 (by rw [q]; rfl)
      refine lv_aload_n hx hb dX0_told_37 rfl (lv_at hl 0 rfl) ?_
      refine va_get (D := (dC, dI)) (ci := 0) (v := .int inf) (C := RX0) (T := TX0) (N := 10) hx hb hts hin0 hown hK hP 0 rfl rfl 8 (by decide) (hts (.fieldLink RX0 60 "GuestChairs" "inForce" "I") (by decide +kernel)) (fun _ h9 => h9) rfl dX0_told_38 ?_
      refine lv_iload_n hx hb dX0_told_41 rfl (lv_at hl 1 rfl) ?_
      refine va_calli (va_runS (As := [.int inf, .int (nI x)]) (rest := []) ⟨hx, hb, hml, hown, hts⟩ (c_X0_has l inf (nI x)) (va_cwS 2 hts gX0_told_X0_has rfl rfl rfl (by decide +kernel) ⟨Nat.le_of_ble_eq_true rfl, Nat.le_of_ble_eq_true rfl⟩) ⟨fun a U g mk q => q, fun U hU hW => ⟨rfl, trivial⟩⟩ rfl rfl hl.1 rfl (lv_room (Nat.le_of_ble_eq_true rfl)) dX0_told_42 ⟨Nat.zero_le _, Nat.zero_le _⟩) hS (fun q _ h => h.elim) (fun q h => h.elim) (fun r3 u t H locs ht hvm hw hB hz1 hk1 hS => ?_)
      have hP := gc_keep hP hk1
      have hw : r3 = gB (gHas inf (nI x)) := hw
      subst hw
      clear hw
      clear hB hz1 hk1 ht hvm
      refine va_calli (va_runS (As := [.int (gB (gHas inf (nI x)))]) (rest := []) ⟨hx, hb, hml, hown, hts⟩ (c_X0_oneIf l (gHas inf (nI x))) (va_cwS 1 hts gX0_told_X0_oneIf rfl rfl rfl (by decide +kernel) ⟨Nat.le_of_ble_eq_true rfl, Nat.le_of_ble_eq_true rfl⟩) ⟨fun a U g mk q => q, fun U hU hW => ⟨rfl, trivial⟩⟩ rfl rfl hl.1 rfl (lv_room (Nat.le_of_ble_eq_true rfl)) dX0_told_45 ⟨Nat.zero_le _, Nat.zero_le _⟩) hS (fun q _ h => h.elim) (fun q h => h.elim) (fun r4 u t H locs ht hvm hw hB hz1 hk1 hS => ?_)
      have hP := gc_keep hP hk1
      have hw : r4 = gB (gHas inf (nI x)) := hw
      subst hw
      clear hw
      clear hB hz1 hk1 ht hvm
      have hpost : (gB (gHas inf (nI x))) = gTo f1 f2 inf x w := by (have q : w = 2 := by omega); subst q; rfl
      exact W.iret (v := gB (gHas inf (nI x))) hx hb hr (fun t ht hW => ⟨⟨gB (gHas inf (nI x)), (), rfl, hpost, trivial⟩, hS.F ht⟩) hS.2.2 dX0_told_48
    · skip
      have c_25 : w = 1 := (nI_eq (b := 1) (by omega) (by decide)).mp c_25
      refine lv_aload_n hx hb dX0_told_28 rfl (lv_at hl 0 rfl) ?_
      refine va_get (D := (dC, dI)) (ci := 0) (v := .ref (h 2)) (C := RX0) (T := TX0) (N := 10) hx hb hts hin0 hown hK hP 0 rfl rfl 1 (by decide) (hts (.fieldLink RX0 13 "GuestChairs" "seconds" "[I") (by decide +kernel)) (fun _ h9 => h9) rfl dX0_told_29 ?_
      refine lv_iload_n hx hb dX0_told_32 rfl (lv_at hl 1 rfl) ?_
      have hPc : va_P (dC, dI) vwCl ([((h 2), .inl ((kc 2), 30, .inl f2))]) _ := hP.sub [2] rfl
      have hKc : va_K (dC, dI) vwCl ([((kc 2), .int)]) s := hK.sub [1] rfl
      refine va_calli (va_runS (As := [.ref (h 2), .int (nI x)]) (rest := []) ⟨hx, hb, hml, hown, hts⟩ (c_X0_at l dC dI (h 2) (kc 2) 30 f2 (nI x) (by decide)) (va_cwS 2 hts gX0_told_X0_at rfl rfl rfl (by decide +kernel) ⟨Nat.le_of_ble_eq_true rfl, Nat.le_of_ble_eq_true rfl⟩) ⟨gcPR_blind, fun U hU hW => ⟨rfl, by rw [hU]; exact hPc, va_K.moved hW.alike hKc⟩⟩ rfl rfl hl.1 rfl (lv_room (Nat.le_of_ble_eq_true rfl)) dX0_told_33 ⟨Nat.zero_le _, Nat.zero_le _⟩) hS (fun q _ h => h.elim) (fun q h => h.elim) (fun r5 u t H locs ht hvm hw hB hz1 hk1 hS => ?_)
      have hP := gc_keep hP hk1
      have hw : r5 = gAt 30 f2 (nI x) := hw
      subst hw
      clear hw
      clear hB hz1 hk1 ht hvm
      clear hPc hKc
      have hpost : (gAt 30 f2 (nI x)) = gTo f1 f2 inf x w := by subst c_25; rfl
      exact W.iret (v := gAt 30 f2 (nI x)) hx hb hr (fun t ht hW => ⟨⟨gAt 30 f2 (nI x), (), rfl, hpost, trivial⟩, hS.F ht⟩) hS.2.2 dX0_told_36
  · skip
    have c_11 : w = 0 := (nI_eq (b := 0) (by omega) (by decide)).mp c_11
    refine lv_aload_n hx hb dX0_told_14 rfl (lv_at hl 0 rfl) ?_
    refine va_get (D := (dC, dI)) (ci := 0) (v := .ref (h 1)) (C := RX0) (T := TX0) (N := 10) hx hb hts hin0 hown hK hP 0 rfl rfl 0 (by decide) (hts (.fieldLink RX0 9 "GuestChairs" "firsts" "[I") (by decide +kernel)) (fun _ h9 => h9) rfl dX0_told_15 ?_
    refine lv_iload_n hx hb dX0_told_18 rfl (lv_at hl 1 rfl) ?_
    have hPc : va_P (dC, dI) vwCl ([((h 1), .inl ((kc 1), 30, .inl f1))]) _ := hP.sub [1] rfl
    have hKc : va_K (dC, dI) vwCl ([((kc 1), .int)]) s := hK.sub [0] rfl
    refine va_calli (va_runS (As := [.ref (h 1), .int (nI x)]) (rest := []) ⟨hx, hb, hml, hown, hts⟩ (c_X0_at l dC dI (h 1) (kc 1) 30 f1 (nI x) (by decide)) (va_cwS 2 hts gX0_told_X0_at rfl rfl rfl (by decide +kernel) ⟨Nat.le_of_ble_eq_true rfl, Nat.le_of_ble_eq_true rfl⟩) ⟨gcPR_blind, fun U hU hW => ⟨rfl, by rw [hU]; exact hPc, va_K.moved hW.alike hKc⟩⟩ rfl rfl hl.1 rfl (lv_room (Nat.le_of_ble_eq_true rfl)) dX0_told_19 ⟨Nat.zero_le _, Nat.zero_le _⟩) hS (fun q _ h => h.elim) (fun q h => h.elim) (fun r6 u t H locs ht hvm hw hB hz1 hk1 hS => ?_)
    have hP := gc_keep hP hk1
    have hw : r6 = gAt 30 f1 (nI x) := hw
    subst hw
    clear hw
    clear hB hz1 hk1 ht hvm
    clear hPc hKc
    have hpost : (gAt 30 f1 (nI x)) = gTo f1 f2 inf x w := by subst c_11; rfl
    exact W.iret (v := gAt 30 f1 (nI x)) hx hb hr (fun t ht hW => ⟨⟨gAt 30 f1 (nI x), (), rfl, hpost, trivial⟩, hS.F ht⟩) hS.2.2 dX0_told_22
set_option maxHeartbeats 4000000 in
set_option maxRecDepth 100000 in
theorem c_X0_follows (l : Launch) (dC : Nat → ClassId) (dI : Nat → Nat → Nat) (h : Nat → Nat) (kc : Nat → ClassId) (f1 : Nat → Int32) (f2 : Nat → Int32) (dr : Nat → Int32) (cl : Nat → Int32) (tr : Nat → Int32) (se : Nat → Int32) (g : Nat) (r : Nat) (inf : Int32) (ct : Nat) (wa : Nat) (wb : Nat) (hg : g ≤ 10) (ha : wa < 2 * g) (hb2 : wb < 2 * g) : Met l yX0_follows wsX0_follows ({ frames := 2, cells := 0, slots := 0, locals := 42 }) (gcPR (dC, dI) [.ref (h 0), .int (nI wa), .int (nI wb)] (gcW h kc f1 f2 dr cl tr se (nI g) (nI r) inf (nI ct)) (gcT kc)) (va_Qi (fun (rv : Int32) (_u : Unit) => rv = gB (gHas (gAt 20 cl (nI wa)) (nI wb))) (fun _ _ => True) (fun _ => False)) 0 0 (fun _ => False) := by
  refine Met.ofW (cc := cX0_follows) (maxL := 3) (ret := (some .boolean)) (by decide) rfl ?_
  intro p e s m args below meth c s₁ B hml hv
  obtain ⟨rfl, hP, hK⟩ := hv
  have hx := B.exec
  have hb := B.bytes
  have hr := B.returns
  have hts := atoms_spec (ws := wsX0_follows) B.pre
  have hown : s.vm.findClass RX0 = some m.cls := findClass_of_methodNamed B.named
  have hlocks := B.notSynchronized
  have hS : va_S (fun _ => False) s.heap s.heap [] := va_S.rf
  have hP : va_P (dC, dI) vwCl (gcW h kc f1 f2 dr cl tr se (nI g) (nI r) inf (nI ct)) s.heap := hP
  have hin0 : ∀ w ∈ wsX00, w ∈ wsX0_follows := by decide +kernel
  have hl := lv_entry [.ref (h 0), .int (nI wa), .int (nI wb)] (n := 3) (Nat.le_of_ble_eq_true rfl)
  rw [lg_entry_eq]
  generalize (lg_sl [.ref (h 0), .int (nI wa), .int (nI wb)] ++ List.replicate (3 - (lg_sl [.ref (h 0), .int (nI wa), .int (nI wb)]).length) Slot.unset).toArray = ls at hl ⊢
  have hl : lv_has ls 3 [(0, .ref (h 0)), (1, .int (nI wa)), (2, .int (nI wb))] := hl
  refine lv_aload_n hx hb dX0_follows_0 rfl (lv_at hl 0 rfl) ?_
  refine lv_iload_n hx hb dX0_follows_1 rfl (lv_at hl 1 rfl) ?_
  refine lv_iload_n hx hb dX0_follows_2 rfl (lv_at hl 2 rfl) ?_
  have hPc : va_P (dC, dI) vwCl (gcW h kc f1 f2 dr cl tr se (nI g) (nI r) inf (nI ct)) _ := hP.sub [0, 1, 2, 3, 4, 5, 6] rfl
  have hKc : va_K (dC, dI) vwCl (gcT kc) s := hK.sub [0, 1, 2, 3, 4, 5] rfl
  refine va_callv (va_runV (As := [.int (nI wa), .int (nI wb)]) (rest := []) ⟨hx, hb, hml, hown, hts⟩ (c_X0_requireWishes l dC dI h kc f1 f2 dr cl tr se g r inf ct wa wb (by first | assumption | omega) (by first | assumption | omega) (by first | assumption | omega)) (cwV 2 hts gX0_follows_X0_requireWishes rfl rfl rfl (by decide +kernel) ⟨Nat.le_of_ble_eq_true rfl, Nat.le_of_ble_eq_true rfl⟩) ⟨gcPR_blind, va_recv hK hP (ci := 0) (q0 := 0) rfl rfl, fun U hU hW => ⟨rfl, by rw [hU]; exact hPc, va_K.moved hW.alike hKc⟩⟩ rfl rfl hl.1 rfl (lv_room (Nat.le_of_ble_eq_true rfl)) dX0_follows_3 ⟨Nat.zero_le _, Nat.zero_le _⟩) hS (fun q _ h => h.elim) (fun q h => h.elim) (fun u t H locs ht hvm hw hB hz1 hk1 hS => ?_)
  have hP := gc_keep hP hk1
  clear hB hz1 hk1 ht hvm
  clear hPc hKc
  refine lv_aload_n hx hb dX0_follows_6 rfl (lv_at hl 0 rfl) ?_
  refine va_get (D := (dC, dI)) (ci := 0) (v := .ref (h 4)) (C := RX0) (T := TX0) (N := 10) hx hb hts hin0 hown hK hP 0 rfl rfl 3 (by decide) (hts (.fieldLink RX0 19 "GuestChairs" "closed" "[I") (by decide +kernel)) (fun _ h9 => h9) rfl dX0_follows_7 ?_
  refine lv_iload_n hx hb dX0_follows_10 rfl (lv_at hl 1 rfl) ?_
  have hPc : va_P (dC, dI) vwCl ([((h 4), .inl ((kc 4), 20, .inl cl))]) _ := hP.sub [4] rfl
  have hKc : va_K (dC, dI) vwCl ([((kc 4), .int)]) s := hK.sub [3] rfl
  refine va_calli (va_runS (As := [.ref (h 4), .int (nI wa)]) (rest := []) ⟨hx, hb, hml, hown, hts⟩ (c_X0_at l dC dI (h 4) (kc 4) 20 cl (nI wa) (by decide)) (va_cwS 2 hts gX0_follows_X0_at rfl rfl rfl (by decide +kernel) ⟨Nat.le_of_ble_eq_true rfl, Nat.le_of_ble_eq_true rfl⟩) ⟨gcPR_blind, fun U hU hW => ⟨rfl, by rw [hU]; exact hPc, va_K.moved hW.alike hKc⟩⟩ rfl rfl hl.1 rfl (lv_room (Nat.le_of_ble_eq_true rfl)) dX0_follows_11 ⟨Nat.zero_le _, Nat.zero_le _⟩) hS (fun q _ h => h.elim) (fun q h => h.elim) (fun r2 u t H locs ht hvm hw hB hz1 hk1 hS => ?_)
  have hP := gc_keep hP hk1
  have hw : r2 = gAt 20 cl (nI wa) := hw
  subst hw
  clear hw
  clear hB hz1 hk1 ht hvm
  clear hPc hKc
  refine lv_iload_n hx hb dX0_follows_14 rfl (lv_at hl 2 rfl) ?_
  refine va_calli (va_runS (As := [.int (gAt 20 cl (nI wa)), .int (nI wb)]) (rest := []) ⟨hx, hb, hml, hown, hts⟩ (c_X0_has l (gAt 20 cl (nI wa)) (nI wb)) (va_cwS 2 hts gX0_follows_X0_has rfl rfl rfl (by decide +kernel) ⟨Nat.le_of_ble_eq_true rfl, Nat.le_of_ble_eq_true rfl⟩) ⟨fun a U g mk q => q, fun U hU hW => ⟨rfl, trivial⟩⟩ rfl rfl hl.1 rfl (lv_room (Nat.le_of_ble_eq_true rfl)) dX0_follows_15 ⟨Nat.zero_le _, Nat.zero_le _⟩) hS (fun q _ h => h.elim) (fun q h => h.elim) (fun r3 u t H locs ht hvm hw hB hz1 hk1 hS => ?_)
  have hP := gc_keep hP hk1
  have hw : r3 = gB (gHas (gAt 20 cl (nI wa)) (nI wb)) := hw
  subst hw
  clear hw
  clear hB hz1 hk1 ht hvm
  have hpost : (gB (gHas (gAt 20 cl (nI wa)) (nI wb))) = gB (gHas (gAt 20 cl (nI wa)) (nI wb)) := by first | rfl | assumption
  exact W.zret (ty := .boolean) (v := gB (gHas (gAt 20 cl (nI wa)) (nI wb))) hx hb hr (by first | rfl | decide | exact gB_nar _) (fun t ht hW => ⟨⟨gB (gHas (gAt 20 cl (nI wa)) (nI wb)), (), rfl, hpost, trivial⟩, hS.F ht⟩) hS.2.2 dX0_follows_18
set_option maxHeartbeats 4000000 in
set_option maxRecDepth 100000 in
theorem c_X0_reach (l : Launch) (dC : Nat → ClassId) (dI : Nat → Nat → Nat) (h : Nat → Nat) (kc : Nat → ClassId) (f1 : Nat → Int32) (f2 : Nat → Int32) (dr : Nat → Int32) (cl : Nat → Int32) (tr : Nat → Int32) (se : Nat → Int32) (g : Nat) (r : Nat) (inf : Int32) (ct : Nat) (wa : Nat) (hg : g ≤ 10) (ha : wa < 2 * g) : Met l yX0_reach wsX0_reach ({ frames := 2, cells := 0, slots := 0, locals := 42 }) (gcPR (dC, dI) [.ref (h 0), .int (nI wa)] (gcW h kc f1 f2 dr cl tr se (nI g) (nI r) inf (nI ct)) (gcT kc)) (va_Qi (fun (rv : Int32) (_u : Unit) => rv = gAt 20 cl (nI wa)) (fun _ _ => True) (fun _ => False)) 0 0 (fun _ => False) := by
  refine Met.ofW (cc := cX0_reach) (maxL := 2) (ret := (some .int)) (by decide) rfl ?_
  intro p e s m args below meth c s₁ B hml hv
  obtain ⟨rfl, hP, hK⟩ := hv
  have hx := B.exec
  have hb := B.bytes
  have hr := B.returns
  have hts := atoms_spec (ws := wsX0_reach) B.pre
  have hown : s.vm.findClass RX0 = some m.cls := findClass_of_methodNamed B.named
  have hlocks := B.notSynchronized
  have hS : va_S (fun _ => False) s.heap s.heap [] := va_S.rf
  have hP : va_P (dC, dI) vwCl (gcW h kc f1 f2 dr cl tr se (nI g) (nI r) inf (nI ct)) s.heap := hP
  have hin0 : ∀ w ∈ wsX00, w ∈ wsX0_reach := by decide +kernel
  have hl := lv_entry [.ref (h 0), .int (nI wa)] (n := 2) (Nat.le_of_ble_eq_true rfl)
  rw [lg_entry_eq]
  generalize (lg_sl [.ref (h 0), .int (nI wa)] ++ List.replicate (2 - (lg_sl [.ref (h 0), .int (nI wa)]).length) Slot.unset).toArray = ls at hl ⊢
  have hl : lv_has ls 2 [(0, .ref (h 0)), (1, .int (nI wa))] := hl
  refine lv_aload_n hx hb dX0_reach_0 rfl (lv_at hl 0 rfl) ?_
  refine lv_iload_n hx hb dX0_reach_1 rfl (lv_at hl 1 rfl) ?_
  refine lv_iload_n hx hb dX0_reach_2 rfl (lv_at hl 1 rfl) ?_
  have hPc : va_P (dC, dI) vwCl (gcW h kc f1 f2 dr cl tr se (nI g) (nI r) inf (nI ct)) _ := hP.sub [0, 1, 2, 3, 4, 5, 6] rfl
  have hKc : va_K (dC, dI) vwCl (gcT kc) s := hK.sub [0, 1, 2, 3, 4, 5] rfl
  refine va_callv (va_runV (As := [.int (nI wa), .int (nI wa)]) (rest := []) ⟨hx, hb, hml, hown, hts⟩ (c_X0_requireWishes l dC dI h kc f1 f2 dr cl tr se g r inf ct wa wa (by first | assumption | omega) (by first | assumption | omega) (by first | assumption | omega)) (cwV 2 hts gX0_reach_X0_requireWishes rfl rfl rfl (by decide +kernel) ⟨Nat.le_of_ble_eq_true rfl, Nat.le_of_ble_eq_true rfl⟩) ⟨gcPR_blind, va_recv hK hP (ci := 0) (q0 := 0) rfl rfl, fun U hU hW => ⟨rfl, by rw [hU]; exact hPc, va_K.moved hW.alike hKc⟩⟩ rfl rfl hl.1 rfl (lv_room (Nat.le_of_ble_eq_true rfl)) dX0_reach_3 ⟨Nat.zero_le _, Nat.zero_le _⟩) hS (fun q _ h => h.elim) (fun q h => h.elim) (fun u t H locs ht hvm hw hB hz1 hk1 hS => ?_)
  have hP := gc_keep hP hk1
  clear hB hz1 hk1 ht hvm
  clear hPc hKc
  refine lv_aload_n hx hb dX0_reach_6 rfl (lv_at hl 0 rfl) ?_
  refine va_get (D := (dC, dI)) (ci := 0) (v := .ref (h 4)) (C := RX0) (T := TX0) (N := 10) hx hb hts hin0 hown hK hP 0 rfl rfl 3 (by decide) (hts (.fieldLink RX0 19 "GuestChairs" "closed" "[I") (by decide +kernel)) (fun _ h9 => h9) rfl dX0_reach_7 ?_
  refine lv_iload_n hx hb dX0_reach_10 rfl (lv_at hl 1 rfl) ?_
  have hPc : va_P (dC, dI) vwCl ([((h 4), .inl ((kc 4), 20, .inl cl))]) _ := hP.sub [4] rfl
  have hKc : va_K (dC, dI) vwCl ([((kc 4), .int)]) s := hK.sub [3] rfl
  refine va_calli (va_runS (As := [.ref (h 4), .int (nI wa)]) (rest := []) ⟨hx, hb, hml, hown, hts⟩ (c_X0_at l dC dI (h 4) (kc 4) 20 cl (nI wa) (by decide)) (va_cwS 2 hts gX0_reach_X0_at rfl rfl rfl (by decide +kernel) ⟨Nat.le_of_ble_eq_true rfl, Nat.le_of_ble_eq_true rfl⟩) ⟨gcPR_blind, fun U hU hW => ⟨rfl, by rw [hU]; exact hPc, va_K.moved hW.alike hKc⟩⟩ rfl rfl hl.1 rfl (lv_room (Nat.le_of_ble_eq_true rfl)) dX0_reach_11 ⟨Nat.zero_le _, Nat.zero_le _⟩) hS (fun q _ h => h.elim) (fun q h => h.elim) (fun r2 u t H locs ht hvm hw hB hz1 hk1 hS => ?_)
  have hP := gc_keep hP hk1
  have hw : r2 = gAt 20 cl (nI wa) := hw
  subst hw
  clear hw
  clear hB hz1 hk1 ht hvm
  clear hPc hKc
  have hpost : (gAt 20 cl (nI wa)) = gAt 20 cl (nI wa) := by first | rfl | assumption
  exact W.iret (v := gAt 20 cl (nI wa)) hx hb hr (fun t ht hW => ⟨⟨gAt 20 cl (nI wa), (), rfl, hpost, trivial⟩, hS.F ht⟩) hS.2.2 dX0_reach_14
set_option maxHeartbeats 4000000 in
set_option maxRecDepth 100000 in
theorem c_X0_steps (l : Launch) (dC : Nat → ClassId) (dI : Nat → Nat → Nat) (h : Nat → Nat) (kc : Nat → ClassId) (f1 : Nat → Int32) (f2 : Nat → Int32) (dr : Nat → Int32) (cl : Nat → Int32) (tr : Nat → Int32) (se : Nat → Int32) (g : Nat) (r : Nat) (inf : Int32) (ct : Nat) (wa : Nat) (wb : Nat) (hg : g ≤ 10) (ha : wa < 2 * g) (hb2 : wb < 2 * g) : Met l yX0_steps wsX0_steps ({ frames := 2, cells := 0, slots := 0, locals := 44 }) (gcPR (dC, dI) [.ref (h 0), .int (nI wa), .int (nI wb)] (gcW h kc f1 f2 dr cl tr se (nI g) (nI r) inf (nI ct)) (gcT kc)) (va_Qi (fun (rv : Int32) (_u : Unit) => rv = gFst (gSp dr g wa wb) 20) (fun _ _ => True) (fun _ => False)) 0 0 (fun _ => False) := by
  refine Met.ofW (cc := cX0_steps) (maxL := 5) (ret := (some .int)) (by decide) rfl ?_
  intro p e s m args below meth c s₁ B hml hv
  obtain ⟨rfl, hP, hK⟩ := hv
  have hx := B.exec
  have hb := B.bytes
  have hr := B.returns
  have hts := atoms_spec (ws := wsX0_steps) B.pre
  have hown : s.vm.findClass RX0 = some m.cls := findClass_of_methodNamed B.named
  have hlocks := B.notSynchronized
  have hS : va_S (fun _ => False) s.heap s.heap [] := va_S.rf
  have hP : va_P (dC, dI) vwCl (gcW h kc f1 f2 dr cl tr se (nI g) (nI r) inf (nI ct)) s.heap := hP
  have hin0 : ∀ w ∈ wsX00, w ∈ wsX0_steps := by decide +kernel
  have hl := lv_entry [.ref (h 0), .int (nI wa), .int (nI wb)] (n := 5) (Nat.le_of_ble_eq_true rfl)
  rw [lg_entry_eq]
  generalize (lg_sl [.ref (h 0), .int (nI wa), .int (nI wb)] ++ List.replicate (5 - (lg_sl [.ref (h 0), .int (nI wa), .int (nI wb)]).length) Slot.unset).toArray = ls at hl ⊢
  have hl : lv_has ls 5 [(0, .ref (h 0)), (1, .int (nI wa)), (2, .int (nI wb))] := hl
  refine lv_aload_n hx hb dX0_steps_0 rfl (lv_at hl 0 rfl) ?_
  refine lv_iload_n hx hb dX0_steps_1 rfl (lv_at hl 1 rfl) ?_
  refine lv_iload_n hx hb dX0_steps_2 rfl (lv_at hl 2 rfl) ?_
  have hPc : va_P (dC, dI) vwCl (gcW h kc f1 f2 dr cl tr se (nI g) (nI r) inf (nI ct)) _ := hP.sub [0, 1, 2, 3, 4, 5, 6] rfl
  have hKc : va_K (dC, dI) vwCl (gcT kc) s := hK.sub [0, 1, 2, 3, 4, 5] rfl
  refine va_callv (va_runV (As := [.int (nI wa), .int (nI wb)]) (rest := []) ⟨hx, hb, hml, hown, hts⟩ (c_X0_requireWishes l dC dI h kc f1 f2 dr cl tr se g r inf ct wa wb (by first | assumption | omega) (by first | assumption | omega) (by first | assumption | omega)) (cwV 2 hts gX0_steps_X0_requireWishes rfl rfl rfl (by decide +kernel) ⟨Nat.le_of_ble_eq_true rfl, Nat.le_of_ble_eq_true rfl⟩) ⟨gcPR_blind, va_recv hK hP (ci := 0) (q0 := 0) rfl rfl, fun U hU hW => ⟨rfl, by rw [hU]; exact hPc, va_K.moved hW.alike hKc⟩⟩ rfl rfl hl.1 rfl (lv_room (Nat.le_of_ble_eq_true rfl)) dX0_steps_3 ⟨Nat.zero_le _, Nat.zero_le _⟩) hS (fun q _ h => h.elim) (fun q h => h.elim) (fun u t H locs ht hvm hw hB hz1 hk1 hS => ?_)
  have hP := gc_keep hP hk1
  clear hB hz1 hk1 ht hvm
  clear hPc hKc
  refine lv_iconst (v := 1) hx hb dX0_steps_6 (by decide) ?_
  refine lv_iload_n hx hb dX0_steps_7 rfl (lv_at hl 1 rfl) ?_
  refine lv_ishl hx hb dX0_steps_8 ?_
  refine lv_istore_n (lv' := [(3, .int ((1 : Int32) <<< (nI wa &&& 31))), (0, .ref (h 0)), (1, .int (nI wa)), (2, .int (nI wb))]) hx hb dX0_steps_9 rfl hl (by decide) rfl (fun ls hl => ?_)
  refine lv_iconst (v := 0) hx hb dX0_steps_10 (by decide) ?_
  refine lv_istore (lv' := [(4, .int 0), (3, .int ((1 : Int32) <<< (nI wa &&& 31))), (0, .ref (h 0)), (1, .int (nI wa)), (2, .int (nI wb))]) hx hb dX0_steps_11 hl (by decide) rfl (fun ls hl => ?_)
  refine gc_loop (20) (fun (i : Nat) (H : Heap) (locs : List Loc) (ls : Array Slot) => ∃ (x : Int32), x = gRe dr g wa i ∧ (∀ j : Nat, j < i → gSp dr g wa wb j = false) ∧ va_P (dC, dI) vwCl (gcW h kc f1 f2 dr cl tr se (nI g) (nI r) inf (nI ct)) H ∧ va_S (fun _ => False) s.heap H locs ∧ lv_has ls 5 [(4, .int (nI i)), (3, .int x), (0, .ref (h 0)), (1, .int (nI wa)), (2, .int (nI wb))]) 0 (Nat.zero_le _) ⟨((1 : Int32) <<< (nI wa &&& 31)), (by first | rfl | assumption | omega), (fun j hj => absurd hj (Nat.not_lt_zero j)), hP, hS, lv_sub hl [0, 1, 2, 3, 4] rfl⟩ ?_
  intro i H locs ls hi hI ihi
  obtain ⟨x, e_x, hno, hP, hS, hl⟩ := hI
  refine lv_iload hx hb dX0_steps_13 (lv_at hl 0 rfl) ?_
  refine lv_bipush (v := 20) hx hb dX0_steps_15 (by decide) ?_
  refine lv_icmp_ge (tgt := 43) hx hb dX0_steps_17 (by decide) (fun c_17 => ?_) (fun c_17 => ?_)
  · skip
    have hEi : i = 20 := gc_ge c_17 (by omega) (by omega)
    refine lv_iconst (v := -1) hx hb dX0_steps_43 (by decide) ?_
    have hpost : ((-1) : Int32) = gFst (gSp dr g wa wb) 20 := by subst hEi; exact (gFst_no hno).symm
    exact W.iret (v := (-1)) hx hb hr (fun t ht hW => ⟨⟨(-1), (), rfl, hpost, trivial⟩, hS.F ht⟩) hS.2.2 dX0_steps_44
  · skip
    have hLi : i < 20 := gc_lt c_17 (by omega) (by omega)
    refine lv_iload_n hx hb dX0_steps_20 rfl (lv_at hl 1 rfl) ?_
    refine lv_iload_n hx hb dX0_steps_21 rfl (lv_at hl 4 rfl) ?_
    refine va_calli (va_runS (As := [.int x, .int (nI wb)]) (rest := []) ⟨hx, hb, hml, hown, hts⟩ (c_X0_has l x (nI wb)) (va_cwS 2 hts gX0_steps_X0_has rfl rfl rfl (by decide +kernel) ⟨Nat.le_of_ble_eq_true rfl, Nat.le_of_ble_eq_true rfl⟩) ⟨fun a U g mk q => q, fun U hU hW => ⟨rfl, trivial⟩⟩ rfl rfl hl.1 rfl (lv_room (Nat.le_of_ble_eq_true rfl)) dX0_steps_22 ⟨Nat.zero_le _, Nat.zero_le _⟩) hS (fun q _ h => h.elim) (fun q h => h.elim) (fun r2 u t H locs ht hvm hw hB hz1 hk1 hS => ?_)
    have hP := gc_keep hP hk1
    have hw : r2 = gB (gHas x (nI wb)) := hw
    subst hw
    clear hw
    clear hB hz1 hk1 ht hvm
    refine lv_if_eq (tgt := 31) hx hb dX0_steps_25 (by decide) (fun c_25 => ?_) (fun c_25 => ?_)
    · skip
      have c_25 := gB_f c_25
      refine lv_aload_n hx hb dX0_steps_31 rfl (lv_at hl 2 rfl) ?_
      refine lv_iload_n hx hb dX0_steps_32 rfl (lv_at hl 1 rfl) ?_
      have hPc : va_P (dC, dI) vwCl (gcW h kc f1 f2 dr cl tr se (nI g) (nI r) inf (nI ct)) _ := hP.sub [0, 1, 2, 3, 4, 5, 6] rfl
      have hKc : va_K (dC, dI) vwCl (gcT kc) s := hK.sub [0, 1, 2, 3, 4, 5] rfl
      refine va_calli (va_runV (As := [.int x]) (rest := []) ⟨hx, hb, hml, hown, hts⟩ (c_X0_oneStepOn l dC dI h kc f1 f2 dr cl tr se g r inf ct x (by first | assumption | omega)) (cwV 1 hts gX0_steps_X0_oneStepOn rfl rfl rfl (by decide +kernel) ⟨Nat.le_of_ble_eq_true rfl, Nat.le_of_ble_eq_true rfl⟩) ⟨gcPR_blind, va_recv hK hP (ci := 0) (q0 := 0) rfl rfl, fun U hU hW => ⟨rfl, by rw [hU]; exact hPc, va_K.moved hW.alike hKc⟩⟩ rfl rfl hl.1 rfl (lv_room (Nat.le_of_ble_eq_true rfl)) dX0_steps_33 ⟨Nat.zero_le _, Nat.zero_le _⟩) hS (fun q _ h => h.elim) (fun q h => h.elim) (fun r3 u t H locs ht hvm hw hB hz1 hk1 hS => ?_)
      have hP := gc_keep hP hk1
      have hw : r3 = gOS dr x (2 * g) := hw
      subst hw
      clear hw
      clear hB hz1 hk1 ht hvm
      clear hPc hKc
      refine lv_istore_n (lv' := [(3, .int (gOS dr x (2 * g))), (4, .int (nI i)), (0, .ref (h 0)), (1, .int (nI wa)), (2, .int (nI wb))]) hx hb dX0_steps_36 rfl hl (by decide) rfl (fun ls hl => ?_)
      refine lv_iinc (v := nI (i + 1)) (lv' := [(4, .int (nI (i + 1))), (3, .int (gOS dr x (2 * g))), (0, .ref (h 0)), (1, .int (nI wa)), (2, .int (nI wb))]) hx hb dX0_steps_37 hl (k := 1) rfl (nI_1 i) (by decide) rfl (fun ls hl => ?_)
      refine lv_goto (tgt := 13) hx hb dX0_steps_40 (by decide) ?_
      exact ihi H _ ls (by omega) ⟨(gOS dr x (2 * g)), (by rw [e_x]; rfl), (lt_s hno (by unfold gSp; rw [← e_x]; exact c_25)), hP, hS, lv_sub hl [0, 1, 2, 3, 4] rfl⟩
    · skip
      have c_25 := gB_t c_25
      refine lv_iload hx hb dX0_steps_28 (lv_at hl 0 rfl) ?_
      have hpost : (nI i) = gFst (gSp dr g wa wb) 20 := (gFst_hit (by omega) (by unfold gSp; rw [← e_x]; exact c_25) hno hLi).symm
      exact W.iret (v := nI i) hx hb hr (fun t ht hW => ⟨⟨nI i, (), rfl, hpost, trivial⟩, hS.F ht⟩) hS.2.2 dX0_steps_30
set_option maxHeartbeats 4000000 in
set_option maxRecDepth 100000 in
theorem c_X0_guest (l : Launch) (dC : Nat → ClassId) (dI : Nat → Nat → Nat) (h : Nat → Nat) (kc : Nat → ClassId) (f1 : Nat → Int32) (f2 : Nat → Int32) (dr : Nat → Int32) (cl : Nat → Int32) (tr : Nat → Int32) (se : Nat → Int32) (g : Nat) (r : Nat) (inf : Int32) (ct : Nat) (x : Nat) (w : Nat) (hg : g ≤ 10) (hc : ct ≤ 1024) (hft : gFt cl g = decide (0 < ct)) (hx2 : x < g) (hw : w < 4) : Met l yX0_guest wsX0_guest ({ frames := 3, cells := 0, slots := 0, locals := 63 }) (gcPR (dC, dI) [.ref (h 0), .int (nI x), .int (nI w)] (gcW h kc f1 f2 dr cl tr se (nI g) (nI r) inf (nI ct)) (gcT kc)) (va_Qi (fun (rv : Int32) (_u : Unit) => rv = gGu cl g x w) (fun _ _ => True) (fun _ => False)) 0 0 (fun _ => False) := by
  refine Met.ofW (cc := cX0_guest) (maxL := 4) (ret := (some .int)) (by decide) rfl ?_
  intro p e s m args below meth c s₁ B hml hv
  obtain ⟨rfl, hP, hK⟩ := hv
  have hx := B.exec
  have hb := B.bytes
  have hr := B.returns
  have hts := atoms_spec (ws := wsX0_guest) B.pre
  have hown : s.vm.findClass RX0 = some m.cls := findClass_of_methodNamed B.named
  have hlocks := B.notSynchronized
  have hS : va_S (fun _ => False) s.heap s.heap [] := va_S.rf
  have hP : va_P (dC, dI) vwCl (gcW h kc f1 f2 dr cl tr se (nI g) (nI r) inf (nI ct)) s.heap := hP
  have hin0 : ∀ w ∈ wsX00, w ∈ wsX0_guest := by decide +kernel
  have hl := lv_entry [.ref (h 0), .int (nI x), .int (nI w)] (n := 4) (Nat.le_of_ble_eq_true rfl)
  rw [lg_entry_eq]
  generalize (lg_sl [.ref (h 0), .int (nI x), .int (nI w)] ++ List.replicate (4 - (lg_sl [.ref (h 0), .int (nI x), .int (nI w)]).length) Slot.unset).toArray = ls at hl ⊢
  have hl : lv_has ls 4 [(0, .ref (h 0)), (1, .int (nI x)), (2, .int (nI w))] := hl
  refine lv_aload_n hx hb dX0_guest_0 rfl (lv_at hl 0 rfl) ?_
  refine lv_iload_n hx hb dX0_guest_1 rfl (lv_at hl 1 rfl) ?_
  have hPc : va_P (dC, dI) vwCl (gcW h kc f1 f2 dr cl tr se (nI g) (nI r) inf (nI ct)) _ := hP.sub [0, 1, 2, 3, 4, 5, 6] rfl
  have hKc : va_K (dC, dI) vwCl (gcT kc) s := hK.sub [0, 1, 2, 3, 4, 5] rfl
  refine va_callv (va_runV (As := [.int (nI x)]) (rest := []) ⟨hx, hb, hml, hown, hts⟩ (c_X0_requireGuest l dC dI h kc f1 f2 dr cl tr se g r inf ct x (by first | assumption | omega) (by first | assumption | omega)) (cwV 1 hts gX0_guest_X0_requireGuest rfl rfl rfl (by decide +kernel) ⟨Nat.le_of_ble_eq_true rfl, Nat.le_of_ble_eq_true rfl⟩) ⟨gcPR_blind, va_recv hK hP (ci := 0) (q0 := 0) rfl rfl, fun U hU hW => ⟨rfl, by rw [hU]; exact hPc, va_K.moved hW.alike hKc⟩⟩ rfl rfl hl.1 rfl (lv_room (Nat.le_of_ble_eq_true rfl)) dX0_guest_2 ⟨Nat.zero_le _, Nat.zero_le _⟩) hS (fun q _ h => h.elim) (fun q h => h.elim) (fun u t H locs ht hvm hw hB hz1 hk1 hS => ?_)
  have hP := gc_keep hP hk1
  clear hB hz1 hk1 ht hvm
  clear hPc hKc
  refine lv_iload_n hx hb dX0_guest_5 rfl (lv_at hl 2 rfl) ?_
  refine lv_iconst (v := 4) hx hb dX0_guest_6 (by decide) ?_
  refine va_callv (va_runS (As := [.int (nI w), .int 4]) (rest := []) ⟨hx, hb, hml, hown, hts⟩ (c_X0_requireFact l w 4 (by first | assumption | omega) (by decide)) (va_cwS 2 hts gX0_guest_X0_requireFact rfl rfl rfl (by decide +kernel) ⟨Nat.le_of_ble_eq_true rfl, Nat.le_of_ble_eq_true rfl⟩) ⟨fun a U g mk q => q, fun U hU hW => ⟨rfl, trivial⟩⟩ rfl rfl hl.1 rfl (lv_room (Nat.le_of_ble_eq_true rfl)) dX0_guest_7 ⟨Nat.zero_le _, Nat.zero_le _⟩) hS (fun q _ h => h.elim) (fun q h => h.elim) (fun u t H locs ht hvm hw hB hz1 hk1 hS => ?_)
  have hP := gc_keep hP hk1
  clear hB hz1 hk1 ht hvm
  refine lv_iconst (v := 2) hx hb dX0_guest_10 (by decide) ?_
  refine lv_iload_n hx hb dX0_guest_11 rfl (lv_at hl 1 rfl) ?_
  refine lv_imul hx hb dX0_guest_12 ?_
  refine gc_topi (y := nI (2 * x)) (pk_mul 2 x) ?_
  refine lv_istore_n (lv' := [(3, .int (nI (2 * x))), (0, .ref (h 0)), (1, .int (nI x)), (2, .int (nI w))]) hx hb dX0_guest_13 rfl hl (by decide) rfl (fun ls hl => ?_)
  refine lv_iload_n hx hb dX0_guest_14 rfl (lv_at hl 3 rfl) ?_
  rcases (show w = 0 ∨ w = 1 ∨ w = 2 ∨ w = 3 by omega) with hcase | hcase | hcase | hcase
  · skip
    refine lv_tableIn (off := 25) (tgt := 40) hx hb dX0_guest_15 (by rw [hcase]; decide) (by rw [hcase]; decide) (by rw [hcase]; rfl) (by decide) ?_
    refine lv_aload_n hx hb dX0_guest_40 rfl (lv_at hl 1 rfl) ?_
    have hPc : va_P (dC, dI) vwCl (gcW h kc f1 f2 dr cl tr se (nI g) (nI r) inf (nI ct)) _ := hP.sub [0, 1, 2, 3, 4, 5, 6] rfl
    have hKc : va_K (dC, dI) vwCl (gcT kc) s := hK.sub [0, 1, 2, 3, 4, 5] rfl
    refine va_calli (va_runV (As := []) (rest := []) ⟨hx, hb, hml, hown, hts⟩ (c_X0_fits l dC dI h kc f1 f2 dr cl tr se g r inf ct (by first | assumption | omega) (by first | assumption | omega)) (cwV 0 hts gX0_guest_X0_fits rfl rfl rfl (by decide +kernel) ⟨Nat.le_of_ble_eq_true rfl, Nat.le_of_ble_eq_true rfl⟩) ⟨gcPR_blind, va_recv hK hP (ci := 0) (q0 := 0) rfl rfl, fun U hU hW => ⟨rfl, by rw [hU]; exact hPc, va_K.moved hW.alike hKc⟩⟩ rfl rfl hl.1 rfl (lv_room (Nat.le_of_ble_eq_true rfl)) dX0_guest_41 ⟨Nat.zero_le _, Nat.zero_le _⟩) hS (fun q _ h => h.elim) (fun q h => h.elim) (fun r3 u t H locs ht hvm hw hB hz1 hk1 hS => ?_)
    have hP := gc_keep hP hk1
    have hw : r3 = gB (gFt cl g) := hw
    subst hw
    clear hw
    clear hB hz1 hk1 ht hvm
    clear hPc hKc
    refine lv_if_eq (tgt := 65) hx hb dX0_guest_44 (by decide) (fun c_44 => ?_) (fun c_44 => ?_)
    · skip
      have c_44 := gB_f c_44
      refine lv_iconst (v := 0) hx hb dX0_guest_65 (by decide) ?_
      refine va_calli (va_runS (As := [.int 0]) (rest := []) ⟨hx, hb, hml, hown, hts⟩ (c_X0_oneIf l false) (va_cwS 1 hts gX0_guest_X0_oneIf rfl rfl rfl (by decide +kernel) ⟨Nat.le_of_ble_eq_true rfl, Nat.le_of_ble_eq_true rfl⟩) ⟨fun a U g mk q => q, fun U hU hW => ⟨rfl, trivial⟩⟩ rfl rfl hl.1 rfl (lv_room (Nat.le_of_ble_eq_true rfl)) dX0_guest_66 ⟨Nat.zero_le _, Nat.zero_le _⟩) hS (fun q _ h => h.elim) (fun q h => h.elim) (fun r4 u t H locs ht hvm hw hB hz1 hk1 hS => ?_)
      have hP := gc_keep hP hk1
      have hw : r4 = gB false := hw
      subst hw
      clear hw
      clear hB hz1 hk1 ht hvm
      have hpost : (gB false) = gGu cl g x w := by simp [gGu, hcase, c_44]
      exact W.iret (v := gB false) hx hb hr (fun t ht hW => ⟨⟨gB false, (), rfl, hpost, trivial⟩, hS.F ht⟩) hS.2.2 dX0_guest_69
    · skip
      have c_44 := gB_t c_44
      refine lv_aload_n hx hb dX0_guest_47 rfl (lv_at hl 1 rfl) ?_
      refine va_get (D := (dC, dI)) (ci := 0) (v := .ref (h 4)) (C := RX0) (T := TX0) (N := 10) hx hb hts hin0 hown hK hP 0 rfl rfl 3 (by decide) (hts (.fieldLink RX0 19 "GuestChairs" "closed" "[I") (by decide +kernel)) (fun _ h9 => h9) rfl dX0_guest_48 ?_
      refine lv_iload_n hx hb dX0_guest_51 rfl (lv_at hl 0 rfl) ?_
      refine va_calli (va_runS (As := [.int (nI (2 * x))]) (rest := [.ref (h 4)]) ⟨hx, hb, hml, hown, hts⟩ (c_X0_against l (nI (2 * x))) (va_cwS 1 hts gX0_guest_X0_against rfl rfl rfl (by decide +kernel) ⟨Nat.le_of_ble_eq_true rfl, Nat.le_of_ble_eq_true rfl⟩) ⟨fun a U g mk q => q, fun U hU hW => ⟨rfl, trivial⟩⟩ rfl rfl hl.1 rfl (lv_room (Nat.le_of_ble_eq_true rfl)) dX0_guest_52 ⟨Nat.zero_le _, Nat.zero_le _⟩) hS (fun q _ h => h.elim) (fun q h => h.elim) (fun r5 u t H locs ht hvm hw hB hz1 hk1 hS => ?_)
      have hP := gc_keep hP hk1
      have hw : r5 = ((nI (2 * x)) ^^^ 1) := hw
      subst hw
      clear hw
      clear hB hz1 hk1 ht hvm
      have hPc : va_P (dC, dI) vwCl ([((h 4), .inl ((kc 4), 20, .inl cl))]) _ := hP.sub [4] rfl
      have hKc : va_K (dC, dI) vwCl ([((kc 4), .int)]) s := hK.sub [3] rfl
      refine va_calli (va_runS (As := [.ref (h 4), .int ((nI (2 * x)) ^^^ 1)]) (rest := []) ⟨hx, hb, hml, hown, hts⟩ (c_X0_isVain l dC dI (h 4) (kc 4) 20 cl ((nI (2 * x)) ^^^ 1) (by decide)) (va_cwS 2 hts gX0_guest_X0_isVain rfl rfl rfl (by decide +kernel) ⟨Nat.le_of_ble_eq_true rfl, Nat.le_of_ble_eq_true rfl⟩) ⟨gcPR_blind, fun U hU hW => ⟨rfl, by rw [hU]; exact hPc, va_K.moved hW.alike hKc⟩⟩ rfl rfl hl.1 rfl (lv_room (Nat.le_of_ble_eq_true rfl)) dX0_guest_55 ⟨Nat.zero_le _, Nat.zero_le _⟩) hS (fun q _ h => h.elim) (fun q h => h.elim) (fun r6 u t H locs ht hvm hw hB hz1 hk1 hS => ?_)
      have hP := gc_keep hP hk1
      have hw : r6 = gB (gVain 20 cl ((nI (2 * x)) ^^^ 1)) := hw
      subst hw
      clear hw
      clear hB hz1 hk1 ht hvm
      clear hPc hKc
      refine lv_if_eq (tgt := 65) hx hb dX0_guest_58 (by decide) (fun c_58 => ?_) (fun c_58 => ?_)
      · skip
        have c_58 := gB_f c_58
        refine lv_iconst (v := 0) hx hb dX0_guest_65 (by decide) ?_
        refine va_calli (va_runS (As := [.int 0]) (rest := []) ⟨hx, hb, hml, hown, hts⟩ (c_X0_oneIf l false) (va_cwS 1 hts gX0_guest_X0_oneIf rfl rfl rfl (by decide +kernel) ⟨Nat.le_of_ble_eq_true rfl, Nat.le_of_ble_eq_true rfl⟩) ⟨fun a U g mk q => q, fun U hU hW => ⟨rfl, trivial⟩⟩ rfl rfl hl.1 rfl (lv_room (Nat.le_of_ble_eq_true rfl)) dX0_guest_66 ⟨Nat.zero_le _, Nat.zero_le _⟩) hS (fun q _ h => h.elim) (fun q h => h.elim) (fun r7 u t H locs ht hvm hw hB hz1 hk1 hS => ?_)
        have hP := gc_keep hP hk1
        have hw : r7 = gB false := hw
        subst hw
        clear hw
        clear hB hz1 hk1 ht hvm
        have hpost : (gB false) = gGu cl g x w := by simp [gGu, hcase, c_44, c_58]
        exact W.iret (v := gB false) hx hb hr (fun t ht hW => ⟨⟨gB false, (), rfl, hpost, trivial⟩, hS.F ht⟩) hS.2.2 dX0_guest_69
      · skip
        have c_58 := gB_t c_58
        refine lv_iconst (v := 1) hx hb dX0_guest_61 (by decide) ?_
        refine lv_goto (tgt := 66) hx hb dX0_guest_62 (by decide) ?_
        refine va_calli (va_runS (As := [.int 1]) (rest := []) ⟨hx, hb, hml, hown, hts⟩ (c_X0_oneIf l true) (va_cwS 1 hts gX0_guest_X0_oneIf rfl rfl rfl (by decide +kernel) ⟨Nat.le_of_ble_eq_true rfl, Nat.le_of_ble_eq_true rfl⟩) ⟨fun a U g mk q => q, fun U hU hW => ⟨rfl, trivial⟩⟩ rfl rfl hl.1 rfl (lv_room (Nat.le_of_ble_eq_true rfl)) dX0_guest_66 ⟨Nat.zero_le _, Nat.zero_le _⟩) hS (fun q _ h => h.elim) (fun q h => h.elim) (fun r8 u t H locs ht hvm hw hB hz1 hk1 hS => ?_)
        have hP := gc_keep hP hk1
        have hw : r8 = gB true := hw
        subst hw
        clear hw
        clear hB hz1 hk1 ht hvm
        have hpost : (gB true) = gGu cl g x w := by simp [gGu, hcase, c_44, c_58]
        exact W.iret (v := gB true) hx hb hr (fun t ht hW => ⟨⟨gB true, (), rfl, hpost, trivial⟩, hS.F ht⟩) hS.2.2 dX0_guest_69
  · skip
    refine lv_tableIn (off := 55) (tgt := 70) hx hb dX0_guest_15 (by rw [hcase]; decide) (by rw [hcase]; decide) (by rw [hcase]; rfl) (by decide) ?_
    refine lv_aload_n hx hb dX0_guest_70 rfl (lv_at hl 1 rfl) ?_
    have hPc : va_P (dC, dI) vwCl (gcW h kc f1 f2 dr cl tr se (nI g) (nI r) inf (nI ct)) _ := hP.sub [0, 1, 2, 3, 4, 5, 6] rfl
    have hKc : va_K (dC, dI) vwCl (gcT kc) s := hK.sub [0, 1, 2, 3, 4, 5] rfl
    refine va_calli (va_runV (As := []) (rest := []) ⟨hx, hb, hml, hown, hts⟩ (c_X0_fits l dC dI h kc f1 f2 dr cl tr se g r inf ct (by first | assumption | omega) (by first | assumption | omega)) (cwV 0 hts gX0_guest_X0_fits rfl rfl rfl (by decide +kernel) ⟨Nat.le_of_ble_eq_true rfl, Nat.le_of_ble_eq_true rfl⟩) ⟨gcPR_blind, va_recv hK hP (ci := 0) (q0 := 0) rfl rfl, fun U hU hW => ⟨rfl, by rw [hU]; exact hPc, va_K.moved hW.alike hKc⟩⟩ rfl rfl hl.1 rfl (lv_room (Nat.le_of_ble_eq_true rfl)) dX0_guest_71 ⟨Nat.zero_le _, Nat.zero_le _⟩) hS (fun q _ h => h.elim) (fun q h => h.elim) (fun r9 u t H locs ht hvm hw hB hz1 hk1 hS => ?_)
    have hP := gc_keep hP hk1
    have hw : r9 = gB (gFt cl g) := hw
    subst hw
    clear hw
    clear hB hz1 hk1 ht hvm
    clear hPc hKc
    refine lv_if_eq (tgt := 92) hx hb dX0_guest_74 (by decide) (fun c_74 => ?_) (fun c_74 => ?_)
    · skip
      have c_74 := gB_f c_74
      refine lv_iconst (v := 0) hx hb dX0_guest_92 (by decide) ?_
      refine va_calli (va_runS (As := [.int 0]) (rest := []) ⟨hx, hb, hml, hown, hts⟩ (c_X0_oneIf l false) (va_cwS 1 hts gX0_guest_X0_oneIf rfl rfl rfl (by decide +kernel) ⟨Nat.le_of_ble_eq_true rfl, Nat.le_of_ble_eq_true rfl⟩) ⟨fun a U g mk q => q, fun U hU hW => ⟨rfl, trivial⟩⟩ rfl rfl hl.1 rfl (lv_room (Nat.le_of_ble_eq_true rfl)) dX0_guest_93 ⟨Nat.zero_le _, Nat.zero_le _⟩) hS (fun q _ h => h.elim) (fun q h => h.elim) (fun r10 u t H locs ht hvm hw hB hz1 hk1 hS => ?_)
      have hP := gc_keep hP hk1
      have hw : r10 = gB false := hw
      subst hw
      clear hw
      clear hB hz1 hk1 ht hvm
      have hpost : (gB false) = gGu cl g x w := by simp [gGu, hcase, c_74]
      exact W.iret (v := gB false) hx hb hr (fun t ht hW => ⟨⟨gB false, (), rfl, hpost, trivial⟩, hS.F ht⟩) hS.2.2 dX0_guest_96
    · skip
      have c_74 := gB_t c_74
      refine lv_aload_n hx hb dX0_guest_77 rfl (lv_at hl 1 rfl) ?_
      refine va_get (D := (dC, dI)) (ci := 0) (v := .ref (h 4)) (C := RX0) (T := TX0) (N := 10) hx hb hts hin0 hown hK hP 0 rfl rfl 3 (by decide) (hts (.fieldLink RX0 19 "GuestChairs" "closed" "[I") (by decide +kernel)) (fun _ h9 => h9) rfl dX0_guest_78 ?_
      refine lv_iload_n hx hb dX0_guest_81 rfl (lv_at hl 0 rfl) ?_
      have hPc : va_P (dC, dI) vwCl ([((h 4), .inl ((kc 4), 20, .inl cl))]) _ := hP.sub [4] rfl
      have hKc : va_K (dC, dI) vwCl ([((kc 4), .int)]) s := hK.sub [3] rfl
      refine va_calli (va_runS (As := [.ref (h 4), .int (nI (2 * x))]) (rest := []) ⟨hx, hb, hml, hown, hts⟩ (c_X0_isVain l dC dI (h 4) (kc 4) 20 cl (nI (2 * x)) (by decide)) (va_cwS 2 hts gX0_guest_X0_isVain rfl rfl rfl (by decide +kernel) ⟨Nat.le_of_ble_eq_true rfl, Nat.le_of_ble_eq_true rfl⟩) ⟨gcPR_blind, fun U hU hW => ⟨rfl, by rw [hU]; exact hPc, va_K.moved hW.alike hKc⟩⟩ rfl rfl hl.1 rfl (lv_room (Nat.le_of_ble_eq_true rfl)) dX0_guest_82 ⟨Nat.zero_le _, Nat.zero_le _⟩) hS (fun q _ h => h.elim) (fun q h => h.elim) (fun r11 u t H locs ht hvm hw hB hz1 hk1 hS => ?_)
      have hP := gc_keep hP hk1
      have hw : r11 = gB (gVain 20 cl (nI (2 * x))) := hw
      subst hw
      clear hw
      clear hB hz1 hk1 ht hvm
      clear hPc hKc
      refine lv_if_eq (tgt := 92) hx hb dX0_guest_85 (by decide) (fun c_85 => ?_) (fun c_85 => ?_)
      · skip
        have c_85 := gB_f c_85
        refine lv_iconst (v := 0) hx hb dX0_guest_92 (by decide) ?_
        refine va_calli (va_runS (As := [.int 0]) (rest := []) ⟨hx, hb, hml, hown, hts⟩ (c_X0_oneIf l false) (va_cwS 1 hts gX0_guest_X0_oneIf rfl rfl rfl (by decide +kernel) ⟨Nat.le_of_ble_eq_true rfl, Nat.le_of_ble_eq_true rfl⟩) ⟨fun a U g mk q => q, fun U hU hW => ⟨rfl, trivial⟩⟩ rfl rfl hl.1 rfl (lv_room (Nat.le_of_ble_eq_true rfl)) dX0_guest_93 ⟨Nat.zero_le _, Nat.zero_le _⟩) hS (fun q _ h => h.elim) (fun q h => h.elim) (fun r12 u t H locs ht hvm hw hB hz1 hk1 hS => ?_)
        have hP := gc_keep hP hk1
        have hw : r12 = gB false := hw
        subst hw
        clear hw
        clear hB hz1 hk1 ht hvm
        have hpost : (gB false) = gGu cl g x w := by simp [gGu, hcase, c_74, c_85]
        exact W.iret (v := gB false) hx hb hr (fun t ht hW => ⟨⟨gB false, (), rfl, hpost, trivial⟩, hS.F ht⟩) hS.2.2 dX0_guest_96
      · skip
        have c_85 := gB_t c_85
        refine lv_iconst (v := 1) hx hb dX0_guest_88 (by decide) ?_
        refine lv_goto (tgt := 93) hx hb dX0_guest_89 (by decide) ?_
        refine va_calli (va_runS (As := [.int 1]) (rest := []) ⟨hx, hb, hml, hown, hts⟩ (c_X0_oneIf l true) (va_cwS 1 hts gX0_guest_X0_oneIf rfl rfl rfl (by decide +kernel) ⟨Nat.le_of_ble_eq_true rfl, Nat.le_of_ble_eq_true rfl⟩) ⟨fun a U g mk q => q, fun U hU hW => ⟨rfl, trivial⟩⟩ rfl rfl hl.1 rfl (lv_room (Nat.le_of_ble_eq_true rfl)) dX0_guest_93 ⟨Nat.zero_le _, Nat.zero_le _⟩) hS (fun q _ h => h.elim) (fun q h => h.elim) (fun r13 u t H locs ht hvm hw hB hz1 hk1 hS => ?_)
        have hP := gc_keep hP hk1
        have hw : r13 = gB true := hw
        subst hw
        clear hw
        clear hB hz1 hk1 ht hvm
        have hpost : (gB true) = gGu cl g x w := by simp [gGu, hcase, c_74, c_85]
        exact W.iret (v := gB true) hx hb hr (fun t ht hW => ⟨⟨gB true, (), rfl, hpost, trivial⟩, hS.F ht⟩) hS.2.2 dX0_guest_96
  · skip
    refine lv_tableIn (off := 82) (tgt := 97) hx hb dX0_guest_15 (by rw [hcase]; decide) (by rw [hcase]; decide) (by rw [hcase]; rfl) (by decide) ?_
    refine lv_aload_n hx hb dX0_guest_97 rfl (lv_at hl 1 rfl) ?_
    refine va_get (D := (dC, dI)) (ci := 0) (v := .ref (h 4)) (C := RX0) (T := TX0) (N := 10) hx hb hts hin0 hown hK hP 0 rfl rfl 3 (by decide) (hts (.fieldLink RX0 19 "GuestChairs" "closed" "[I") (by decide +kernel)) (fun _ h9 => h9) rfl dX0_guest_98 ?_
    refine lv_iload_n hx hb dX0_guest_101 rfl (lv_at hl 2 rfl) ?_
    have hPc : va_P (dC, dI) vwCl ([((h 4), .inl ((kc 4), 20, .inl cl))]) _ := hP.sub [4] rfl
    have hKc : va_K (dC, dI) vwCl ([((kc 4), .int)]) s := hK.sub [3] rfl
    refine va_calli (va_runS (As := [.ref (h 4), .int (nI x)]) (rest := []) ⟨hx, hb, hml, hown, hts⟩ (c_X0_isTorn l dC dI (h 4) (kc 4) 20 cl (nI x) (by decide)) (va_cwS 2 hts gX0_guest_X0_isTorn rfl rfl rfl (by decide +kernel) ⟨Nat.le_of_ble_eq_true rfl, Nat.le_of_ble_eq_true rfl⟩) ⟨gcPR_blind, fun U hU hW => ⟨rfl, by rw [hU]; exact hPc, va_K.moved hW.alike hKc⟩⟩ rfl rfl hl.1 rfl (lv_room (Nat.le_of_ble_eq_true rfl)) dX0_guest_102 ⟨Nat.zero_le _, Nat.zero_le _⟩) hS (fun q _ h => h.elim) (fun q h => h.elim) (fun r14 u t H locs ht hvm hw hB hz1 hk1 hS => ?_)
    have hP := gc_keep hP hk1
    have hw : r14 = gB (gTorn 20 cl (nI x)) := hw
    subst hw
    clear hw
    clear hB hz1 hk1 ht hvm
    clear hPc hKc
    refine va_calli (va_runS (As := [.int (gB (gTorn 20 cl (nI x)))]) (rest := []) ⟨hx, hb, hml, hown, hts⟩ (c_X0_oneIf l (gTorn 20 cl (nI x))) (va_cwS 1 hts gX0_guest_X0_oneIf rfl rfl rfl (by decide +kernel) ⟨Nat.le_of_ble_eq_true rfl, Nat.le_of_ble_eq_true rfl⟩) ⟨fun a U g mk q => q, fun U hU hW => ⟨rfl, trivial⟩⟩ rfl rfl hl.1 rfl (lv_room (Nat.le_of_ble_eq_true rfl)) dX0_guest_105 ⟨Nat.zero_le _, Nat.zero_le _⟩) hS (fun q _ h => h.elim) (fun q h => h.elim) (fun r15 u t H locs ht hvm hw hB hz1 hk1 hS => ?_)
    have hP := gc_keep hP hk1
    have hw : r15 = gB (gTorn 20 cl (nI x)) := hw
    subst hw
    clear hw
    clear hB hz1 hk1 ht hvm
    have hpost : (gB (gTorn 20 cl (nI x))) = gGu cl g x w := by simp [gGu, hcase]
    exact W.iret (v := gB (gTorn 20 cl (nI x))) hx hb hr (fun t ht hW => ⟨⟨gB (gTorn 20 cl (nI x)), (), rfl, hpost, trivial⟩, hS.F ht⟩) hS.2.2 dX0_guest_108
  · skip
    refine lv_tableOut (tgt := 109) hx hb dX0_guest_15 (by rw [hcase]; decide) (by decide) ?_
    refine lv_aload_n hx hb dX0_guest_109 rfl (lv_at hl 1 rfl) ?_
    refine lv_iload_n hx hb dX0_guest_110 rfl (lv_at hl 0 rfl) ?_
    have hPc : va_P (dC, dI) vwCl (gcW h kc f1 f2 dr cl tr se (nI g) (nI r) inf (nI ct)) _ := hP.sub [0, 1, 2, 3, 4, 5, 6] rfl
    have hKc : va_K (dC, dI) vwCl (gcT kc) s := hK.sub [0, 1, 2, 3, 4, 5] rfl
    refine va_calli (va_runV (As := [.int (nI (2 * x))]) (rest := []) ⟨hx, hb, hml, hown, hts⟩ (c_X0_guestsBoundTo l dC dI h kc f1 f2 dr cl tr se g r inf ct (nI (2 * x)) (by first | assumption | omega)) (cwV 1 hts gX0_guest_X0_guestsBoundTo rfl rfl rfl (by decide +kernel) ⟨Nat.le_of_ble_eq_true rfl, Nat.le_of_ble_eq_true rfl⟩) ⟨gcPR_blind, va_recv hK hP (ci := 0) (q0 := 0) rfl rfl, fun U hU hW => ⟨rfl, by rw [hU]; exact hPc, va_K.moved hW.alike hKc⟩⟩ rfl rfl hl.1 rfl (lv_room (Nat.le_of_ble_eq_true rfl)) dX0_guest_111 ⟨Nat.zero_le _, Nat.zero_le _⟩) hS (fun q _ h => h.elim) (fun q h => h.elim) (fun r16 u t H locs ht hvm hw hB hz1 hk1 hS => ?_)
    have hP := gc_keep hP hk1
    have hw : r16 = gGB cl (nI (2 * x)) (2 * g) := hw
    subst hw
    clear hw
    clear hB hz1 hk1 ht hvm
    clear hPc hKc
    refine va_calli (va_runS (As := [.int (gGB cl (nI (2 * x)) (2 * g))]) (rest := []) ⟨hx, hb, hml, hown, hts⟩ (c_J6_bitCount_0f7a4 l (gGB cl (nI (2 * x)) (2 * g))) (va_cwS 1 hts gX0_guest_J6_bitCount_0f7a4 rfl rfl rfl (by decide +kernel) ⟨Nat.le_of_ble_eq_true rfl, Nat.le_of_ble_eq_true rfl⟩) ⟨fun a U g mk q => q, fun U hU hW => ⟨rfl, trivial⟩⟩ rfl rfl hl.1 rfl (lv_room (Nat.le_of_ble_eq_true rfl)) dX0_guest_114 ⟨Nat.zero_le _, Nat.zero_le _⟩) hS (fun q _ h => h.elim) (fun q h => h.elim) (fun r17 u t H locs ht hvm hw hB hz1 hk1 hS => ?_)
    have hP := gc_keep hP hk1
    have hw : r17 = gBC (gGB cl (nI (2 * x)) (2 * g)) := hw
    subst hw
    clear hw
    clear hB hz1 hk1 ht hvm
    have hpost : (gBC (gGB cl (nI (2 * x)) (2 * g))) = gGu cl g x w := by simp [gGu, hcase]
    exact W.iret (v := gBC (gGB cl (nI (2 * x)) (2 * g))) hx hb hr (fun t ht hW => ⟨⟨gBC (gGB cl (nI (2 * x)) (2 * g)), (), rfl, hpost, trivial⟩, hS.F ht⟩) hS.2.2 dX0_guest_117
set_option maxHeartbeats 4000000 in
set_option maxRecDepth 100000 in
theorem c_X0_count (l : Launch) (dC : Nat → ClassId) (dI : Nat → Nat → Nat) (h : Nat → Nat) (kc : Nat → ClassId) (f1 : Nat → Int32) (f2 : Nat → Int32) (dr : Nat → Int32) (cl : Nat → Int32) (tr : Nat → Int32) (se : Nat → Int32) (g : Nat) (r : Nat) (inf : Int32) (ct : Nat) (w : Nat) (hg : g ≤ 10) (hw : w < 6) : Met l yX0_count wsX0_count ({ frames := 4, cells := 0, slots := 0, locals := 86 }) (gcPR (dC, dI) [.ref (h 0), .int (nI w)] (gcW h kc f1 f2 dr cl tr se (nI g) (nI r) inf (nI ct)) (gcT kc)) (va_Qi (fun (rv : Int32) (_u : Unit) => rv = gCo cl g r inf w) (fun _ _ => True) (fun _ => False)) 0 0 (fun _ => False) := by
  refine Met.ofW (cc := cX0_count) (maxL := 2) (ret := (some .int)) (by decide) rfl ?_
  intro p e s m args below meth c s₁ B hml hv
  obtain ⟨rfl, hP, hK⟩ := hv
  have hx := B.exec
  have hb := B.bytes
  have hr := B.returns
  have hts := atoms_spec (ws := wsX0_count) B.pre
  have hown : s.vm.findClass RX0 = some m.cls := findClass_of_methodNamed B.named
  have hlocks := B.notSynchronized
  have hS : va_S (fun _ => False) s.heap s.heap [] := va_S.rf
  have hP : va_P (dC, dI) vwCl (gcW h kc f1 f2 dr cl tr se (nI g) (nI r) inf (nI ct)) s.heap := hP
  have hin0 : ∀ w ∈ wsX00, w ∈ wsX0_count := by decide +kernel
  have hl := lv_entry [.ref (h 0), .int (nI w)] (n := 2) (Nat.le_of_ble_eq_true rfl)
  rw [lg_entry_eq]
  generalize (lg_sl [.ref (h 0), .int (nI w)] ++ List.replicate (2 - (lg_sl [.ref (h 0), .int (nI w)]).length) Slot.unset).toArray = ls at hl ⊢
  have hl : lv_has ls 2 [(0, .ref (h 0)), (1, .int (nI w))] := hl
  refine lv_iload_n hx hb dX0_count_0 rfl (lv_at hl 1 rfl) ?_
  refine lv_bipush (v := 6) hx hb dX0_count_1 (by decide) ?_
  refine va_callv (va_runS (As := [.int (nI w), .int 6]) (rest := []) ⟨hx, hb, hml, hown, hts⟩ (c_X0_requireFact l w 6 (by first | assumption | omega) (by decide)) (va_cwS 2 hts gX0_count_X0_requireFact rfl rfl rfl (by decide +kernel) ⟨Nat.le_of_ble_eq_true rfl, Nat.le_of_ble_eq_true rfl⟩) ⟨fun a U g mk q => q, fun U hU hW => ⟨rfl, trivial⟩⟩ rfl rfl hl.1 rfl (lv_room (Nat.le_of_ble_eq_true rfl)) dX0_count_3 ⟨Nat.zero_le _, Nat.zero_le _⟩) hS (fun q _ h => h.elim) (fun q h => h.elim) (fun u t H locs ht hvm hw hB hz1 hk1 hS => ?_)
  have hP := gc_keep hP hk1
  clear hB hz1 hk1 ht hvm
  refine lv_iload_n hx hb dX0_count_6 rfl (lv_at hl 1 rfl) ?_
  rcases (show w = 0 ∨ w = 1 ∨ w = 2 ∨ w = 3 ∨ w = 4 ∨ w = 5 by omega) with hcase | hcase | hcase | hcase | hcase | hcase
  · skip
    refine lv_tableIn (off := 33) (tgt := 40) hx hb dX0_count_7 (by rw [hcase]; decide) (by rw [hcase]; decide) (by rw [hcase]; rfl) (by decide) ?_
    refine lv_aload_n hx hb dX0_count_40 rfl (lv_at hl 0 rfl) ?_
    refine va_get (D := (dC, dI)) (ci := 0) (v := .int (nI g)) (C := RX0) (T := TX0) (N := 10) hx hb hts hin0 hown hK hP 0 rfl rfl 6 (by decide) (hts (.fieldLink RX0 31 "GuestChairs" "guestCount" "I") (by decide +kernel)) (fun _ h9 => h9) rfl dX0_count_41 ?_
    have hpost : (nI g) = gCo cl g r inf w := by simp [gCo, hcase]
    exact W.iret (v := nI g) hx hb hr (fun t ht hW => ⟨⟨nI g, (), rfl, hpost, trivial⟩, hS.F ht⟩) hS.2.2 dX0_count_44
  · skip
    refine lv_tableIn (off := 38) (tgt := 45) hx hb dX0_count_7 (by rw [hcase]; decide) (by rw [hcase]; decide) (by rw [hcase]; rfl) (by decide) ?_
    refine lv_aload_n hx hb dX0_count_45 rfl (lv_at hl 0 rfl) ?_
    refine va_get (D := (dC, dI)) (ci := 0) (v := .int (nI r)) (C := RX0) (T := TX0) (N := 10) hx hb hts hin0 hown hK hP 0 rfl rfl 7 (by decide) (hts (.fieldLink RX0 51 "GuestChairs" "ruleCount" "I") (by decide +kernel)) (fun _ h9 => h9) rfl dX0_count_46 ?_
    have hpost : (nI r) = gCo cl g r inf w := by simp [gCo, hcase]
    exact W.iret (v := nI r) hx hb hr (fun t ht hW => ⟨⟨nI r, (), rfl, hpost, trivial⟩, hS.F ht⟩) hS.2.2 dX0_count_49
  · skip
    refine lv_tableIn (off := 43) (tgt := 50) hx hb dX0_count_7 (by rw [hcase]; decide) (by rw [hcase]; decide) (by rw [hcase]; rfl) (by decide) ?_
    refine lv_aload_n hx hb dX0_count_50 rfl (lv_at hl 0 rfl) ?_
    refine va_get (D := (dC, dI)) (ci := 0) (v := .int inf) (C := RX0) (T := TX0) (N := 10) hx hb hts hin0 hown hK hP 0 rfl rfl 8 (by decide) (hts (.fieldLink RX0 60 "GuestChairs" "inForce" "I") (by decide +kernel)) (fun _ h9 => h9) rfl dX0_count_51 ?_
    refine va_calli (va_runS (As := [.int inf]) (rest := []) ⟨hx, hb, hml, hown, hts⟩ (c_J6_bitCount_0f7a4 l inf) (va_cwS 1 hts gX0_count_J6_bitCount_0f7a4 rfl rfl rfl (by decide +kernel) ⟨Nat.le_of_ble_eq_true rfl, Nat.le_of_ble_eq_true rfl⟩) ⟨fun a U g mk q => q, fun U hU hW => ⟨rfl, trivial⟩⟩ rfl rfl hl.1 rfl (lv_room (Nat.le_of_ble_eq_true rfl)) dX0_count_54 ⟨Nat.zero_le _, Nat.zero_le _⟩) hS (fun q _ h => h.elim) (fun q h => h.elim) (fun r2 u t H locs ht hvm hw hB hz1 hk1 hS => ?_)
    have hP := gc_keep hP hk1
    have hw : r2 = gBC inf := hw
    subst hw
    clear hw
    clear hB hz1 hk1 ht hvm
    have hpost : (gBC inf) = gCo cl g r inf w := by simp [gCo, hcase]
    exact W.iret (v := gBC inf) hx hb hr (fun t ht hW => ⟨⟨gBC inf, (), rfl, hpost, trivial⟩, hS.F ht⟩) hS.2.2 dX0_count_57
  · skip
    refine lv_tableIn (off := 51) (tgt := 58) hx hb dX0_count_7 (by rw [hcase]; decide) (by rw [hcase]; decide) (by rw [hcase]; rfl) (by decide) ?_
    refine lv_aload_n hx hb dX0_count_58 rfl (lv_at hl 0 rfl) ?_
    refine lv_aload_n hx hb dX0_count_59 rfl (lv_at hl 0 rfl) ?_
    refine va_get (D := (dC, dI)) (ci := 0) (v := .ref (h 4)) (C := RX0) (T := TX0) (N := 10) hx hb hts hin0 hown hK hP 0 rfl rfl 3 (by decide) (hts (.fieldLink RX0 19 "GuestChairs" "closed" "[I") (by decide +kernel)) (fun _ h9 => h9) rfl dX0_count_60 ?_
    have hPc : va_P (dC, dI) vwCl (gcW h kc f1 f2 dr cl tr se (nI g) (nI r) inf (nI ct)) _ := hP.sub [0, 1, 2, 3, 4, 5, 6] rfl
    have hKc : va_K (dC, dI) vwCl (gcT kc) s := hK.sub [0, 1, 2, 3, 4, 5] rfl
    refine va_calli (va_runV (As := [.ref (h 4)]) (rest := []) ⟨hx, hb, hml, hown, hts⟩ (c_X0_countTorn_cl l dC dI h kc f1 f2 dr cl tr se g r inf ct (by first | assumption | omega)) (cwV 1 hts gX0_count_X0_countTorn rfl rfl rfl (by decide +kernel) ⟨Nat.le_of_ble_eq_true rfl, Nat.le_of_ble_eq_true rfl⟩) ⟨gcPR_blind, va_recv hK hP (ci := 0) (q0 := 0) rfl rfl, fun U hU hW => ⟨rfl, by rw [hU]; exact hPc, va_K.moved hW.alike hKc⟩⟩ rfl rfl hl.1 rfl (lv_room (Nat.le_of_ble_eq_true rfl)) dX0_count_63 ⟨Nat.zero_le _, Nat.zero_le _⟩) hS (fun q _ h => h.elim) (fun q h => h.elim) (fun r3 u t H locs ht hvm hw hB hz1 hk1 hS => ?_)
    have hP := gc_keep hP hk1
    have hw : r3 = gCT cl g := hw
    subst hw
    clear hw
    clear hB hz1 hk1 ht hvm
    clear hPc hKc
    have hpost : (gCT cl g) = gCo cl g r inf w := by simp [gCo, hcase]
    exact W.iret (v := gCT cl g) hx hb hr (fun t ht hW => ⟨⟨gCT cl g, (), rfl, hpost, trivial⟩, hS.F ht⟩) hS.2.2 dX0_count_66
  · skip
    refine lv_tableIn (off := 60) (tgt := 67) hx hb dX0_count_7 (by rw [hcase]; decide) (by rw [hcase]; decide) (by rw [hcase]; rfl) (by decide) ?_
    refine lv_aload_n hx hb dX0_count_67 rfl (lv_at hl 0 rfl) ?_
    have hPc : va_P (dC, dI) vwCl (gcW h kc f1 f2 dr cl tr se (nI g) (nI r) inf (nI ct)) _ := hP.sub [0, 1, 2, 3, 4, 5, 6] rfl
    have hKc : va_K (dC, dI) vwCl (gcT kc) s := hK.sub [0, 1, 2, 3, 4, 5] rfl
    refine va_calli (va_runV (As := []) (rest := []) ⟨hx, hb, hml, hown, hts⟩ (c_X0_countVain l dC dI h kc f1 f2 dr cl tr se g r inf ct (by first | assumption | omega)) (cwV 0 hts gX0_count_X0_countVain rfl rfl rfl (by decide +kernel) ⟨Nat.le_of_ble_eq_true rfl, Nat.le_of_ble_eq_true rfl⟩) ⟨gcPR_blind, va_recv hK hP (ci := 0) (q0 := 0) rfl rfl, fun U hU hW => ⟨rfl, by rw [hU]; exact hPc, va_K.moved hW.alike hKc⟩⟩ rfl rfl hl.1 rfl (lv_room (Nat.le_of_ble_eq_true rfl)) dX0_count_68 ⟨Nat.zero_le _, Nat.zero_le _⟩) hS (fun q _ h => h.elim) (fun q h => h.elim) (fun r4 u t H locs ht hvm hw hB hz1 hk1 hS => ?_)
    have hP := gc_keep hP hk1
    have hw : r4 = gCV cl (2 * g) := hw
    subst hw
    clear hw
    clear hB hz1 hk1 ht hvm
    clear hPc hKc
    have hpost : (gCV cl (2 * g)) = gCo cl g r inf w := by simp [gCo, hcase]
    exact W.iret (v := gCV cl (2 * g)) hx hb hr (fun t ht hW => ⟨⟨gCV cl (2 * g), (), rfl, hpost, trivial⟩, hS.F ht⟩) hS.2.2 dX0_count_71
  · skip
    refine lv_tableOut (tgt := 72) hx hb dX0_count_7 (by rw [hcase]; decide) (by decide) ?_
    refine lv_aload_n hx hb dX0_count_72 rfl (lv_at hl 0 rfl) ?_
    have hPc : va_P (dC, dI) vwCl (gcW h kc f1 f2 dr cl tr se (nI g) (nI r) inf (nI ct)) _ := hP.sub [0, 1, 2, 3, 4, 5, 6] rfl
    have hKc : va_K (dC, dI) vwCl (gcT kc) s := hK.sub [0, 1, 2, 3, 4, 5] rfl
    refine va_calli (va_runV (As := []) (rest := []) ⟨hx, hb, hml, hown, hts⟩ (c_X0_countPairs l dC dI h kc f1 f2 dr cl tr se g r inf ct (by first | assumption | omega)) (cwV 0 hts gX0_count_X0_countPairs rfl rfl rfl (by decide +kernel) ⟨Nat.le_of_ble_eq_true rfl, Nat.le_of_ble_eq_true rfl⟩) ⟨gcPR_blind, va_recv hK hP (ci := 0) (q0 := 0) rfl rfl, fun U hU hW => ⟨rfl, by rw [hU]; exact hPc, va_K.moved hW.alike hKc⟩⟩ rfl rfl hl.1 rfl (lv_room (Nat.le_of_ble_eq_true rfl)) dX0_count_73 ⟨Nat.zero_le _, Nat.zero_le _⟩) hS (fun q _ h => h.elim) (fun q h => h.elim) (fun r5 u t H locs ht hvm hw hB hz1 hk1 hS => ?_)
    have hP := gc_keep hP hk1
    have hw : r5 = gCP cl (2 * g) := hw
    subst hw
    clear hw
    clear hB hz1 hk1 ht hvm
    clear hPc hKc
    have hpost : (gCP cl (2 * g)) = gCo cl g r inf w := by simp [gCo, hcase]
    exact W.iret (v := gCP cl (2 * g)) hx hb hr (fun t ht hW => ⟨⟨gCP cl (2 * g), (), rfl, hpost, trivial⟩, hS.F ht⟩) hS.2.2 dX0_count_76
set_option maxHeartbeats 4000000 in
set_option maxRecDepth 100000 in
theorem c_X0_broken (l : Launch) (dC : Nat → ClassId) (dI : Nat → Nat → Nat) (h : Nat → Nat) (kc : Nat → ClassId) (f1 : Nat → Int32) (f2 : Nat → Int32) (dr : Nat → Int32) (cl : Nat → Int32) (tr : Nat → Int32) (se : Nat → Int32) (g : Nat) (r : Nat) (inf : Int32) (ct : Nat) (S : Nat) (hg : g ≤ 10) (hr30 : r ≤ 30) (hSg : S < 2 ^ g) : Met l yX0_broken wsX0_broken ({ frames := 2, cells := 0, slots := 0, locals := 43 }) (gcPR (dC, dI) [.ref (h 0), .int (nI S)] (gcW h kc f1 f2 dr cl tr se (nI g) (nI r) inf (nI ct)) (gcT kc)) (va_Qi (fun (rv : Int32) (_u : Unit) => rv = gFst (gBr f1 f2 inf (nI S)) r) (fun _ _ => True) (fun _ => False)) 0 0 (fun _ => False) := by
  refine Met.ofW (cc := cX0_broken) (maxL := 3) (ret := (some .int)) (by decide) rfl ?_
  intro p e s m args below meth c s₁ B hml hv
  obtain ⟨rfl, hP, hK⟩ := hv
  have hx := B.exec
  have hb := B.bytes
  have hr := B.returns
  have hts := atoms_spec (ws := wsX0_broken) B.pre
  have hown : s.vm.findClass RX0 = some m.cls := findClass_of_methodNamed B.named
  have hlocks := B.notSynchronized
  have hS : va_S (fun _ => False) s.heap s.heap [] := va_S.rf
  have hP : va_P (dC, dI) vwCl (gcW h kc f1 f2 dr cl tr se (nI g) (nI r) inf (nI ct)) s.heap := hP
  have hin0 : ∀ w ∈ wsX00, w ∈ wsX0_broken := by decide +kernel
  have hl := lv_entry [.ref (h 0), .int (nI S)] (n := 3) (Nat.le_of_ble_eq_true rfl)
  rw [lg_entry_eq]
  generalize (lg_sl [.ref (h 0), .int (nI S)] ++ List.replicate (3 - (lg_sl [.ref (h 0), .int (nI S)]).length) Slot.unset).toArray = ls at hl ⊢
  have hl : lv_has ls 3 [(0, .ref (h 0)), (1, .int (nI S))] := hl
  have hS2 : S < 1024 := Nat.lt_of_lt_of_le hSg (Nat.pow_le_pow_right (n := 2) (by decide) hg)
  have hg2 : 2 ^ g ≤ 1024 := Nat.pow_le_pow_right (n := 2) (by decide) hg
  refine lv_iload_n hx hb dX0_broken_0 rfl (lv_at hl 1 rfl) ?_
  refine lv_if_lt (tgt := 14) hx hb dX0_broken_1 (by decide) (fun c_1 => ?_) (fun c_1 => ?_)
  · skip
    exact absurd c_1 (nI_pos (by omega))
  · skip
    refine lv_iload_n hx hb dX0_broken_4 rfl (lv_at hl 1 rfl) ?_
    refine lv_iconst (v := 1) hx hb dX0_broken_5 (by decide) ?_
    refine lv_aload_n hx hb dX0_broken_6 rfl (lv_at hl 0 rfl) ?_
    refine va_get (D := (dC, dI)) (ci := 0) (v := .int (nI g)) (C := RX0) (T := TX0) (N := 10) hx hb hts hin0 hown hK hP 0 rfl rfl 6 (by decide) (hts (.fieldLink RX0 31 "GuestChairs" "guestCount" "I") (by decide +kernel)) (fun _ h9 => h9) rfl dX0_broken_7 ?_
    refine lv_ishl hx hb dX0_broken_10 ?_
    refine gc_topi (y := nI (2 ^ g)) (gc_shl1 hg) ?_
    refine lv_icmp_lt (tgt := 24) hx hb dX0_broken_11 (by decide) (fun c_11 => ?_) (fun c_11 => ?_)
    · skip
      refine lv_iconst (v := 0) hx hb dX0_broken_24 (by decide) ?_
      refine lv_istore_n (lv' := [(2, .int 0), (0, .ref (h 0)), (1, .int (nI S))]) hx hb dX0_broken_25 rfl hl (by decide) rfl (fun ls hl => ?_)
      refine gc_loop (r) (fun (i : Nat) (H : Heap) (locs : List Loc) (ls : Array Slot) => (∀ j : Nat, j < i → gBr f1 f2 inf (nI S) j = false) ∧ va_P (dC, dI) vwCl (gcW h kc f1 f2 dr cl tr se (nI g) (nI r) inf (nI ct)) H ∧ va_S (fun _ => False) s.heap H locs ∧ lv_has ls 3 [(2, .int (nI i)), (0, .ref (h 0)), (1, .int (nI S))]) 0 (Nat.zero_le _) ⟨(fun j hj => absurd hj (Nat.not_lt_zero j)), hP, hS, lv_sub hl [0, 1, 2] rfl⟩ ?_
      intro i H locs ls hi hI ihi
      obtain ⟨hno, hP, hS, hl⟩ := hI
      refine lv_iload_n hx hb dX0_broken_26 rfl (lv_at hl 0 rfl) ?_
      refine lv_aload_n hx hb dX0_broken_27 rfl (lv_at hl 1 rfl) ?_
      refine va_get (D := (dC, dI)) (ci := 0) (v := .int (nI r)) (C := RX0) (T := TX0) (N := 10) hx hb hts hin0 hown hK hP 0 rfl rfl 7 (by decide) (hts (.fieldLink RX0 51 "GuestChairs" "ruleCount" "I") (by decide +kernel)) (fun _ h9 => h9) rfl dX0_broken_28 ?_
      refine lv_icmp_ge (tgt := 83) hx hb dX0_broken_31 (by decide) (fun c_31 => ?_) (fun c_31 => ?_)
      · skip
        have hEi : i = r := gc_ge c_31 (by omega) (by omega)
        refine lv_iconst (v := -1) hx hb dX0_broken_83 (by decide) ?_
        have hpost : ((-1) : Int32) = gFst (gBr f1 f2 inf (nI S)) r := by subst hEi; exact (gFst_no hno).symm
        exact W.iret (v := (-1)) hx hb hr (fun t ht hW => ⟨⟨(-1), (), rfl, hpost, trivial⟩, hS.F ht⟩) hS.2.2 dX0_broken_84
      · skip
        have hLi : i < r := gc_lt c_31 (by omega) (by omega)
        refine lv_aload_n hx hb dX0_broken_34 rfl (lv_at hl 1 rfl) ?_
        refine va_get (D := (dC, dI)) (ci := 0) (v := .int inf) (C := RX0) (T := TX0) (N := 10) hx hb hts hin0 hown hK hP 0 rfl rfl 8 (by decide) (hts (.fieldLink RX0 60 "GuestChairs" "inForce" "I") (by decide +kernel)) (fun _ h9 => h9) rfl dX0_broken_35 ?_
        refine lv_iload_n hx hb dX0_broken_38 rfl (lv_at hl 0 rfl) ?_
        refine va_calli (va_runS (As := [.int inf, .int (nI i)]) (rest := []) ⟨hx, hb, hml, hown, hts⟩ (c_X0_has l inf (nI i)) (va_cwS 2 hts gX0_broken_X0_has rfl rfl rfl (by decide +kernel) ⟨Nat.le_of_ble_eq_true rfl, Nat.le_of_ble_eq_true rfl⟩) ⟨fun a U g mk q => q, fun U hU hW => ⟨rfl, trivial⟩⟩ rfl rfl hl.1 rfl (lv_room (Nat.le_of_ble_eq_true rfl)) dX0_broken_39 ⟨Nat.zero_le _, Nat.zero_le _⟩) hS (fun q _ h => h.elim) (fun q h => h.elim) (fun r1 u t H locs ht hvm hw hB hz1 hk1 hS => ?_)
        have hP := gc_keep hP hk1
        have hw : r1 = gB (gHas inf (nI i)) := hw
        subst hw
        clear hw
        clear hB hz1 hk1 ht hvm
        refine lv_if_eq (tgt := 77) hx hb dX0_broken_42 (by decide) (fun c_42 => ?_) (fun c_42 => ?_)
        · skip
          have c_42 := gB_f c_42
          refine lv_iinc (v := nI (i + 1)) (lv' := [(2, .int (nI (i + 1))), (0, .ref (h 0)), (1, .int (nI S))]) hx hb dX0_broken_77 hl (k := 0) rfl (nI_1 i) (by decide) rfl (fun ls hl => ?_)
          refine lv_goto (tgt := 26) hx hb dX0_broken_80 (by decide) ?_
          exact ihi H _ ls (by omega) ⟨(lt_s hno (by simp [gBr, c_1, c_11, c_42])), hP, hS, lv_sub hl [0, 1, 2] rfl⟩
        · skip
          have c_42 := gB_t c_42
          refine lv_aload_n hx hb dX0_broken_45 rfl (lv_at hl 1 rfl) ?_
          refine va_get (D := (dC, dI)) (ci := 0) (v := .ref (h 1)) (C := RX0) (T := TX0) (N := 10) hx hb hts hin0 hown hK hP 0 rfl rfl 0 (by decide) (hts (.fieldLink RX0 9 "GuestChairs" "firsts" "[I") (by decide +kernel)) (fun _ h9 => h9) rfl dX0_broken_46 ?_
          refine lv_iload_n hx hb dX0_broken_49 rfl (lv_at hl 0 rfl) ?_
          have hPc : va_P (dC, dI) vwCl ([((h 1), .inl ((kc 1), 30, .inl f1))]) _ := hP.sub [1] rfl
          have hKc : va_K (dC, dI) vwCl ([((kc 1), .int)]) s := hK.sub [0] rfl
          refine va_calli (va_runS (As := [.ref (h 1), .int (nI i)]) (rest := []) ⟨hx, hb, hml, hown, hts⟩ (c_X0_at l dC dI (h 1) (kc 1) 30 f1 (nI i) (by decide)) (va_cwS 2 hts gX0_broken_X0_at rfl rfl rfl (by decide +kernel) ⟨Nat.le_of_ble_eq_true rfl, Nat.le_of_ble_eq_true rfl⟩) ⟨gcPR_blind, fun U hU hW => ⟨rfl, by rw [hU]; exact hPc, va_K.moved hW.alike hKc⟩⟩ rfl rfl hl.1 rfl (lv_room (Nat.le_of_ble_eq_true rfl)) dX0_broken_50 ⟨Nat.zero_le _, Nat.zero_le _⟩) hS (fun q _ h => h.elim) (fun q h => h.elim) (fun r2 u t H locs ht hvm hw hB hz1 hk1 hS => ?_)
          have hP := gc_keep hP hk1
          have hw : r2 = gAt 30 f1 (nI i) := hw
          subst hw
          clear hw
          clear hB hz1 hk1 ht hvm
          clear hPc hKc
          refine lv_iload_n hx hb dX0_broken_53 rfl (lv_at hl 2 rfl) ?_
          refine va_calli (va_runS (As := [.int (gAt 30 f1 (nI i)), .int (nI S)]) (rest := []) ⟨hx, hb, hml, hown, hts⟩ (c_X0_holds l (gAt 30 f1 (nI i)) (nI S)) (va_cwS 2 hts gX0_broken_X0_holds rfl rfl rfl (by decide +kernel) ⟨Nat.le_of_ble_eq_true rfl, Nat.le_of_ble_eq_true rfl⟩) ⟨fun a U g mk q => q, fun U hU hW => ⟨rfl, trivial⟩⟩ rfl rfl hl.1 rfl (lv_room (Nat.le_of_ble_eq_true rfl)) dX0_broken_54 ⟨Nat.zero_le _, Nat.zero_le _⟩) hS (fun q _ h => h.elim) (fun q h => h.elim) (fun r3 u t H locs ht hvm hw hB hz1 hk1 hS => ?_)
          have hP := gc_keep hP hk1
          have hw : r3 = gB (gHolds (gAt 30 f1 (nI i)) (nI S)) := hw
          subst hw
          clear hw
          clear hB hz1 hk1 ht hvm
          refine lv_if_eq (tgt := 77) hx hb dX0_broken_57 (by decide) (fun c_57 => ?_) (fun c_57 => ?_)
          · skip
            have c_57 := gB_f c_57
            refine lv_iinc (v := nI (i + 1)) (lv' := [(2, .int (nI (i + 1))), (0, .ref (h 0)), (1, .int (nI S))]) hx hb dX0_broken_77 hl (k := 0) rfl (nI_1 i) (by decide) rfl (fun ls hl => ?_)
            refine lv_goto (tgt := 26) hx hb dX0_broken_80 (by decide) ?_
            exact ihi H _ ls (by omega) ⟨(lt_s hno (by simp [gBr, c_1, c_11, c_42, c_57])), hP, hS, lv_sub hl [0, 1, 2] rfl⟩
          · skip
            have c_57 := gB_t c_57
            refine lv_aload_n hx hb dX0_broken_60 rfl (lv_at hl 1 rfl) ?_
            refine va_get (D := (dC, dI)) (ci := 0) (v := .ref (h 2)) (C := RX0) (T := TX0) (N := 10) hx hb hts hin0 hown hK hP 0 rfl rfl 1 (by decide) (hts (.fieldLink RX0 13 "GuestChairs" "seconds" "[I") (by decide +kernel)) (fun _ h9 => h9) rfl dX0_broken_61 ?_
            refine lv_iload_n hx hb dX0_broken_64 rfl (lv_at hl 0 rfl) ?_
            have hPc : va_P (dC, dI) vwCl ([((h 2), .inl ((kc 2), 30, .inl f2))]) _ := hP.sub [2] rfl
            have hKc : va_K (dC, dI) vwCl ([((kc 2), .int)]) s := hK.sub [1] rfl
            refine va_calli (va_runS (As := [.ref (h 2), .int (nI i)]) (rest := []) ⟨hx, hb, hml, hown, hts⟩ (c_X0_at l dC dI (h 2) (kc 2) 30 f2 (nI i) (by decide)) (va_cwS 2 hts gX0_broken_X0_at rfl rfl rfl (by decide +kernel) ⟨Nat.le_of_ble_eq_true rfl, Nat.le_of_ble_eq_true rfl⟩) ⟨gcPR_blind, fun U hU hW => ⟨rfl, by rw [hU]; exact hPc, va_K.moved hW.alike hKc⟩⟩ rfl rfl hl.1 rfl (lv_room (Nat.le_of_ble_eq_true rfl)) dX0_broken_65 ⟨Nat.zero_le _, Nat.zero_le _⟩) hS (fun q _ h => h.elim) (fun q h => h.elim) (fun r4 u t H locs ht hvm hw hB hz1 hk1 hS => ?_)
            have hP := gc_keep hP hk1
            have hw : r4 = gAt 30 f2 (nI i) := hw
            subst hw
            clear hw
            clear hB hz1 hk1 ht hvm
            clear hPc hKc
            refine lv_iload_n hx hb dX0_broken_68 rfl (lv_at hl 2 rfl) ?_
            refine va_calli (va_runS (As := [.int (gAt 30 f2 (nI i)), .int (nI S)]) (rest := []) ⟨hx, hb, hml, hown, hts⟩ (c_X0_holds l (gAt 30 f2 (nI i)) (nI S)) (va_cwS 2 hts gX0_broken_X0_holds rfl rfl rfl (by decide +kernel) ⟨Nat.le_of_ble_eq_true rfl, Nat.le_of_ble_eq_true rfl⟩) ⟨fun a U g mk q => q, fun U hU hW => ⟨rfl, trivial⟩⟩ rfl rfl hl.1 rfl (lv_room (Nat.le_of_ble_eq_true rfl)) dX0_broken_69 ⟨Nat.zero_le _, Nat.zero_le _⟩) hS (fun q _ h => h.elim) (fun q h => h.elim) (fun r5 u t H locs ht hvm hw hB hz1 hk1 hS => ?_)
            have hP := gc_keep hP hk1
            have hw : r5 = gB (gHolds (gAt 30 f2 (nI i)) (nI S)) := hw
            subst hw
            clear hw
            clear hB hz1 hk1 ht hvm
            refine lv_if_ne (tgt := 77) hx hb dX0_broken_72 (by decide) (fun c_72 => ?_) (fun c_72 => ?_)
            · skip
              have c_72 := gB_t c_72
              refine lv_iinc (v := nI (i + 1)) (lv' := [(2, .int (nI (i + 1))), (0, .ref (h 0)), (1, .int (nI S))]) hx hb dX0_broken_77 hl (k := 0) rfl (nI_1 i) (by decide) rfl (fun ls hl => ?_)
              refine lv_goto (tgt := 26) hx hb dX0_broken_80 (by decide) ?_
              exact ihi H _ ls (by omega) ⟨(lt_s hno (by simp [gBr, c_1, c_11, c_42, c_57, c_72])), hP, hS, lv_sub hl [0, 1, 2] rfl⟩
            · skip
              have c_72 := gB_f c_72
              refine lv_iload_n hx hb dX0_broken_75 rfl (lv_at hl 0 rfl) ?_
              have hpost : (nI i) = gFst (gBr f1 f2 inf (nI S)) r := (gFst_hit (by omega) (by simp [gBr, c_1, c_11, c_42, c_57, c_72]) hno hLi).symm
              exact W.iret (v := nI i) hx hb hr (fun t ht hW => ⟨⟨nI i, (), rfl, hpost, trivial⟩, hS.F ht⟩) hS.2.2 dX0_broken_76
    · skip
      exact absurd ((nI_ltI (by omega) (by omega)).mpr hSg) c_11
set_option maxHeartbeats 4000000 in
set_option maxRecDepth 100000 in
theorem c_X0_tightens (l : Launch) (dC : Nat → ClassId) (dI : Nat → Nat → Nat) (h : Nat → Nat) (kc : Nat → ClassId) (f1 : Nat → Int32) (f2 : Nat → Int32) (dr : Nat → Int32) (cl : Nat → Int32) (tr : Nat → Int32) (se : Nat → Int32) (g : Nat) (r : Nat) (inf : Int32) (ct : Nat) (wa : Nat) (wb : Nat) (hg : g ≤ 10) (hc : ct ≤ 1024) (ha : wa < 2 * g) (hb2 : wb < 2 * g) : Met l yX0_tightens wsX0_tightens ({ frames := 2, cells := 0, slots := 0, locals := 42 }) (gcPR (dC, dI) [.ref (h 0), .int (nI wa), .int (nI wb)] (gcW h kc f1 f2 dr cl tr se (nI g) (nI r) inf (nI ct)) (gcT kc)) (va_Qi (fun (rv : Int32) (_u : Unit) => rv = nI (gTi se (nI wa) (nI wb) ct)) (fun _ _ => True) (fun _ => False)) 0 0 (fun _ => False) := by
  refine Met.ofW (cc := cX0_tightens) (maxL := 6) (ret := (some .int)) (by decide) rfl ?_
  intro p e s m args below meth c s₁ B hml hv
  obtain ⟨rfl, hP, hK⟩ := hv
  have hx := B.exec
  have hb := B.bytes
  have hr := B.returns
  have hts := atoms_spec (ws := wsX0_tightens) B.pre
  have hown : s.vm.findClass RX0 = some m.cls := findClass_of_methodNamed B.named
  have hlocks := B.notSynchronized
  have hS : va_S (fun _ => False) s.heap s.heap [] := va_S.rf
  have hP : va_P (dC, dI) vwCl (gcW h kc f1 f2 dr cl tr se (nI g) (nI r) inf (nI ct)) s.heap := hP
  have hin0 : ∀ w ∈ wsX00, w ∈ wsX0_tightens := by decide +kernel
  have hl := lv_entry [.ref (h 0), .int (nI wa), .int (nI wb)] (n := 6) (Nat.le_of_ble_eq_true rfl)
  rw [lg_entry_eq]
  generalize (lg_sl [.ref (h 0), .int (nI wa), .int (nI wb)] ++ List.replicate (6 - (lg_sl [.ref (h 0), .int (nI wa), .int (nI wb)]).length) Slot.unset).toArray = ls at hl ⊢
  have hl : lv_has ls 6 [(0, .ref (h 0)), (1, .int (nI wa)), (2, .int (nI wb))] := hl
  refine lv_aload_n hx hb dX0_tightens_0 rfl (lv_at hl 0 rfl) ?_
  refine lv_iload_n hx hb dX0_tightens_1 rfl (lv_at hl 1 rfl) ?_
  refine lv_iload_n hx hb dX0_tightens_2 rfl (lv_at hl 2 rfl) ?_
  have hPc : va_P (dC, dI) vwCl (gcW h kc f1 f2 dr cl tr se (nI g) (nI r) inf (nI ct)) _ := hP.sub [0, 1, 2, 3, 4, 5, 6] rfl
  have hKc : va_K (dC, dI) vwCl (gcT kc) s := hK.sub [0, 1, 2, 3, 4, 5] rfl
  refine va_callv (va_runV (As := [.int (nI wa), .int (nI wb)]) (rest := []) ⟨hx, hb, hml, hown, hts⟩ (c_X0_requireWishes l dC dI h kc f1 f2 dr cl tr se g r inf ct wa wb (by first | assumption | omega) (by first | assumption | omega) (by first | assumption | omega)) (cwV 2 hts gX0_tightens_X0_requireWishes rfl rfl rfl (by decide +kernel) ⟨Nat.le_of_ble_eq_true rfl, Nat.le_of_ble_eq_true rfl⟩) ⟨gcPR_blind, va_recv hK hP (ci := 0) (q0 := 0) rfl rfl, fun U hU hW => ⟨rfl, by rw [hU]; exact hPc, va_K.moved hW.alike hKc⟩⟩ rfl rfl hl.1 rfl (lv_room (Nat.le_of_ble_eq_true rfl)) dX0_tightens_3 ⟨Nat.zero_le _, Nat.zero_le _⟩) hS (fun q _ h => h.elim) (fun q h => h.elim) (fun u t H locs ht hvm hw hB hz1 hk1 hS => ?_)
  have hP := gc_keep hP hk1
  clear hB hz1 hk1 ht hvm
  clear hPc hKc
  refine lv_iconst (v := 0) hx hb dX0_tightens_6 (by decide) ?_
  refine lv_istore_n (lv' := [(3, .int 0), (0, .ref (h 0)), (1, .int (nI wa)), (2, .int (nI wb))]) hx hb dX0_tightens_7 rfl hl (by decide) rfl (fun ls hl => ?_)
  refine lv_iconst (v := 0) hx hb dX0_tightens_8 (by decide) ?_
  refine lv_istore (lv' := [(4, .int 0), (3, .int 0), (0, .ref (h 0)), (1, .int (nI wa)), (2, .int (nI wb))]) hx hb dX0_tightens_9 hl (by decide) rfl (fun ls hl => ?_)
  refine gc_loop (ct) (fun (i : Nat) (H : Heap) (locs : List Loc) (ls : Array Slot) => ∃ (k : Nat), k = gTi se (nI wa) (nI wb) i ∧ va_P (dC, dI) vwCl (gcW h kc f1 f2 dr cl tr se (nI g) (nI r) inf (nI ct)) H ∧ va_S (fun _ => False) s.heap H locs ∧ lv_has ls 6 [(4, .int (nI i)), (3, .int (nI k)), (0, .ref (h 0)), (1, .int (nI wa)), (2, .int (nI wb))]) 0 (Nat.zero_le _) ⟨0, (by first | rfl | assumption | omega), hP, hS, lv_sub hl [0, 1, 2, 3, 4] rfl⟩ ?_
  intro i H locs ls hi hI ihi
  obtain ⟨k, e_k, hP, hS, hl⟩ := hI
  refine lv_iload hx hb dX0_tightens_11 (lv_at hl 0 rfl) ?_
  refine lv_aload_n hx hb dX0_tightens_13 rfl (lv_at hl 2 rfl) ?_
  refine va_get (D := (dC, dI)) (ci := 0) (v := .int (nI ct)) (C := RX0) (T := TX0) (N := 10) hx hb hts hin0 hown hK hP 0 rfl rfl 9 (by decide) (hts (.fieldLink RX0 111 "GuestChairs" "seatingCount" "I") (by decide +kernel)) (fun _ h9 => h9) rfl dX0_tightens_14 ?_
  refine lv_icmp_ge (tgt := 58) hx hb dX0_tightens_17 (by decide) (fun c_17 => ?_) (fun c_17 => ?_)
  · skip
    have hEi : i = ct := gc_ge c_17 (by omega) (by omega)
    refine lv_iload_n hx hb dX0_tightens_58 rfl (lv_at hl 1 rfl) ?_
    have hpost : (nI k) = nI (gTi se (nI wa) (nI wb) ct) := by rw [e_k, hEi]
    exact W.iret (v := nI k) hx hb hr (fun t ht hW => ⟨⟨nI k, (), rfl, hpost, trivial⟩, hS.F ht⟩) hS.2.2 dX0_tightens_59
  · skip
    have hLi : i < ct := gc_lt c_17 (by omega) (by omega)
    refine lv_aload_n hx hb dX0_tightens_20 rfl (lv_at hl 2 rfl) ?_
    refine va_get (D := (dC, dI)) (ci := 0) (v := .ref (h 6)) (C := RX0) (T := TX0) (N := 10) hx hb hts hin0 hown hK hP 0 rfl rfl 5 (by decide) (hts (.fieldLink RX0 25 "GuestChairs" "seated" "[I") (by decide +kernel)) (fun _ h9 => h9) rfl dX0_tightens_21 ?_
    refine lv_iload hx hb dX0_tightens_24 (lv_at hl 0 rfl) ?_
    have hPc : va_P (dC, dI) vwCl ([((h 6), .inl ((kc 6), 1024, .inl se))]) _ := hP.sub [6] rfl
    have hKc : va_K (dC, dI) vwCl ([((kc 6), .int)]) s := hK.sub [5] rfl
    refine va_calli (va_runS (As := [.ref (h 6), .int (nI i)]) (rest := []) ⟨hx, hb, hml, hown, hts⟩ (c_X0_at l dC dI (h 6) (kc 6) 1024 se (nI i) (by decide)) (va_cwS 2 hts gX0_tightens_X0_at rfl rfl rfl (by decide +kernel) ⟨Nat.le_of_ble_eq_true rfl, Nat.le_of_ble_eq_true rfl⟩) ⟨gcPR_blind, fun U hU hW => ⟨rfl, by rw [hU]; exact hPc, va_K.moved hW.alike hKc⟩⟩ rfl rfl hl.1 rfl (lv_room (Nat.le_of_ble_eq_true rfl)) dX0_tightens_26 ⟨Nat.zero_le _, Nat.zero_le _⟩) hS (fun q _ h => h.elim) (fun q h => h.elim) (fun r2 u t H locs ht hvm hw hB hz1 hk1 hS => ?_)
    have hP := gc_keep hP hk1
    have hw : r2 = gAt 1024 se (nI i) := hw
    subst hw
    clear hw
    clear hB hz1 hk1 ht hvm
    clear hPc hKc
    refine lv_istore (lv' := [(5, .int (gAt 1024 se (nI i))), (4, .int (nI i)), (3, .int (nI k)), (0, .ref (h 0)), (1, .int (nI wa)), (2, .int (nI wb))]) hx hb dX0_tightens_29 hl (by decide) rfl (fun ls hl => ?_)
    refine lv_iload hx hb dX0_tightens_31 (lv_at hl 0 rfl) ?_
    refine lv_iload_n hx hb dX0_tightens_33 rfl (lv_at hl 4 rfl) ?_
    refine va_calli (va_runS (As := [.int (gAt 1024 se (nI i)), .int (nI wa)]) (rest := []) ⟨hx, hb, hml, hown, hts⟩ (c_X0_has l (gAt 1024 se (nI i)) (nI wa)) (va_cwS 2 hts gX0_tightens_X0_has rfl rfl rfl (by decide +kernel) ⟨Nat.le_of_ble_eq_true rfl, Nat.le_of_ble_eq_true rfl⟩) ⟨fun a U g mk q => q, fun U hU hW => ⟨rfl, trivial⟩⟩ rfl rfl hl.1 rfl (lv_room (Nat.le_of_ble_eq_true rfl)) dX0_tightens_34 ⟨Nat.zero_le _, Nat.zero_le _⟩) hS (fun q _ h => h.elim) (fun q h => h.elim) (fun r3 u t H locs ht hvm hw hB hz1 hk1 hS => ?_)
    have hP := gc_keep hP hk1
    have hw : r3 = gB (gHas (gAt 1024 se (nI i)) (nI wa)) := hw
    subst hw
    clear hw
    clear hB hz1 hk1 ht hvm
    refine lv_if_eq (tgt := 52) hx hb dX0_tightens_37 (by decide) (fun c_37 => ?_) (fun c_37 => ?_)
    · skip
      have c_37 := gB_f c_37
      refine lv_iinc (v := nI (i + 1)) (lv' := [(4, .int (nI (i + 1))), (5, .int (gAt 1024 se (nI i))), (3, .int (nI k)), (0, .ref (h 0)), (1, .int (nI wa)), (2, .int (nI wb))]) hx hb dX0_tightens_52 hl (k := 1) rfl (nI_1 i) (by decide) rfl (fun ls hl => ?_)
      refine lv_goto (tgt := 11) hx hb dX0_tightens_55 (by decide) ?_
      exact ihi H _ ls (by omega) ⟨k, (by simp only [gTi, ← e_k]; simp [gTi, c_37] <;> assumption), hP, hS, lv_sub hl [0, 2, 3, 4, 5] rfl⟩
    · skip
      have c_37 := gB_t c_37
      refine lv_iload hx hb dX0_tightens_40 (lv_at hl 0 rfl) ?_
      refine lv_iload_n hx hb dX0_tightens_42 rfl (lv_at hl 5 rfl) ?_
      refine va_calli (va_runS (As := [.int (gAt 1024 se (nI i)), .int (nI wb)]) (rest := []) ⟨hx, hb, hml, hown, hts⟩ (c_X0_has l (gAt 1024 se (nI i)) (nI wb)) (va_cwS 2 hts gX0_tightens_X0_has rfl rfl rfl (by decide +kernel) ⟨Nat.le_of_ble_eq_true rfl, Nat.le_of_ble_eq_true rfl⟩) ⟨fun a U g mk q => q, fun U hU hW => ⟨rfl, trivial⟩⟩ rfl rfl hl.1 rfl (lv_room (Nat.le_of_ble_eq_true rfl)) dX0_tightens_43 ⟨Nat.zero_le _, Nat.zero_le _⟩) hS (fun q _ h => h.elim) (fun q h => h.elim) (fun r4 u t H locs ht hvm hw hB hz1 hk1 hS => ?_)
      have hP := gc_keep hP hk1
      have hw : r4 = gB (gHas (gAt 1024 se (nI i)) (nI wb)) := hw
      subst hw
      clear hw
      clear hB hz1 hk1 ht hvm
      refine lv_if_ne (tgt := 52) hx hb dX0_tightens_46 (by decide) (fun c_46 => ?_) (fun c_46 => ?_)
      · skip
        have c_46 := gB_t c_46
        refine lv_iinc (v := nI (i + 1)) (lv' := [(4, .int (nI (i + 1))), (5, .int (gAt 1024 se (nI i))), (3, .int (nI k)), (0, .ref (h 0)), (1, .int (nI wa)), (2, .int (nI wb))]) hx hb dX0_tightens_52 hl (k := 1) rfl (nI_1 i) (by decide) rfl (fun ls hl => ?_)
        refine lv_goto (tgt := 11) hx hb dX0_tightens_55 (by decide) ?_
        exact ihi H _ ls (by omega) ⟨k, (by simp only [gTi, ← e_k]; simp [gTi, c_37, c_46] <;> assumption), hP, hS, lv_sub hl [0, 2, 3, 4, 5] rfl⟩
      · skip
        have c_46 := gB_f c_46
        refine lv_iinc (v := nI (k + 1)) (lv' := [(3, .int (nI (k + 1))), (5, .int (gAt 1024 se (nI i))), (4, .int (nI i)), (0, .ref (h 0)), (1, .int (nI wa)), (2, .int (nI wb))]) hx hb dX0_tightens_49 hl (k := 2) rfl (nI_1 k) (by decide) rfl (fun ls hl => ?_)
        refine lv_iinc (v := nI (i + 1)) (lv' := [(4, .int (nI (i + 1))), (3, .int (nI (k + 1))), (5, .int (gAt 1024 se (nI i))), (0, .ref (h 0)), (1, .int (nI wa)), (2, .int (nI wb))]) hx hb dX0_tightens_52 hl (k := 2) rfl (nI_1 i) (by decide) rfl (fun ls hl => ?_)
        refine lv_goto (tgt := 11) hx hb dX0_tightens_55 (by decide) ?_
        exact ihi H _ ls (by omega) ⟨(k + 1), (by simp only [gTi, ← e_k]; simp [gTi, c_37, c_46] <;> assumption), hP, hS, lv_sub hl [0, 1, 3, 4, 5] rfl⟩
set_option maxHeartbeats 4000000 in
set_option maxRecDepth 100000 in
theorem c_X0_invite (l : Launch) (dC : Nat → ClassId) (dI : Nat → Nat → Nat) (h : Nat → Nat) (kc : Nat → ClassId) (f1 : Nat → Int32) (f2 : Nat → Int32) (dr : Nat → Int32) (cl : Nat → Int32) (tr : Nat → Int32) (se : Nat → Int32) (g : Nat) (r : Nat) (inf : Int32) (ct : Nat) (sz : Nat) (hr30 : r ≤ 30) (hg9 : g < 10) : Met l yX0_invite wsX0_invite ({ frames := 6, cells := 0, slots := 0, locals := 127 }) (gcPM (dC, dI) [.ref (h 0)] (gcW h kc f1 f2 dr cl tr se (nI g) (nI r) inf (nI ct)) (gcT kc) sz) (va_Qi (fun (rv : Int32) (_u : Unit) => rv = nI g) (fun _u t9 => va_P (dC, dI) vwCl (gcW h kc f1 f2 (gLA f1 f2 inf (-1) r dr) (gCl (gLA f1 f2 inf (-1) r cl) 20) tr ((gLs (gCl (gLA f1 f2 inf (-1) r cl) 20) se (g + 1) (g + 1)).1) (nI (g + 1)) (nI r) inf (nI (gLs (gCl (gLA f1 f2 inf (-1) r cl) 20) se (g + 1) (g + 1)).2)) t9.heap ∧ va_D (va_A (gcW h kc f1 f2 dr cl tr se (nI g) (nI r) inf (nI ct)) sz) (gcW h kc f1 f2 (gLA f1 f2 inf (-1) r dr) (gCl (gLA f1 f2 inf (-1) r cl) 20) tr ((gLs (gCl (gLA f1 f2 inf (-1) r cl) 20) se (g + 1) (g + 1)).1) (nI (g + 1)) (nI r) inf (nI (gLs (gCl (gLA f1 f2 inf (-1) r cl) 20) se (g + 1) (g + 1)).2))) (va_A (gcW h kc f1 f2 dr cl tr se (nI g) (nI r) inf (nI ct)) sz)) 0 0 (va_A (gcW h kc f1 f2 dr cl tr se (nI g) (nI r) inf (nI ct)) sz) := by
  refine Met.ofW (cc := cX0_invite) (maxL := 2) (ret := (some .int)) (by decide) rfl ?_
  intro p e s m args below meth c s₁ B hml hv
  obtain ⟨rfl, hsz, hP, hK, hD0⟩ := hv
  have hx := B.exec
  have hb := B.bytes
  have hr := B.returns
  have hts := atoms_spec (ws := wsX0_invite) B.pre
  have hown : s.vm.findClass RX0 = some m.cls := findClass_of_methodNamed B.named
  have hlocks := B.notSynchronized
  subst hsz
  have hD := hD0.self (sz := s.heap.size)
  generalize hAe : va_A (gcW h kc f1 f2 dr cl tr se (nI g) (nI r) inf (nI ct)) s.heap.size = A at hD ⊢
  have hA : ∀ q : Nat, s.heap.size ≤ q → A q := fun q h => by rw [← hAe]; exact Or.inr h
  have hS : va_S A s.heap s.heap [] := va_S.rf
  have hP : va_P (dC, dI) vwCl (gcW h kc f1 f2 dr cl tr se (nI g) (nI r) inf (nI ct)) s.heap := hP
  have hin0 : ∀ w ∈ wsX00, w ∈ wsX0_invite := by decide +kernel
  have hl := lv_entry [.ref (h 0)] (n := 2) (Nat.le_of_ble_eq_true rfl)
  rw [lg_entry_eq]
  generalize (lg_sl [.ref (h 0)] ++ List.replicate (2 - (lg_sl [.ref (h 0)]).length) Slot.unset).toArray = ls at hl ⊢
  have hl : lv_has ls 2 [(0, .ref (h 0))] := hl
  refine lv_aload_n hx hb dX0_invite_0 rfl (lv_at hl 0 rfl) ?_
  refine va_get (D := (dC, dI)) (ci := 0) (v := .int (nI g)) (C := RX0) (T := TX0) (N := 10) hx hb hts hin0 hown hK hP 0 rfl rfl 6 (by decide) (hts (.fieldLink RX0 31 "GuestChairs" "guestCount" "I") (by decide +kernel)) (fun _ h9 => h9) rfl dX0_invite_1 ?_
  refine lv_bipush (v := 10) hx hb dX0_invite_4 (by decide) ?_
  refine lv_icmp_lt (tgt := 19) hx hb dX0_invite_6 (by decide) (fun c_6 => ?_) (fun c_6 => ?_)
  · skip
    refine lv_aload_n hx hb dX0_invite_19 rfl (lv_at hl 0 rfl) ?_
    refine va_get (D := (dC, dI)) (ci := 0) (v := .int (nI g)) (C := RX0) (T := TX0) (N := 10) hx hb hts hin0 hown hK hP 0 rfl rfl 6 (by decide) (hts (.fieldLink RX0 31 "GuestChairs" "guestCount" "I") (by decide +kernel)) (fun _ h9 => h9) rfl dX0_invite_20 ?_
    refine lv_istore_n (lv' := [(1, .int (nI g)), (0, .ref (h 0))]) hx hb dX0_invite_23 rfl hl (by decide) rfl (fun ls hl => ?_)
    refine lv_aload_n hx hb dX0_invite_24 rfl (lv_at hl 1 rfl) ?_
    refine lv_dup hx hb dX0_invite_25 rfl ?_
    refine va_get (D := (dC, dI)) (ci := 0) (v := .int (nI g)) (C := RX0) (T := TX0) (N := 10) hx hb hts hin0 hown hK hP 0 rfl rfl 6 (by decide) (hts (.fieldLink RX0 31 "GuestChairs" "guestCount" "I") (by decide +kernel)) (fun _ h9 => h9) rfl dX0_invite_26 ?_
    refine lv_iconst (v := 1) hx hb dX0_invite_29 (by decide) ?_
    refine lv_iadd hx hb dX0_invite_30 ?_
    refine gc_topi (y := nI (g + 1)) (nI_1 g) ?_
    refine va_put (D := (dC, dI)) (ci := 0) (v := .int (nI (g + 1))) (ty := .int) (C := RX0) (T := TX0) (N := 10) hx hb hts hin0 tyX0 tyX0_ok nmX0 hown hK hP hD hS 0 rfl rfl 6 (by decide) (hts (.fieldLink RX0 31 "GuestChairs" "guestCount" "I") (by decide +kernel)) (fun _ h9 => h9) rfl (by decide +kernel) rfl rfl (Nat.le_of_ble_eq_true rfl) dX0_invite_31 (fun H locs hP hD hS => ?_)
    have hP : va_P (dC, dI) vwCl (gcW h kc f1 f2 dr cl tr se (nI (g + 1)) (nI r) inf (nI ct)) H := hP
    have hD : va_D A (gcW h kc f1 f2 dr cl tr se (nI (g + 1)) (nI r) inf (nI ct)) := hD
    refine lv_aload_n hx hb dX0_invite_34 rfl (lv_at hl 1 rfl) ?_
    have hPc : va_P (dC, dI) vwCl (gcW h kc f1 f2 dr cl tr se (nI (g + 1)) (nI r) inf (nI ct)) _ := hP.sub [0, 1, 2, 3, 4, 5, 6] rfl
    have hKc : va_K (dC, dI) vwCl (gcT kc) s := hK.sub [0, 1, 2, 3, 4, 5] rfl
    have hDc : va_D A (gcW h kc f1 f2 dr cl tr se (nI (g + 1)) (nI r) inf (nI ct)) := hD.sub [0, 1, 2, 3, 4, 5, 6] (by decide) rfl
    have hFc := va_free (wc := (gcW h kc f1 f2 dr cl tr se (nI (g + 1)) (nI r) inf (nI ct))) hD hS hA [0, 1, 2, 3, 4, 5, 6] rfl
    refine va_callv (va_runV (As := []) (rest := []) ⟨hx, hb, hml, hown, hts⟩ (c_X0_refresh l dC dI h kc f1 f2 dr cl tr se (g + 1) r inf ct H.size (by first | assumption | omega) (by first | assumption | omega)) (cwV 0 hts gX0_invite_X0_refresh rfl rfl rfl (by decide +kernel) ⟨Nat.le_of_ble_eq_true rfl, Nat.le_of_ble_eq_true rfl⟩) ⟨gcPM_blind, va_recv hK hP (ci := 0) (q0 := 0) rfl rfl, fun U hU hW => ⟨rfl, by rw [hU], by rw [hU]; exact hPc, va_K.moved hW.alike hKc, hDc.weaken (fun _ _ _ _ => trivial)⟩⟩ rfl rfl hl.1 rfl (lv_room (Nat.le_of_ble_eq_true rfl)) dX0_invite_35 ⟨Nat.zero_le _, Nat.zero_le _⟩) hS (fun q _ h => hFc q h) hFc (fun u t H locs ht hvm hw hB hz1 hk1 hS => ?_)
    obtain ⟨hP1, hD1⟩ := hB
    rw [ht] at hP1
    obtain ⟨hP, hD⟩ := va_join (wr := []) (w1 := (gcW h kc f1 f2 (gLA f1 f2 inf (-1) r dr) (gCl (gLA f1 f2 inf (-1) r cl) 20) tr ((gLs (gCl (gLA f1 f2 inf (-1) r cl) 20) se (g + 1) (g + 1)).1) (nI (g + 1)) (nI r) inf (nI (gLs (gCl (gLA f1 f2 inf (-1) r cl) 20) se (g + 1) (g + 1)).2))) hP hD [0, 1, 2, 3, 4, 5, 6] [] rfl rfl (by decide) (by decide) hk1 hFc hP1 hD1
    have hP : va_P (dC, dI) vwCl (gcW h kc f1 f2 (gLA f1 f2 inf (-1) r dr) (gCl (gLA f1 f2 inf (-1) r cl) 20) tr ((gLs (gCl (gLA f1 f2 inf (-1) r cl) 20) se (g + 1) (g + 1)).1) (nI (g + 1)) (nI r) inf (nI (gLs (gCl (gLA f1 f2 inf (-1) r cl) 20) se (g + 1) (g + 1)).2)) H := hP.sub [0, 1, 2, 3, 4, 5, 6] rfl
    have hD : va_D A (gcW h kc f1 f2 (gLA f1 f2 inf (-1) r dr) (gCl (gLA f1 f2 inf (-1) r cl) 20) tr ((gLs (gCl (gLA f1 f2 inf (-1) r cl) 20) se (g + 1) (g + 1)).1) (nI (g + 1)) (nI r) inf (nI (gLs (gCl (gLA f1 f2 inf (-1) r cl) 20) se (g + 1) (g + 1)).2)) := hD.sub [0, 1, 2, 3, 4, 5, 6] (by decide) rfl
    clear hz1 hk1 ht hvm hP1 hD1 hFc hDc
    clear hPc hKc
    refine lv_iload_n hx hb dX0_invite_38 rfl (lv_at hl 0 rfl) ?_
    have hpost : (nI g) = nI g := by first | rfl | assumption
    exact W.iret (v := nI g) hx hb hr (fun t ht hW => ⟨⟨nI g, (), rfl, hpost, ⟨by rw [ht]; exact hP, hD⟩⟩, hS.F ht⟩) hS.2.2 dX0_invite_39
  · skip
    exact absurd ((nI_ltI (b := 10) (by omega) (by omega)).mpr hg9) c_6
set_option maxHeartbeats 4000000 in
set_option maxRecDepth 100000 in
theorem c_X0_rule (l : Launch) (dC : Nat → ClassId) (dI : Nat → Nat → Nat) (h : Nat → Nat) (kc : Nat → ClassId) (f1 : Nat → Int32) (f2 : Nat → Int32) (dr : Nat → Int32) (cl : Nat → Int32) (tr : Nat → Int32) (se : Nat → Int32) (g : Nat) (r : Nat) (inf : Int32) (ct : Nat) (wa : Nat) (wb : Nat) (sz : Nat) (hg : g ≤ 10) (hr9 : r < 30) (ha : wa < 2 * g) (hb2 : wb < 2 * g) (hne : ¬ wa = wb) : Met l yX0_rule wsX0_rule ({ frames := 6, cells := 0, slots := 0, locals := 127 }) (gcPM (dC, dI) [.ref (h 0), .int (nI wa), .int (nI wb)] (gcW h kc f1 f2 dr cl tr se (nI g) (nI r) inf (nI ct)) (gcT kc) sz) (va_Qi (fun (rv : Int32) (_u : Unit) => rv = nI r) (fun _u t9 => va_P (dC, dI) vwCl (gcW h kc (gPut 30 f1 (nI r) (nI wa)) (gPut 30 f2 (nI r) (nI wb)) (gLA (gPut 30 f1 (nI r) (nI wa)) (gPut 30 f2 (nI r) (nI wb)) (inf ||| ((1 : Int32) <<< (nI r &&& 31))) (-1) (r + 1) dr) (gCl (gLA (gPut 30 f1 (nI r) (nI wa)) (gPut 30 f2 (nI r) (nI wb)) (inf ||| ((1 : Int32) <<< (nI r &&& 31))) (-1) (r + 1) cl) 20) tr ((gLs (gCl (gLA (gPut 30 f1 (nI r) (nI wa)) (gPut 30 f2 (nI r) (nI wb)) (inf ||| ((1 : Int32) <<< (nI r &&& 31))) (-1) (r + 1) cl) 20) se g g).1) (nI g) (nI (r + 1)) (inf ||| ((1 : Int32) <<< (nI r &&& 31))) (nI (gLs (gCl (gLA (gPut 30 f1 (nI r) (nI wa)) (gPut 30 f2 (nI r) (nI wb)) (inf ||| ((1 : Int32) <<< (nI r &&& 31))) (-1) (r + 1) cl) 20) se g g).2)) t9.heap ∧ va_D (va_A (gcW h kc f1 f2 dr cl tr se (nI g) (nI r) inf (nI ct)) sz) (gcW h kc (gPut 30 f1 (nI r) (nI wa)) (gPut 30 f2 (nI r) (nI wb)) (gLA (gPut 30 f1 (nI r) (nI wa)) (gPut 30 f2 (nI r) (nI wb)) (inf ||| ((1 : Int32) <<< (nI r &&& 31))) (-1) (r + 1) dr) (gCl (gLA (gPut 30 f1 (nI r) (nI wa)) (gPut 30 f2 (nI r) (nI wb)) (inf ||| ((1 : Int32) <<< (nI r &&& 31))) (-1) (r + 1) cl) 20) tr ((gLs (gCl (gLA (gPut 30 f1 (nI r) (nI wa)) (gPut 30 f2 (nI r) (nI wb)) (inf ||| ((1 : Int32) <<< (nI r &&& 31))) (-1) (r + 1) cl) 20) se g g).1) (nI g) (nI (r + 1)) (inf ||| ((1 : Int32) <<< (nI r &&& 31))) (nI (gLs (gCl (gLA (gPut 30 f1 (nI r) (nI wa)) (gPut 30 f2 (nI r) (nI wb)) (inf ||| ((1 : Int32) <<< (nI r &&& 31))) (-1) (r + 1) cl) 20) se g g).2))) (va_A (gcW h kc f1 f2 dr cl tr se (nI g) (nI r) inf (nI ct)) sz)) 0 0 (va_A (gcW h kc f1 f2 dr cl tr se (nI g) (nI r) inf (nI ct)) sz) := by
  refine Met.ofW (cc := cX0_rule) (maxL := 4) (ret := (some .int)) (by decide) rfl ?_
  intro p e s m args below meth c s₁ B hml hv
  obtain ⟨rfl, hsz, hP, hK, hD0⟩ := hv
  have hx := B.exec
  have hb := B.bytes
  have hr := B.returns
  have hts := atoms_spec (ws := wsX0_rule) B.pre
  have hown : s.vm.findClass RX0 = some m.cls := findClass_of_methodNamed B.named
  have hlocks := B.notSynchronized
  subst hsz
  have hD := hD0.self (sz := s.heap.size)
  generalize hAe : va_A (gcW h kc f1 f2 dr cl tr se (nI g) (nI r) inf (nI ct)) s.heap.size = A at hD ⊢
  have hA : ∀ q : Nat, s.heap.size ≤ q → A q := fun q h => by rw [← hAe]; exact Or.inr h
  have hS : va_S A s.heap s.heap [] := va_S.rf
  have hP : va_P (dC, dI) vwCl (gcW h kc f1 f2 dr cl tr se (nI g) (nI r) inf (nI ct)) s.heap := hP
  have hin0 : ∀ w ∈ wsX00, w ∈ wsX0_rule := by decide +kernel
  have hl := lv_entry [.ref (h 0), .int (nI wa), .int (nI wb)] (n := 4) (Nat.le_of_ble_eq_true rfl)
  rw [lg_entry_eq]
  generalize (lg_sl [.ref (h 0), .int (nI wa), .int (nI wb)] ++ List.replicate (4 - (lg_sl [.ref (h 0), .int (nI wa), .int (nI wb)]).length) Slot.unset).toArray = ls at hl ⊢
  have hl : lv_has ls 4 [(0, .ref (h 0)), (1, .int (nI wa)), (2, .int (nI wb))] := hl
  refine lv_aload_n hx hb dX0_rule_0 rfl (lv_at hl 0 rfl) ?_
  refine lv_iload_n hx hb dX0_rule_1 rfl (lv_at hl 1 rfl) ?_
  refine lv_iload_n hx hb dX0_rule_2 rfl (lv_at hl 2 rfl) ?_
  have hPc : va_P (dC, dI) vwCl (gcW h kc f1 f2 dr cl tr se (nI g) (nI r) inf (nI ct)) _ := hP.sub [0, 1, 2, 3, 4, 5, 6] rfl
  have hKc : va_K (dC, dI) vwCl (gcT kc) s := hK.sub [0, 1, 2, 3, 4, 5] rfl
  refine va_callv (va_runV (As := [.int (nI wa), .int (nI wb)]) (rest := []) ⟨hx, hb, hml, hown, hts⟩ (c_X0_requireWishes l dC dI h kc f1 f2 dr cl tr se g r inf ct wa wb (by first | assumption | omega) (by first | assumption | omega) (by first | assumption | omega)) (cwV 2 hts gX0_rule_X0_requireWishes rfl rfl rfl (by decide +kernel) ⟨Nat.le_of_ble_eq_true rfl, Nat.le_of_ble_eq_true rfl⟩) ⟨gcPR_blind, va_recv hK hP (ci := 0) (q0 := 0) rfl rfl, fun U hU hW => ⟨rfl, by rw [hU]; exact hPc, va_K.moved hW.alike hKc⟩⟩ rfl rfl hl.1 rfl (lv_room (Nat.le_of_ble_eq_true rfl)) dX0_rule_3 ⟨Nat.zero_le _, Nat.zero_le _⟩) hS (fun q _ h => h.elim) (fun q h => h.elim) (fun u t H locs ht hvm hw hB hz1 hk1 hS => ?_)
  have hP := gc_keep hP hk1
  clear hB hz1 hk1 ht hvm
  clear hPc hKc
  refine lv_iload_n hx hb dX0_rule_6 rfl (lv_at hl 1 rfl) ?_
  refine lv_iload_n hx hb dX0_rule_7 rfl (lv_at hl 2 rfl) ?_
  refine lv_icmp_ne (tgt := 21) hx hb dX0_rule_8 (by decide) (fun c_8 => ?_) (fun c_8 => ?_)
  · skip
    refine lv_aload_n hx hb dX0_rule_21 rfl (lv_at hl 0 rfl) ?_
    refine va_get (D := (dC, dI)) (ci := 0) (v := .int (nI r)) (C := RX0) (T := TX0) (N := 10) hx hb hts hin0 hown hK hP 0 rfl rfl 7 (by decide) (hts (.fieldLink RX0 51 "GuestChairs" "ruleCount" "I") (by decide +kernel)) (fun _ h9 => h9) rfl dX0_rule_22 ?_
    refine lv_bipush (v := 30) hx hb dX0_rule_25 (by decide) ?_
    refine lv_icmp_lt (tgt := 40) hx hb dX0_rule_27 (by decide) (fun c_27 => ?_) (fun c_27 => ?_)
    · skip
      refine lv_aload_n hx hb dX0_rule_40 rfl (lv_at hl 0 rfl) ?_
      refine va_get (D := (dC, dI)) (ci := 0) (v := .int (nI r)) (C := RX0) (T := TX0) (N := 10) hx hb hts hin0 hown hK hP 0 rfl rfl 7 (by decide) (hts (.fieldLink RX0 51 "GuestChairs" "ruleCount" "I") (by decide +kernel)) (fun _ h9 => h9) rfl dX0_rule_41 ?_
      refine lv_istore_n (lv' := [(3, .int (nI r)), (0, .ref (h 0)), (1, .int (nI wa)), (2, .int (nI wb))]) hx hb dX0_rule_44 rfl hl (by decide) rfl (fun ls hl => ?_)
      refine lv_aload_n hx hb dX0_rule_45 rfl (lv_at hl 1 rfl) ?_
      refine va_get (D := (dC, dI)) (ci := 0) (v := .ref (h 1)) (C := RX0) (T := TX0) (N := 10) hx hb hts hin0 hown hK hP 0 rfl rfl 0 (by decide) (hts (.fieldLink RX0 9 "GuestChairs" "firsts" "[I") (by decide +kernel)) (fun _ h9 => h9) rfl dX0_rule_46 ?_
      refine lv_iload_n hx hb dX0_rule_49 rfl (lv_at hl 0 rfl) ?_
      refine lv_iload_n hx hb dX0_rule_50 rfl (lv_at hl 2 rfl) ?_
      have hPc : va_P (dC, dI) vwCl ([((h 1), .inl ((kc 1), 30, .inl f1))]) _ := hP.sub [1] rfl
      have hKc : va_K (dC, dI) vwCl ([((kc 1), .int)]) s := hK.sub [0] rfl
      have hDc : va_D A ([((h 1), .inl ((kc 1), 30, .inl f1))]) := hD.sub [1] (by decide) rfl
      have hFc := va_free (wc := ([((h 1), .inl ((kc 1), 30, .inl f1))])) hD hS hA [1] rfl
      refine va_callv (va_runS (As := [.ref (h 1), .int (nI r), .int (nI wa)]) (rest := []) ⟨hx, hb, hml, hown, hts⟩ (c_X0_put l dC dI (h 1) (kc 1) 30 f1 (nI r) (nI wa) H.size (by decide)) (va_cwS 3 hts gX0_rule_X0_put rfl rfl rfl (by decide +kernel) ⟨Nat.le_of_ble_eq_true rfl, Nat.le_of_ble_eq_true rfl⟩) ⟨gcPM_blind, fun U hU hW => ⟨rfl, by rw [hU], by rw [hU]; exact hPc, va_K.moved hW.alike hKc, hDc.weaken (fun _ _ _ _ => trivial)⟩⟩ rfl rfl hl.1 rfl (lv_room (Nat.le_of_ble_eq_true rfl)) dX0_rule_51 ⟨Nat.zero_le _, Nat.zero_le _⟩) hS (fun q _ h => hFc q h) hFc (fun u t H locs ht hvm hw hB hz1 hk1 hS => ?_)
      obtain ⟨hP1, hD1⟩ := hB
      rw [ht] at hP1
      obtain ⟨hP, hD⟩ := va_join (wr := [(h 0, .inr (0, [.ref (h 1), .ref (h 2), .ref (h 3), .ref (h 4), .ref (h 5), .ref (h 6), .int (nI g), .int (nI r), .int inf, .int (nI ct)])), (h 2, .inl (kc 2, 30, .inl f2)), (h 3, .inl (kc 3, 20, .inl dr)), (h 4, .inl (kc 4, 20, .inl cl)), (h 5, .inl (kc 5, 20, .inl tr)), (h 6, .inl (kc 6, 1024, .inl se))]) (w1 := ([((h 1), .inl ((kc 1), 30, .inl (gPut 30 f1 (nI r) (nI wa))))])) hP hD [1] [0, 2, 3, 4, 5, 6] rfl rfl (by decide) (by decide) hk1 hFc hP1 hD1
      have hP : va_P (dC, dI) vwCl (gcW h kc (gPut 30 f1 (nI r) (nI wa)) f2 dr cl tr se (nI g) (nI r) inf (nI ct)) H := hP.sub [0, 6, 1, 2, 3, 4, 5] rfl
      have hD : va_D A (gcW h kc (gPut 30 f1 (nI r) (nI wa)) f2 dr cl tr se (nI g) (nI r) inf (nI ct)) := hD.sub [0, 6, 1, 2, 3, 4, 5] (by decide) rfl
      clear hz1 hk1 ht hvm hP1 hD1 hFc hDc
      clear hPc hKc
      refine lv_aload_n hx hb dX0_rule_54 rfl (lv_at hl 1 rfl) ?_
      refine va_get (D := (dC, dI)) (ci := 0) (v := .ref (h 2)) (C := RX0) (T := TX0) (N := 10) hx hb hts hin0 hown hK hP 0 rfl rfl 1 (by decide) (hts (.fieldLink RX0 13 "GuestChairs" "seconds" "[I") (by decide +kernel)) (fun _ h9 => h9) rfl dX0_rule_55 ?_
      refine lv_iload_n hx hb dX0_rule_58 rfl (lv_at hl 0 rfl) ?_
      refine lv_iload_n hx hb dX0_rule_59 rfl (lv_at hl 3 rfl) ?_
      have hPc : va_P (dC, dI) vwCl ([((h 2), .inl ((kc 2), 30, .inl f2))]) _ := hP.sub [2] rfl
      have hKc : va_K (dC, dI) vwCl ([((kc 2), .int)]) s := hK.sub [1] rfl
      have hDc : va_D A ([((h 2), .inl ((kc 2), 30, .inl f2))]) := hD.sub [2] (by decide) rfl
      have hFc := va_free (wc := ([((h 2), .inl ((kc 2), 30, .inl f2))])) hD hS hA [2] rfl
      refine va_callv (va_runS (As := [.ref (h 2), .int (nI r), .int (nI wb)]) (rest := []) ⟨hx, hb, hml, hown, hts⟩ (c_X0_put l dC dI (h 2) (kc 2) 30 f2 (nI r) (nI wb) H.size (by decide)) (va_cwS 3 hts gX0_rule_X0_put rfl rfl rfl (by decide +kernel) ⟨Nat.le_of_ble_eq_true rfl, Nat.le_of_ble_eq_true rfl⟩) ⟨gcPM_blind, fun U hU hW => ⟨rfl, by rw [hU], by rw [hU]; exact hPc, va_K.moved hW.alike hKc, hDc.weaken (fun _ _ _ _ => trivial)⟩⟩ rfl rfl hl.1 rfl (lv_room (Nat.le_of_ble_eq_true rfl)) dX0_rule_60 ⟨Nat.zero_le _, Nat.zero_le _⟩) hS (fun q _ h => hFc q h) hFc (fun u t H locs ht hvm hw hB hz1 hk1 hS => ?_)
      obtain ⟨hP1, hD1⟩ := hB
      rw [ht] at hP1
      obtain ⟨hP, hD⟩ := va_join (wr := [(h 0, .inr (0, [.ref (h 1), .ref (h 2), .ref (h 3), .ref (h 4), .ref (h 5), .ref (h 6), .int (nI g), .int (nI r), .int inf, .int (nI ct)])), (h 1, .inl (kc 1, 30, .inl (gPut 30 f1 (nI r) (nI wa)))), (h 3, .inl (kc 3, 20, .inl dr)), (h 4, .inl (kc 4, 20, .inl cl)), (h 5, .inl (kc 5, 20, .inl tr)), (h 6, .inl (kc 6, 1024, .inl se))]) (w1 := ([((h 2), .inl ((kc 2), 30, .inl (gPut 30 f2 (nI r) (nI wb))))])) hP hD [2] [0, 1, 3, 4, 5, 6] rfl rfl (by decide) (by decide) hk1 hFc hP1 hD1
      have hP : va_P (dC, dI) vwCl (gcW h kc (gPut 30 f1 (nI r) (nI wa)) (gPut 30 f2 (nI r) (nI wb)) dr cl tr se (nI g) (nI r) inf (nI ct)) H := hP.sub [0, 1, 6, 2, 3, 4, 5] rfl
      have hD : va_D A (gcW h kc (gPut 30 f1 (nI r) (nI wa)) (gPut 30 f2 (nI r) (nI wb)) dr cl tr se (nI g) (nI r) inf (nI ct)) := hD.sub [0, 1, 6, 2, 3, 4, 5] (by decide) rfl
      clear hz1 hk1 ht hvm hP1 hD1 hFc hDc
      clear hPc hKc
      refine lv_aload_n hx hb dX0_rule_63 rfl (lv_at hl 1 rfl) ?_
      refine lv_dup hx hb dX0_rule_64 rfl ?_
      refine va_get (D := (dC, dI)) (ci := 0) (v := .int inf) (C := RX0) (T := TX0) (N := 10) hx hb hts hin0 hown hK hP 0 rfl rfl 8 (by decide) (hts (.fieldLink RX0 60 "GuestChairs" "inForce" "I") (by decide +kernel)) (fun _ h9 => h9) rfl dX0_rule_65 ?_
      refine lv_iconst (v := 1) hx hb dX0_rule_68 (by decide) ?_
      refine lv_iload_n hx hb dX0_rule_69 rfl (lv_at hl 0 rfl) ?_
      refine lv_ishl hx hb dX0_rule_70 ?_
      refine lv_ior hx hb dX0_rule_71 ?_
      refine va_put (D := (dC, dI)) (ci := 0) (v := .int (inf ||| ((1 : Int32) <<< (nI r &&& 31)))) (ty := .int) (C := RX0) (T := TX0) (N := 10) hx hb hts hin0 tyX0 tyX0_ok nmX0 hown hK hP hD hS 0 rfl rfl 8 (by decide) (hts (.fieldLink RX0 60 "GuestChairs" "inForce" "I") (by decide +kernel)) (fun _ h9 => h9) rfl (by decide +kernel) rfl rfl (Nat.le_of_ble_eq_true rfl) dX0_rule_72 (fun H locs hP hD hS => ?_)
      have hP : va_P (dC, dI) vwCl (gcW h kc (gPut 30 f1 (nI r) (nI wa)) (gPut 30 f2 (nI r) (nI wb)) dr cl tr se (nI g) (nI r) (inf ||| ((1 : Int32) <<< (nI r &&& 31))) (nI ct)) H := hP
      have hD : va_D A (gcW h kc (gPut 30 f1 (nI r) (nI wa)) (gPut 30 f2 (nI r) (nI wb)) dr cl tr se (nI g) (nI r) (inf ||| ((1 : Int32) <<< (nI r &&& 31))) (nI ct)) := hD
      refine lv_aload_n hx hb dX0_rule_75 rfl (lv_at hl 1 rfl) ?_
      refine lv_dup hx hb dX0_rule_76 rfl ?_
      refine va_get (D := (dC, dI)) (ci := 0) (v := .int (nI r)) (C := RX0) (T := TX0) (N := 10) hx hb hts hin0 hown hK hP 0 rfl rfl 7 (by decide) (hts (.fieldLink RX0 51 "GuestChairs" "ruleCount" "I") (by decide +kernel)) (fun _ h9 => h9) rfl dX0_rule_77 ?_
      refine lv_iconst (v := 1) hx hb dX0_rule_80 (by decide) ?_
      refine lv_iadd hx hb dX0_rule_81 ?_
      refine gc_topi (y := nI (r + 1)) (nI_1 r) ?_
      refine va_put (D := (dC, dI)) (ci := 0) (v := .int (nI (r + 1))) (ty := .int) (C := RX0) (T := TX0) (N := 10) hx hb hts hin0 tyX0 tyX0_ok nmX0 hown hK hP hD hS 0 rfl rfl 7 (by decide) (hts (.fieldLink RX0 51 "GuestChairs" "ruleCount" "I") (by decide +kernel)) (fun _ h9 => h9) rfl (by decide +kernel) rfl rfl (Nat.le_of_ble_eq_true rfl) dX0_rule_82 (fun H locs hP hD hS => ?_)
      have hP : va_P (dC, dI) vwCl (gcW h kc (gPut 30 f1 (nI r) (nI wa)) (gPut 30 f2 (nI r) (nI wb)) dr cl tr se (nI g) (nI (r + 1)) (inf ||| ((1 : Int32) <<< (nI r &&& 31))) (nI ct)) H := hP
      have hD : va_D A (gcW h kc (gPut 30 f1 (nI r) (nI wa)) (gPut 30 f2 (nI r) (nI wb)) dr cl tr se (nI g) (nI (r + 1)) (inf ||| ((1 : Int32) <<< (nI r &&& 31))) (nI ct)) := hD
      refine lv_aload_n hx hb dX0_rule_85 rfl (lv_at hl 1 rfl) ?_
      have hPc : va_P (dC, dI) vwCl (gcW h kc (gPut 30 f1 (nI r) (nI wa)) (gPut 30 f2 (nI r) (nI wb)) dr cl tr se (nI g) (nI (r + 1)) (inf ||| ((1 : Int32) <<< (nI r &&& 31))) (nI ct)) _ := hP.sub [0, 1, 2, 3, 4, 5, 6] rfl
      have hKc : va_K (dC, dI) vwCl (gcT kc) s := hK.sub [0, 1, 2, 3, 4, 5] rfl
      have hDc : va_D A (gcW h kc (gPut 30 f1 (nI r) (nI wa)) (gPut 30 f2 (nI r) (nI wb)) dr cl tr se (nI g) (nI (r + 1)) (inf ||| ((1 : Int32) <<< (nI r &&& 31))) (nI ct)) := hD.sub [0, 1, 2, 3, 4, 5, 6] (by decide) rfl
      have hFc := va_free (wc := (gcW h kc (gPut 30 f1 (nI r) (nI wa)) (gPut 30 f2 (nI r) (nI wb)) dr cl tr se (nI g) (nI (r + 1)) (inf ||| ((1 : Int32) <<< (nI r &&& 31))) (nI ct))) hD hS hA [0, 1, 2, 3, 4, 5, 6] rfl
      refine va_callv (va_runV (As := []) (rest := []) ⟨hx, hb, hml, hown, hts⟩ (c_X0_refresh l dC dI h kc (gPut 30 f1 (nI r) (nI wa)) (gPut 30 f2 (nI r) (nI wb)) dr cl tr se g (r + 1) (inf ||| ((1 : Int32) <<< (nI r &&& 31))) ct H.size (by first | assumption | omega) (by first | assumption | omega)) (cwV 0 hts gX0_rule_X0_refresh rfl rfl rfl (by decide +kernel) ⟨Nat.le_of_ble_eq_true rfl, Nat.le_of_ble_eq_true rfl⟩) ⟨gcPM_blind, va_recv hK hP (ci := 0) (q0 := 0) rfl rfl, fun U hU hW => ⟨rfl, by rw [hU], by rw [hU]; exact hPc, va_K.moved hW.alike hKc, hDc.weaken (fun _ _ _ _ => trivial)⟩⟩ rfl rfl hl.1 rfl (lv_room (Nat.le_of_ble_eq_true rfl)) dX0_rule_86 ⟨Nat.zero_le _, Nat.zero_le _⟩) hS (fun q _ h => hFc q h) hFc (fun u t H locs ht hvm hw hB hz1 hk1 hS => ?_)
      obtain ⟨hP1, hD1⟩ := hB
      rw [ht] at hP1
      obtain ⟨hP, hD⟩ := va_join (wr := []) (w1 := (gcW h kc (gPut 30 f1 (nI r) (nI wa)) (gPut 30 f2 (nI r) (nI wb)) (gLA (gPut 30 f1 (nI r) (nI wa)) (gPut 30 f2 (nI r) (nI wb)) (inf ||| ((1 : Int32) <<< (nI r &&& 31))) (-1) (r + 1) dr) (gCl (gLA (gPut 30 f1 (nI r) (nI wa)) (gPut 30 f2 (nI r) (nI wb)) (inf ||| ((1 : Int32) <<< (nI r &&& 31))) (-1) (r + 1) cl) 20) tr ((gLs (gCl (gLA (gPut 30 f1 (nI r) (nI wa)) (gPut 30 f2 (nI r) (nI wb)) (inf ||| ((1 : Int32) <<< (nI r &&& 31))) (-1) (r + 1) cl) 20) se g g).1) (nI g) (nI (r + 1)) (inf ||| ((1 : Int32) <<< (nI r &&& 31))) (nI (gLs (gCl (gLA (gPut 30 f1 (nI r) (nI wa)) (gPut 30 f2 (nI r) (nI wb)) (inf ||| ((1 : Int32) <<< (nI r &&& 31))) (-1) (r + 1) cl) 20) se g g).2))) hP hD [0, 1, 2, 3, 4, 5, 6] [] rfl rfl (by decide) (by decide) hk1 hFc hP1 hD1
      have hP : va_P (dC, dI) vwCl (gcW h kc (gPut 30 f1 (nI r) (nI wa)) (gPut 30 f2 (nI r) (nI wb)) (gLA (gPut 30 f1 (nI r) (nI wa)) (gPut 30 f2 (nI r) (nI wb)) (inf ||| ((1 : Int32) <<< (nI r &&& 31))) (-1) (r + 1) dr) (gCl (gLA (gPut 30 f1 (nI r) (nI wa)) (gPut 30 f2 (nI r) (nI wb)) (inf ||| ((1 : Int32) <<< (nI r &&& 31))) (-1) (r + 1) cl) 20) tr ((gLs (gCl (gLA (gPut 30 f1 (nI r) (nI wa)) (gPut 30 f2 (nI r) (nI wb)) (inf ||| ((1 : Int32) <<< (nI r &&& 31))) (-1) (r + 1) cl) 20) se g g).1) (nI g) (nI (r + 1)) (inf ||| ((1 : Int32) <<< (nI r &&& 31))) (nI (gLs (gCl (gLA (gPut 30 f1 (nI r) (nI wa)) (gPut 30 f2 (nI r) (nI wb)) (inf ||| ((1 : Int32) <<< (nI r &&& 31))) (-1) (r + 1) cl) 20) se g g).2)) H := hP.sub [0, 1, 2, 3, 4, 5, 6] rfl
      have hD : va_D A (gcW h kc (gPut 30 f1 (nI r) (nI wa)) (gPut 30 f2 (nI r) (nI wb)) (gLA (gPut 30 f1 (nI r) (nI wa)) (gPut 30 f2 (nI r) (nI wb)) (inf ||| ((1 : Int32) <<< (nI r &&& 31))) (-1) (r + 1) dr) (gCl (gLA (gPut 30 f1 (nI r) (nI wa)) (gPut 30 f2 (nI r) (nI wb)) (inf ||| ((1 : Int32) <<< (nI r &&& 31))) (-1) (r + 1) cl) 20) tr ((gLs (gCl (gLA (gPut 30 f1 (nI r) (nI wa)) (gPut 30 f2 (nI r) (nI wb)) (inf ||| ((1 : Int32) <<< (nI r &&& 31))) (-1) (r + 1) cl) 20) se g g).1) (nI g) (nI (r + 1)) (inf ||| ((1 : Int32) <<< (nI r &&& 31))) (nI (gLs (gCl (gLA (gPut 30 f1 (nI r) (nI wa)) (gPut 30 f2 (nI r) (nI wb)) (inf ||| ((1 : Int32) <<< (nI r &&& 31))) (-1) (r + 1) cl) 20) se g g).2)) := hD.sub [0, 1, 2, 3, 4, 5, 6] (by decide) rfl
      clear hz1 hk1 ht hvm hP1 hD1 hFc hDc
      clear hPc hKc
      refine lv_iload_n hx hb dX0_rule_89 rfl (lv_at hl 0 rfl) ?_
      have hpost : (nI r) = nI r := by first | rfl | assumption
      exact W.iret (v := nI r) hx hb hr (fun t ht hW => ⟨⟨nI r, (), rfl, hpost, ⟨by rw [ht]; exact hP, hD⟩⟩, hS.F ht⟩) hS.2.2 dX0_rule_90
    · skip
      exact absurd ((nI_ltI (b := 30) (by omega) (by omega)).mpr hr9) c_27
  · skip
    exact absurd ((nI_eq (by omega) (by omega)).mp c_8) hne
set_option maxHeartbeats 4000000 in
set_option maxRecDepth 100000 in
theorem c_X0_turn (l : Launch) (dC : Nat → ClassId) (dI : Nat → Nat → Nat) (h : Nat → Nat) (kc : Nat → ClassId) (f1 : Nat → Int32) (f2 : Nat → Int32) (dr : Nat → Int32) (cl : Nat → Int32) (tr : Nat → Int32) (se : Nat → Int32) (g : Nat) (r : Nat) (inf : Int32) (ct : Nat) (x : Nat) (sz : Nat) (hg : g ≤ 10) (hr30 : r ≤ 30) (hx2 : x < r) : Met l yX0_turn wsX0_turn ({ frames := 6, cells := 0, slots := 0, locals := 127 }) (gcPM (dC, dI) [.ref (h 0), .int (nI x)] (gcW h kc f1 f2 dr cl tr se (nI g) (nI r) inf (nI ct)) (gcT kc) sz) (va_Qi (fun (rv : Int32) (_u : Unit) => rv = gB (gHas (inf ^^^ ((1 : Int32) <<< (nI x &&& 31))) (nI x))) (fun _u t9 => va_P (dC, dI) vwCl (gcW h kc f1 f2 (gLA f1 f2 (inf ^^^ ((1 : Int32) <<< (nI x &&& 31))) (-1) r dr) (gCl (gLA f1 f2 (inf ^^^ ((1 : Int32) <<< (nI x &&& 31))) (-1) r cl) 20) tr ((gLs (gCl (gLA f1 f2 (inf ^^^ ((1 : Int32) <<< (nI x &&& 31))) (-1) r cl) 20) se g g).1) (nI g) (nI r) (inf ^^^ ((1 : Int32) <<< (nI x &&& 31))) (nI (gLs (gCl (gLA f1 f2 (inf ^^^ ((1 : Int32) <<< (nI x &&& 31))) (-1) r cl) 20) se g g).2)) t9.heap ∧ va_D (va_A (gcW h kc f1 f2 dr cl tr se (nI g) (nI r) inf (nI ct)) sz) (gcW h kc f1 f2 (gLA f1 f2 (inf ^^^ ((1 : Int32) <<< (nI x &&& 31))) (-1) r dr) (gCl (gLA f1 f2 (inf ^^^ ((1 : Int32) <<< (nI x &&& 31))) (-1) r cl) 20) tr ((gLs (gCl (gLA f1 f2 (inf ^^^ ((1 : Int32) <<< (nI x &&& 31))) (-1) r cl) 20) se g g).1) (nI g) (nI r) (inf ^^^ ((1 : Int32) <<< (nI x &&& 31))) (nI (gLs (gCl (gLA f1 f2 (inf ^^^ ((1 : Int32) <<< (nI x &&& 31))) (-1) r cl) 20) se g g).2))) (va_A (gcW h kc f1 f2 dr cl tr se (nI g) (nI r) inf (nI ct)) sz)) 0 0 (va_A (gcW h kc f1 f2 dr cl tr se (nI g) (nI r) inf (nI ct)) sz) := by
  refine Met.ofW (cc := cX0_turn) (maxL := 2) (ret := (some .boolean)) (by decide) rfl ?_
  intro p e s m args below meth c s₁ B hml hv
  obtain ⟨rfl, hsz, hP, hK, hD0⟩ := hv
  have hx := B.exec
  have hb := B.bytes
  have hr := B.returns
  have hts := atoms_spec (ws := wsX0_turn) B.pre
  have hown : s.vm.findClass RX0 = some m.cls := findClass_of_methodNamed B.named
  have hlocks := B.notSynchronized
  subst hsz
  have hD := hD0.self (sz := s.heap.size)
  generalize hAe : va_A (gcW h kc f1 f2 dr cl tr se (nI g) (nI r) inf (nI ct)) s.heap.size = A at hD ⊢
  have hA : ∀ q : Nat, s.heap.size ≤ q → A q := fun q h => by rw [← hAe]; exact Or.inr h
  have hS : va_S A s.heap s.heap [] := va_S.rf
  have hP : va_P (dC, dI) vwCl (gcW h kc f1 f2 dr cl tr se (nI g) (nI r) inf (nI ct)) s.heap := hP
  have hin0 : ∀ w ∈ wsX00, w ∈ wsX0_turn := by decide +kernel
  have hl := lv_entry [.ref (h 0), .int (nI x)] (n := 2) (Nat.le_of_ble_eq_true rfl)
  rw [lg_entry_eq]
  generalize (lg_sl [.ref (h 0), .int (nI x)] ++ List.replicate (2 - (lg_sl [.ref (h 0), .int (nI x)]).length) Slot.unset).toArray = ls at hl ⊢
  have hl : lv_has ls 2 [(0, .ref (h 0)), (1, .int (nI x))] := hl
  refine lv_aload_n hx hb dX0_turn_0 rfl (lv_at hl 0 rfl) ?_
  refine lv_iload_n hx hb dX0_turn_1 rfl (lv_at hl 1 rfl) ?_
  have hPc : va_P (dC, dI) vwCl (gcW h kc f1 f2 dr cl tr se (nI g) (nI r) inf (nI ct)) _ := hP.sub [0, 1, 2, 3, 4, 5, 6] rfl
  have hKc : va_K (dC, dI) vwCl (gcT kc) s := hK.sub [0, 1, 2, 3, 4, 5] rfl
  refine va_callv (va_runV (As := [.int (nI x)]) (rest := []) ⟨hx, hb, hml, hown, hts⟩ (c_X0_requireRule l dC dI h kc f1 f2 dr cl tr se g r inf ct x (by first | assumption | omega) (by first | assumption | omega)) (cwV 1 hts gX0_turn_X0_requireRule rfl rfl rfl (by decide +kernel) ⟨Nat.le_of_ble_eq_true rfl, Nat.le_of_ble_eq_true rfl⟩) ⟨gcPR_blind, va_recv hK hP (ci := 0) (q0 := 0) rfl rfl, fun U hU hW => ⟨rfl, by rw [hU]; exact hPc, va_K.moved hW.alike hKc⟩⟩ rfl rfl hl.1 rfl (lv_room (Nat.le_of_ble_eq_true rfl)) dX0_turn_2 ⟨Nat.zero_le _, Nat.zero_le _⟩) hS (fun q _ h => h.elim) (fun q h => h.elim) (fun u t H locs ht hvm hw hB hz1 hk1 hS => ?_)
  have hP := gc_keep hP hk1
  clear hB hz1 hk1 ht hvm
  clear hPc hKc
  refine lv_aload_n hx hb dX0_turn_5 rfl (lv_at hl 0 rfl) ?_
  refine lv_dup hx hb dX0_turn_6 rfl ?_
  refine va_get (D := (dC, dI)) (ci := 0) (v := .int inf) (C := RX0) (T := TX0) (N := 10) hx hb hts hin0 hown hK hP 0 rfl rfl 8 (by decide) (hts (.fieldLink RX0 60 "GuestChairs" "inForce" "I") (by decide +kernel)) (fun _ h9 => h9) rfl dX0_turn_7 ?_
  refine lv_iconst (v := 1) hx hb dX0_turn_10 (by decide) ?_
  refine lv_iload_n hx hb dX0_turn_11 rfl (lv_at hl 1 rfl) ?_
  refine lv_ishl hx hb dX0_turn_12 ?_
  refine lv_ixor hx hb dX0_turn_13 ?_
  refine va_put (D := (dC, dI)) (ci := 0) (v := .int (inf ^^^ ((1 : Int32) <<< (nI x &&& 31)))) (ty := .int) (C := RX0) (T := TX0) (N := 10) hx hb hts hin0 tyX0 tyX0_ok nmX0 hown hK hP hD hS 0 rfl rfl 8 (by decide) (hts (.fieldLink RX0 60 "GuestChairs" "inForce" "I") (by decide +kernel)) (fun _ h9 => h9) rfl (by decide +kernel) rfl rfl (Nat.le_of_ble_eq_true rfl) dX0_turn_14 (fun H locs hP hD hS => ?_)
  have hP : va_P (dC, dI) vwCl (gcW h kc f1 f2 dr cl tr se (nI g) (nI r) (inf ^^^ ((1 : Int32) <<< (nI x &&& 31))) (nI ct)) H := hP
  have hD : va_D A (gcW h kc f1 f2 dr cl tr se (nI g) (nI r) (inf ^^^ ((1 : Int32) <<< (nI x &&& 31))) (nI ct)) := hD
  refine lv_aload_n hx hb dX0_turn_17 rfl (lv_at hl 0 rfl) ?_
  have hPc : va_P (dC, dI) vwCl (gcW h kc f1 f2 dr cl tr se (nI g) (nI r) (inf ^^^ ((1 : Int32) <<< (nI x &&& 31))) (nI ct)) _ := hP.sub [0, 1, 2, 3, 4, 5, 6] rfl
  have hKc : va_K (dC, dI) vwCl (gcT kc) s := hK.sub [0, 1, 2, 3, 4, 5] rfl
  have hDc : va_D A (gcW h kc f1 f2 dr cl tr se (nI g) (nI r) (inf ^^^ ((1 : Int32) <<< (nI x &&& 31))) (nI ct)) := hD.sub [0, 1, 2, 3, 4, 5, 6] (by decide) rfl
  have hFc := va_free (wc := (gcW h kc f1 f2 dr cl tr se (nI g) (nI r) (inf ^^^ ((1 : Int32) <<< (nI x &&& 31))) (nI ct))) hD hS hA [0, 1, 2, 3, 4, 5, 6] rfl
  refine va_callv (va_runV (As := []) (rest := []) ⟨hx, hb, hml, hown, hts⟩ (c_X0_refresh l dC dI h kc f1 f2 dr cl tr se g r (inf ^^^ ((1 : Int32) <<< (nI x &&& 31))) ct H.size (by first | assumption | omega) (by first | assumption | omega)) (cwV 0 hts gX0_turn_X0_refresh rfl rfl rfl (by decide +kernel) ⟨Nat.le_of_ble_eq_true rfl, Nat.le_of_ble_eq_true rfl⟩) ⟨gcPM_blind, va_recv hK hP (ci := 0) (q0 := 0) rfl rfl, fun U hU hW => ⟨rfl, by rw [hU], by rw [hU]; exact hPc, va_K.moved hW.alike hKc, hDc.weaken (fun _ _ _ _ => trivial)⟩⟩ rfl rfl hl.1 rfl (lv_room (Nat.le_of_ble_eq_true rfl)) dX0_turn_18 ⟨Nat.zero_le _, Nat.zero_le _⟩) hS (fun q _ h => hFc q h) hFc (fun u t H locs ht hvm hw hB hz1 hk1 hS => ?_)
  obtain ⟨hP1, hD1⟩ := hB
  rw [ht] at hP1
  obtain ⟨hP, hD⟩ := va_join (wr := []) (w1 := (gcW h kc f1 f2 (gLA f1 f2 (inf ^^^ ((1 : Int32) <<< (nI x &&& 31))) (-1) r dr) (gCl (gLA f1 f2 (inf ^^^ ((1 : Int32) <<< (nI x &&& 31))) (-1) r cl) 20) tr ((gLs (gCl (gLA f1 f2 (inf ^^^ ((1 : Int32) <<< (nI x &&& 31))) (-1) r cl) 20) se g g).1) (nI g) (nI r) (inf ^^^ ((1 : Int32) <<< (nI x &&& 31))) (nI (gLs (gCl (gLA f1 f2 (inf ^^^ ((1 : Int32) <<< (nI x &&& 31))) (-1) r cl) 20) se g g).2))) hP hD [0, 1, 2, 3, 4, 5, 6] [] rfl rfl (by decide) (by decide) hk1 hFc hP1 hD1
  have hP : va_P (dC, dI) vwCl (gcW h kc f1 f2 (gLA f1 f2 (inf ^^^ ((1 : Int32) <<< (nI x &&& 31))) (-1) r dr) (gCl (gLA f1 f2 (inf ^^^ ((1 : Int32) <<< (nI x &&& 31))) (-1) r cl) 20) tr ((gLs (gCl (gLA f1 f2 (inf ^^^ ((1 : Int32) <<< (nI x &&& 31))) (-1) r cl) 20) se g g).1) (nI g) (nI r) (inf ^^^ ((1 : Int32) <<< (nI x &&& 31))) (nI (gLs (gCl (gLA f1 f2 (inf ^^^ ((1 : Int32) <<< (nI x &&& 31))) (-1) r cl) 20) se g g).2)) H := hP.sub [0, 1, 2, 3, 4, 5, 6] rfl
  have hD : va_D A (gcW h kc f1 f2 (gLA f1 f2 (inf ^^^ ((1 : Int32) <<< (nI x &&& 31))) (-1) r dr) (gCl (gLA f1 f2 (inf ^^^ ((1 : Int32) <<< (nI x &&& 31))) (-1) r cl) 20) tr ((gLs (gCl (gLA f1 f2 (inf ^^^ ((1 : Int32) <<< (nI x &&& 31))) (-1) r cl) 20) se g g).1) (nI g) (nI r) (inf ^^^ ((1 : Int32) <<< (nI x &&& 31))) (nI (gLs (gCl (gLA f1 f2 (inf ^^^ ((1 : Int32) <<< (nI x &&& 31))) (-1) r cl) 20) se g g).2)) := hD.sub [0, 1, 2, 3, 4, 5, 6] (by decide) rfl
  clear hz1 hk1 ht hvm hP1 hD1 hFc hDc
  clear hPc hKc
  refine lv_aload_n hx hb dX0_turn_21 rfl (lv_at hl 0 rfl) ?_
  refine va_get (D := (dC, dI)) (ci := 0) (v := .int (inf ^^^ ((1 : Int32) <<< (nI x &&& 31)))) (C := RX0) (T := TX0) (N := 10) hx hb hts hin0 hown hK hP 0 rfl rfl 8 (by decide) (hts (.fieldLink RX0 60 "GuestChairs" "inForce" "I") (by decide +kernel)) (fun _ h9 => h9) rfl dX0_turn_22 ?_
  refine lv_iload_n hx hb dX0_turn_25 rfl (lv_at hl 1 rfl) ?_
  refine va_calli (va_runS (As := [.int (inf ^^^ ((1 : Int32) <<< (nI x &&& 31))), .int (nI x)]) (rest := []) ⟨hx, hb, hml, hown, hts⟩ (c_X0_has l (inf ^^^ ((1 : Int32) <<< (nI x &&& 31))) (nI x)) (va_cwS 2 hts gX0_turn_X0_has rfl rfl rfl (by decide +kernel) ⟨Nat.le_of_ble_eq_true rfl, Nat.le_of_ble_eq_true rfl⟩) ⟨fun a U g mk q => q, fun U hU hW => ⟨rfl, trivial⟩⟩ rfl rfl hl.1 rfl (lv_room (Nat.le_of_ble_eq_true rfl)) dX0_turn_26 ⟨Nat.zero_le _, Nat.zero_le _⟩) hS (fun q _ h => h.elim) (fun q h => h.elim) (fun r3 u t H locs ht hvm hw hB hz1 hk1 hS => ?_)
  have hP := gc_keep hP hk1
  have hw : r3 = gB (gHas (inf ^^^ ((1 : Int32) <<< (nI x &&& 31))) (nI x)) := hw
  subst hw
  clear hw
  clear hB hz1 hk1 ht hvm
  have hpost : (gB (gHas (inf ^^^ ((1 : Int32) <<< (nI x &&& 31))) (nI x))) = gB (gHas (inf ^^^ ((1 : Int32) <<< (nI x &&& 31))) (nI x)) := by first | rfl | assumption
  exact W.zret (ty := .boolean) (v := gB (gHas (inf ^^^ ((1 : Int32) <<< (nI x &&& 31))) (nI x))) hx hb hr (by first | rfl | decide | exact gB_nar _) (fun t ht hW => ⟨⟨gB (gHas (inf ^^^ ((1 : Int32) <<< (nI x &&& 31))) (nI x)), (), rfl, hpost, ⟨by rw [ht]; exact hP, hD⟩⟩, hS.F ht⟩) hS.2.2 dX0_turn_29
