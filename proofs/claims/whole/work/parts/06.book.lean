/-! THE BOOK'S OWN METHODS, in words of its rows. -/
def gCT (f : Nat → Int32) : Nat → Int32
  | 0 => 0
  | i + 1 => gCT f i + gB (gTorn 20 f (nI i))
def gCV (f : Nat → Int32) : Nat → Int32
  | 0 => 0
  | i + 1 => gCV f i + gB (gVain 20 f (nI i))
def gCP (f : Nat → Int32) : Nat → Int32
  | 0 => 0
  | i + 1 => gCP f i + (gBC (gAt 20 f (nI i)) - 1)
def gOS (dr : Nat → Int32) (x : Int32) : Nat → Int32
  | 0 => x
  | i + 1 => if gHas x (nI i) = true then gOS dr x i ||| gAt 20 dr (nI i) else gOS dr x i
def gGB (cl : Nat → Int32) (x : Int32) : Nat → Int32
  | 0 => 0
  | i + 1 => if gHas (gAt 20 cl x) (nI i) = true ∧ gHas (gAt 20 cl (nI i)) x = true then gGB cl x i ||| (1 <<< ((nI i >>> (1 &&& 31)) &&& 31)) else gGB cl x i
def gGC (x : Int32) : Nat → Int32
  | 0 => 0
  | i + 1 => if gHas x (2 * nI i) = true then gGC x i ||| (1 <<< (nI i &&& 31)) else gGC x i
def gIn (f : Nat → Int32) : Nat → (Nat → Int32)
  | 0 => f
  | i + 1 => upd (gIn f i) i (1 <<< (nI i &&& 31))
def gLk (f1 f2 : Nat → Int32) (inf left : Int32) (f : Nat → Int32) : Nat → (Nat → Int32)
  | 0 => f
  | i + 1 => if nI i = left then gLk f1 f2 inf left f i else if gHas inf (nI i) = true then gLink 20 (gLink 20 (gLk f1 f2 inf left f i) (gAt 30 f1 (nI i)) (gAt 30 f2 (nI i))) (gAt 30 f2 (nI i) ^^^ 1) (gAt 30 f1 (nI i) ^^^ 1) else gLk f1 f2 inf left f i
def gLA (f1 f2 : Nat → Int32) (inf left : Int32) (r : Nat) (f : Nat → Int32) : Nat → Int32 := gLk f1 f2 inf left (gIn f 20) r
def gFt (cl : Nat → Int32) (g : Nat) : Bool := decide (gCT cl g = 0)
def gF0 (cl : Nat → Int32) (g : Nat) : Nat := if gFt cl g = true then 1 else 0
/-- the seatings' row and how many, after i of them were settled for the wish co -/
def gSt (cl : Nat → Int32) (co : Int32) (se : Nat → Int32) (c : Nat) : Nat → (Nat → Int32) × Nat
  | 0 => (se, c)
  | i + 1 =>
    if gHas (gAt 1024 (gSt cl co se c i).1 (nI i)) co = true ∨ gHas (gAt 1024 (gSt cl co se c i).1 (nI i)) (co ^^^ 1) = true then gSt cl co se c i
    else if gVain 20 cl co = true then (gPut 1024 (gSt cl co se c i).1 (nI i) (gAt 1024 (gSt cl co se c i).1 (nI i) ||| gAt 20 cl (co ^^^ 1)), (gSt cl co se c i).2)
    else if gVain 20 cl (co ^^^ 1) = true then (gPut 1024 (gSt cl co se c i).1 (nI i) (gAt 1024 (gSt cl co se c i).1 (nI i) ||| gAt 20 cl co), (gSt cl co se c i).2)
    else (gPut 1024 (gPut 1024 (gSt cl co se c i).1 (nI i) (gAt 1024 (gSt cl co se c i).1 (nI i) ||| gAt 20 cl co)) (nI (gSt cl co se c i).2) (gAt 1024 (gSt cl co se c i).1 (nI i) ||| gAt 20 cl (co ^^^ 1)), (gSt cl co se c i).2 + 1)
def gLs (cl se : Nat → Int32) (g : Nat) : Nat → (Nat → Int32) × Nat
  | 0 => (gPut 1024 se 0 0, gF0 cl g)
  | i + 1 => gSt cl (2 * nI i) (gLs cl se g i).1 (gLs cl se g i).2 (gLs cl se g i).2
theorem gSt_le (cl : Nat → Int32) (co : Int32) (se : Nat → Int32) (c : Nat) : ∀ i, (gSt cl co se c i).2 ≤ c + i
  | 0 => Nat.le_refl _
  | i + 1 => by
    have h := gSt_le cl co se c i
    simp only [gSt]
    split
    · omega
    · split
      · show (gSt cl co se c i).2 ≤ _; omega
      · split
        · show (gSt cl co se c i).2 ≤ _; omega
        · show (gSt cl co se c i).2 + 1 ≤ _; omega
theorem gLs_le (cl se : Nat → Int32) (g : Nat) : ∀ i, (gLs cl se g i).2 ≤ 2 ^ i
  | 0 => by simp only [gLs, gF0]; split <;> omega
  | i + 1 => by
    have h := gLs_le cl se g i
    have h2 := gSt_le cl (2 * nI i) (gLs cl se g i).1 (gLs cl se g i).2 (gLs cl se g i).2
    simp only [gLs]
    rw [Nat.pow_succ]
    omega
theorem gLs_le' (cl se : Nat → Int32) (g : Nat) {i : Nat} (h : i ≤ 10) : (gLs cl se g i).2 ≤ 1024 :=
  Nat.le_trans (gLs_le cl se g i) (Nat.pow_le_pow_right (by decide) h)
theorem gF0_eq (cl : Nat → Int32) (g : Nat) : gB (gFt cl g) = nI (gF0 cl g) := by
  simp only [gB, gF0]; split <;> rfl
def gFe (se : Nat → Int32) : Nat → Int32
  | 0 => -1
  | i + 1 => if nI i = 0 ∨ gBC (gAt 1024 se (nI i) &&& 349525) < gFe se i then gBC (gAt 1024 se (nI i) &&& 349525) else gFe se i
def gMo (se : Nat → Int32) : Nat → Int32
  | 0 => -1
  | i + 1 => if gMo se i < gBC (gAt 1024 se (nI i) &&& 349525) then gBC (gAt 1024 se (nI i) &&& 349525) else gMo se i
def gSu (se : Nat → Int32) : Nat → Int32
  | 0 => 0
  | i + 1 => gSu se i + gBC (gAt 1024 se (nI i) &&& 349525)
def gTi (se : Nat → Int32) (a b : Int32) : Nat → Nat
  | 0 => 0
  | i + 1 => if gHas (gAt 1024 se (nI i)) a = true ∧ gHas (gAt 1024 se (nI i)) b = false then gTi se a b i + 1 else gTi se a b i
/-- the first place below n where p holds, -1 if there is none -/
def gFst (p : Nat → Bool) : Nat → Int32
  | 0 => -1
  | n + 1 => if gFst p n = -1 then (if p n = true then nI n else -1) else gFst p n
theorem gFst_no {p : Nat → Bool} : ∀ {n : Nat}, (∀ j, j < n → p j = false) → gFst p n = -1
  | 0, _ => rfl
  | n + 1, h => by
    have h1 := gFst_no (p := p) (n := n) (fun j hj => h j (by omega))
    simp [gFst, h1, h n (by omega)]
theorem nI_nm1 {n : Nat} (h : n < 2 ^ 31) : ¬ nI n = -1 := by
  intro e
  have h1 := nI_toInt h
  rw [e] at h1
  have h2 : (-1 : Int32).toInt = -1 := by decide
  omega
theorem gFst_hit {p : Nat → Bool} {i : Nat} (hi : i < 2 ^ 31) (hp : p i = true) (h : ∀ j, j < i → p j = false) : ∀ {n : Nat}, i < n → gFst p n = nI i
  | 0, h0 => absurd h0 (Nat.not_lt_zero i)
  | n + 1, h0 => by
    rcases Nat.lt_or_ge i n with q | q
    · have h1 := gFst_hit hi hp h q
      simp [gFst, h1, nI_nm1 hi]
    · have e : i = n := by omega
      subst e
      simp [gFst, gFst_no h, hp]
def gBr (f1 f2 : Nat → Int32) (inf x : Int32) (j : Nat) : Bool := gHas inf (nI j) && gHolds (gAt 30 f1 (nI j)) x && !gHolds (gAt 30 f2 (nI j)) x
set_option maxHeartbeats 4000000 in
set_option maxRecDepth 100000 in
theorem c_X0_wishCount (l : Launch) (dC : Nat → ClassId) (dI : Nat → Nat → Nat) (h : Nat → Nat) (kc : Nat → ClassId) (f1 : Nat → Int32) (f2 : Nat → Int32) (dr : Nat → Int32) (cl : Nat → Int32) (tr : Nat → Int32) (se : Nat → Int32) (g : Nat) (r : Nat) (inf : Int32) (c : Nat) : Met l yX0_wishCount wsX0_wishCount ({ frames := 0, cells := 0, slots := 0, locals := 0 }) (gcPR (dC, dI) [.ref (h 0)] (gcW h kc f1 f2 dr cl tr se (nI g) (nI r) inf (nI c)) (gcT kc)) (va_Qi (fun (r : Int32) (_u : Unit) => r = nI (2 * g)) (fun _ _ => True) (fun _ => False)) 0 0 (fun _ => False) := by
  refine Met.ofW (cc := cX0_wishCount) (maxL := 1) (ret := (some .int)) (by decide) rfl ?_
  intro p e s m args below meth c s₁ B hml hv
  obtain ⟨rfl, hP, hK⟩ := hv
  have hx := B.exec
  have hb := B.bytes
  have hr := B.returns
  have hts := atoms_spec (ws := wsX0_wishCount) B.pre
  have hown : s.vm.findClass RX0 = some m.cls := findClass_of_methodNamed B.named
  have hlocks := B.notSynchronized
  have hS : va_S (fun _ => False) s.heap s.heap [] := va_S.rf
  have hP : va_P (dC, dI) vwCl (gcW h kc f1 f2 dr cl tr se (nI g) (nI r) inf (nI c)) s.heap := hP
  have hin0 : ∀ w ∈ wsX00, w ∈ wsX0_wishCount := by decide +kernel
  have hl := lv_entry [.ref (h 0)] (n := 1) (Nat.le_of_ble_eq_true rfl)
  rw [lg_entry_eq]
  generalize (lg_sl [.ref (h 0)] ++ List.replicate (1 - (lg_sl [.ref (h 0)]).length) Slot.unset).toArray = ls at hl ⊢
  have hl : lv_has ls 1 [(0, .ref (h 0))] := hl
  refine lv_iconst (v := 2) hx hb dX0_wishCount_0 (by decide) ?_
  refine lv_aload_n hx hb dX0_wishCount_1 rfl (lv_at hl 0 rfl) ?_
  refine va_get (D := (dC, dI)) (ci := 0) (v := .int (nI g)) (C := RX0) (T := TX0) (N := 10) hx hb hts hin0 hown hK hP 0 rfl rfl 6 (by decide) (hts (.fieldLink RX0 31 "GuestChairs" "guestCount" "I") (by decide +kernel)) (fun _ h9 => h9) rfl dX0_wishCount_2 ?_
  refine lv_imul hx hb dX0_wishCount_5 ?_
  refine gc_topi (y := nI (2 * g)) (pk_mul 2 g) ?_
  have hpost : (nI (2 * g)) = nI (2 * g) := by first | rfl | assumption
  exact W.iret (v := nI (2 * g)) hx hb hr (fun t ht hW => ⟨⟨nI (2 * g), (), rfl, hpost, trivial⟩, hS.F ht⟩) hS.2.2 dX0_wishCount_6
set_option maxHeartbeats 4000000 in
set_option maxRecDepth 100000 in
theorem c_X0_countTorn_cl (l : Launch) (dC : Nat → ClassId) (dI : Nat → Nat → Nat) (h : Nat → Nat) (kc : Nat → ClassId) (f1 : Nat → Int32) (f2 : Nat → Int32) (dr : Nat → Int32) (cl : Nat → Int32) (tr : Nat → Int32) (se : Nat → Int32) (g : Nat) (r : Nat) (inf : Int32) (c : Nat) (hg : g ≤ 10) : Met l yX0_countTorn wsX0_countTorn ({ frames := 3, cells := 0, slots := 0, locals := 63 }) (gcPR (dC, dI) [.ref (h 0), .ref (h 4)] (gcW h kc f1 f2 dr cl tr se (nI g) (nI r) inf (nI c)) (gcT kc)) (va_Qi (fun (r : Int32) (_u : Unit) => r = gCT cl g) (fun _ _ => True) (fun _ => False)) 0 0 (fun _ => False) := by
  refine Met.ofW (cc := cX0_countTorn) (maxL := 4) (ret := (some .int)) (by decide) rfl ?_
  intro p e s m args below meth c s₁ B hml hv
  obtain ⟨rfl, hP, hK⟩ := hv
  have hx := B.exec
  have hb := B.bytes
  have hr := B.returns
  have hts := atoms_spec (ws := wsX0_countTorn) B.pre
  have hown : s.vm.findClass RX0 = some m.cls := findClass_of_methodNamed B.named
  have hlocks := B.notSynchronized
  have hS : va_S (fun _ => False) s.heap s.heap [] := va_S.rf
  have hP : va_P (dC, dI) vwCl (gcW h kc f1 f2 dr cl tr se (nI g) (nI r) inf (nI c)) s.heap := hP
  have hin0 : ∀ w ∈ wsX00, w ∈ wsX0_countTorn := by decide +kernel
  have hl := lv_entry [.ref (h 0), .ref (h 4)] (n := 4) (Nat.le_of_ble_eq_true rfl)
  rw [lg_entry_eq]
  generalize (lg_sl [.ref (h 0), .ref (h 4)] ++ List.replicate (4 - (lg_sl [.ref (h 0), .ref (h 4)]).length) Slot.unset).toArray = ls at hl ⊢
  have hl : lv_has ls 4 [(0, .ref (h 0)), (1, .ref (h 4))] := hl
  refine lv_iconst (v := 0) hx hb dX0_countTorn_0 (by decide) ?_
  refine lv_istore_n (lv' := [(2, .int 0), (0, .ref (h 0)), (1, .ref (h 4))]) hx hb dX0_countTorn_1 rfl hl (by decide) rfl (fun ls hl => ?_)
  refine lv_iconst (v := 0) hx hb dX0_countTorn_2 (by decide) ?_
  refine lv_istore_n (lv' := [(3, .int 0), (2, .int 0), (0, .ref (h 0)), (1, .ref (h 4))]) hx hb dX0_countTorn_3 rfl hl (by decide) rfl (fun ls hl => ?_)
  refine gc_loop (g) (fun (i : Nat) (H : Heap) (locs : List Loc) (ls : Array Slot) => ∃ (x : Int32), x = gCT cl i ∧ va_P (dC, dI) vwCl (gcW h kc f1 f2 dr cl tr se (nI g) (nI r) inf (nI c)) H ∧ va_S (fun _ => False) s.heap H locs ∧ lv_has ls 4 [(3, .int (nI i)), (2, .int x), (0, .ref (h 0)), (1, .ref (h 4))]) 0 (Nat.zero_le _) ⟨0, (by first | rfl | assumption | omega), hP, hS, lv_sub hl [0, 1, 2, 3] rfl⟩ ?_
  intro i H locs ls hi hI ihi
  obtain ⟨x, e_x, hP, hS, hl⟩ := hI
  refine lv_iload_n hx hb dX0_countTorn_4 rfl (lv_at hl 0 rfl) ?_
  refine lv_aload_n hx hb dX0_countTorn_5 rfl (lv_at hl 2 rfl) ?_
  refine va_get (D := (dC, dI)) (ci := 0) (v := .int (nI g)) (C := RX0) (T := TX0) (N := 10) hx hb hts hin0 hown hK hP 0 rfl rfl 6 (by decide) (hts (.fieldLink RX0 31 "GuestChairs" "guestCount" "I") (by decide +kernel)) (fun _ h9 => h9) rfl dX0_countTorn_6 ?_
  refine lv_icmp_ge (tgt := 29) hx hb dX0_countTorn_9 (by decide) (fun c_9 => ?_) (fun c_9 => ?_)
  · skip
    have hEi : i = g := gc_ge c_9 (by omega) (by omega)
    refine lv_iload_n hx hb dX0_countTorn_29 rfl (lv_at hl 1 rfl) ?_
    have hpost : x = gCT cl g := by rw [e_x, hEi]
    exact W.iret (v := x) hx hb hr (fun t ht hW => ⟨⟨x, (), rfl, hpost, trivial⟩, hS.F ht⟩) hS.2.2 dX0_countTorn_30
  · skip
    have hLi : i < g := gc_lt c_9 (by omega)
    refine lv_iload_n hx hb dX0_countTorn_12 rfl (lv_at hl 1 rfl) ?_
    refine lv_aload_n hx hb dX0_countTorn_13 rfl (lv_at hl 3 rfl) ?_
    refine lv_iload_n hx hb dX0_countTorn_14 rfl (lv_at hl 0 rfl) ?_
    have hPc : va_P (dC, dI) vwCl ([((h 4), .inl ((kc 4), 20, .inl cl))]) _ := hP.sub [4] rfl
    have hKc : va_K (dC, dI) vwCl ([((kc 4), .int)]) s := hK.sub [3] rfl
    refine va_calli (va_runS (As := [.ref (h 4), .int (nI i)]) (rest := [.int x]) ⟨hx, hb, hml, hown, hts⟩ (c_X0_isTorn l dC dI (h 4) (kc 4) 20 cl (nI i) (by decide)) (va_cwS 2 hts gX0_countTorn_X0_isTorn rfl rfl rfl (by decide +kernel) ⟨Nat.le_of_ble_eq_true rfl, Nat.le_of_ble_eq_true rfl⟩) ⟨gcPR_blind, fun U hU hW => ⟨rfl, by rw [hU]; exact hPc, va_K.moved hW.alike hKc⟩⟩ rfl rfl hl.1 rfl (lv_room (Nat.le_of_ble_eq_true rfl)) dX0_countTorn_15 ⟨Nat.zero_le _, Nat.zero_le _⟩) hS (fun q _ h => h.elim) (fun q h => h.elim) (fun r1 u t H locs ht hvm hw hB hz1 hk1 hS => ?_)
    have hP := gc_keep hP hk1
    have hw : r1 = gB (gTorn 20 cl (nI i)) := hw
    subst hw
    clear hB hz1 hk1 ht hvm
    clear hPc hKc
    refine va_calli (va_runS (As := [.int (gB (gTorn 20 cl (nI i)))]) (rest := [.int x]) ⟨hx, hb, hml, hown, hts⟩ (c_X0_oneIf l (gTorn 20 cl (nI i))) (va_cwS 1 hts gX0_countTorn_X0_oneIf rfl rfl rfl (by decide +kernel) ⟨Nat.le_of_ble_eq_true rfl, Nat.le_of_ble_eq_true rfl⟩) ⟨fun a U g mk q => q, fun U hU hW => ⟨rfl, trivial⟩⟩ rfl rfl hl.1 rfl (lv_room (Nat.le_of_ble_eq_true rfl)) dX0_countTorn_18 ⟨Nat.zero_le _, Nat.zero_le _⟩) hS (fun q _ h => h.elim) (fun q h => h.elim) (fun r2 u t H locs ht hvm hw hB hz1 hk1 hS => ?_)
    have hP := gc_keep hP hk1
    have hw : r2 = gB (gTorn 20 cl (nI i)) := hw
    subst hw
    clear hB hz1 hk1 ht hvm
    refine lv_iadd hx hb dX0_countTorn_21 ?_
    refine lv_istore_n (lv' := [(2, .int (x + gB (gTorn 20 cl (nI i)))), (3, .int (nI i)), (0, .ref (h 0)), (1, .ref (h 4))]) hx hb dX0_countTorn_22 rfl hl (by decide) rfl (fun ls hl => ?_)
    refine lv_iinc (v := nI (i + 1)) (lv' := [(3, .int (nI (i + 1))), (2, .int (x + gB (gTorn 20 cl (nI i)))), (0, .ref (h 0)), (1, .ref (h 4))]) hx hb dX0_countTorn_23 hl (k := 1) rfl (nI_1 i) (by decide) rfl (fun ls hl => ?_)
    refine lv_goto (tgt := 4) hx hb dX0_countTorn_26 (by decide) ?_
    exact ihi H _ ls (by omega) ⟨(x + gB (gTorn 20 cl (nI i))), (by rw [e_x]; rfl), hP, hS, lv_sub hl [0, 1, 2, 3] rfl⟩
set_option maxHeartbeats 4000000 in
set_option maxRecDepth 100000 in
theorem c_X0_countTorn_tr (l : Launch) (dC : Nat → ClassId) (dI : Nat → Nat → Nat) (h : Nat → Nat) (kc : Nat → ClassId) (f1 : Nat → Int32) (f2 : Nat → Int32) (dr : Nat → Int32) (cl : Nat → Int32) (tr : Nat → Int32) (se : Nat → Int32) (g : Nat) (r : Nat) (inf : Int32) (c : Nat) (hg : g ≤ 10) : Met l yX0_countTorn wsX0_countTorn ({ frames := 3, cells := 0, slots := 0, locals := 63 }) (gcPR (dC, dI) [.ref (h 0), .ref (h 5)] (gcW h kc f1 f2 dr cl tr se (nI g) (nI r) inf (nI c)) (gcT kc)) (va_Qi (fun (r : Int32) (_u : Unit) => r = gCT tr g) (fun _ _ => True) (fun _ => False)) 0 0 (fun _ => False) := by
  refine Met.ofW (cc := cX0_countTorn) (maxL := 4) (ret := (some .int)) (by decide) rfl ?_
  intro p e s m args below meth c s₁ B hml hv
  obtain ⟨rfl, hP, hK⟩ := hv
  have hx := B.exec
  have hb := B.bytes
  have hr := B.returns
  have hts := atoms_spec (ws := wsX0_countTorn) B.pre
  have hown : s.vm.findClass RX0 = some m.cls := findClass_of_methodNamed B.named
  have hlocks := B.notSynchronized
  have hS : va_S (fun _ => False) s.heap s.heap [] := va_S.rf
  have hP : va_P (dC, dI) vwCl (gcW h kc f1 f2 dr cl tr se (nI g) (nI r) inf (nI c)) s.heap := hP
  have hin0 : ∀ w ∈ wsX00, w ∈ wsX0_countTorn := by decide +kernel
  have hl := lv_entry [.ref (h 0), .ref (h 5)] (n := 4) (Nat.le_of_ble_eq_true rfl)
  rw [lg_entry_eq]
  generalize (lg_sl [.ref (h 0), .ref (h 5)] ++ List.replicate (4 - (lg_sl [.ref (h 0), .ref (h 5)]).length) Slot.unset).toArray = ls at hl ⊢
  have hl : lv_has ls 4 [(0, .ref (h 0)), (1, .ref (h 5))] := hl
  refine lv_iconst (v := 0) hx hb dX0_countTorn_0 (by decide) ?_
  refine lv_istore_n (lv' := [(2, .int 0), (0, .ref (h 0)), (1, .ref (h 5))]) hx hb dX0_countTorn_1 rfl hl (by decide) rfl (fun ls hl => ?_)
  refine lv_iconst (v := 0) hx hb dX0_countTorn_2 (by decide) ?_
  refine lv_istore_n (lv' := [(3, .int 0), (2, .int 0), (0, .ref (h 0)), (1, .ref (h 5))]) hx hb dX0_countTorn_3 rfl hl (by decide) rfl (fun ls hl => ?_)
  refine gc_loop (g) (fun (i : Nat) (H : Heap) (locs : List Loc) (ls : Array Slot) => ∃ (x : Int32), x = gCT tr i ∧ va_P (dC, dI) vwCl (gcW h kc f1 f2 dr cl tr se (nI g) (nI r) inf (nI c)) H ∧ va_S (fun _ => False) s.heap H locs ∧ lv_has ls 4 [(3, .int (nI i)), (2, .int x), (0, .ref (h 0)), (1, .ref (h 5))]) 0 (Nat.zero_le _) ⟨0, (by first | rfl | assumption | omega), hP, hS, lv_sub hl [0, 1, 2, 3] rfl⟩ ?_
  intro i H locs ls hi hI ihi
  obtain ⟨x, e_x, hP, hS, hl⟩ := hI
  refine lv_iload_n hx hb dX0_countTorn_4 rfl (lv_at hl 0 rfl) ?_
  refine lv_aload_n hx hb dX0_countTorn_5 rfl (lv_at hl 2 rfl) ?_
  refine va_get (D := (dC, dI)) (ci := 0) (v := .int (nI g)) (C := RX0) (T := TX0) (N := 10) hx hb hts hin0 hown hK hP 0 rfl rfl 6 (by decide) (hts (.fieldLink RX0 31 "GuestChairs" "guestCount" "I") (by decide +kernel)) (fun _ h9 => h9) rfl dX0_countTorn_6 ?_
  refine lv_icmp_ge (tgt := 29) hx hb dX0_countTorn_9 (by decide) (fun c_9 => ?_) (fun c_9 => ?_)
  · skip
    have hEi : i = g := gc_ge c_9 (by omega) (by omega)
    refine lv_iload_n hx hb dX0_countTorn_29 rfl (lv_at hl 1 rfl) ?_
    have hpost : x = gCT tr g := by rw [e_x, hEi]
    exact W.iret (v := x) hx hb hr (fun t ht hW => ⟨⟨x, (), rfl, hpost, trivial⟩, hS.F ht⟩) hS.2.2 dX0_countTorn_30
  · skip
    have hLi : i < g := gc_lt c_9 (by omega)
    refine lv_iload_n hx hb dX0_countTorn_12 rfl (lv_at hl 1 rfl) ?_
    refine lv_aload_n hx hb dX0_countTorn_13 rfl (lv_at hl 3 rfl) ?_
    refine lv_iload_n hx hb dX0_countTorn_14 rfl (lv_at hl 0 rfl) ?_
    have hPc : va_P (dC, dI) vwCl ([((h 5), .inl ((kc 5), 20, .inl tr))]) _ := hP.sub [5] rfl
    have hKc : va_K (dC, dI) vwCl ([((kc 5), .int)]) s := hK.sub [4] rfl
    refine va_calli (va_runS (As := [.ref (h 5), .int (nI i)]) (rest := [.int x]) ⟨hx, hb, hml, hown, hts⟩ (c_X0_isTorn l dC dI (h 5) (kc 5) 20 tr (nI i) (by decide)) (va_cwS 2 hts gX0_countTorn_X0_isTorn rfl rfl rfl (by decide +kernel) ⟨Nat.le_of_ble_eq_true rfl, Nat.le_of_ble_eq_true rfl⟩) ⟨gcPR_blind, fun U hU hW => ⟨rfl, by rw [hU]; exact hPc, va_K.moved hW.alike hKc⟩⟩ rfl rfl hl.1 rfl (lv_room (Nat.le_of_ble_eq_true rfl)) dX0_countTorn_15 ⟨Nat.zero_le _, Nat.zero_le _⟩) hS (fun q _ h => h.elim) (fun q h => h.elim) (fun r1 u t H locs ht hvm hw hB hz1 hk1 hS => ?_)
    have hP := gc_keep hP hk1
    have hw : r1 = gB (gTorn 20 tr (nI i)) := hw
    subst hw
    clear hB hz1 hk1 ht hvm
    clear hPc hKc
    refine va_calli (va_runS (As := [.int (gB (gTorn 20 tr (nI i)))]) (rest := [.int x]) ⟨hx, hb, hml, hown, hts⟩ (c_X0_oneIf l (gTorn 20 tr (nI i))) (va_cwS 1 hts gX0_countTorn_X0_oneIf rfl rfl rfl (by decide +kernel) ⟨Nat.le_of_ble_eq_true rfl, Nat.le_of_ble_eq_true rfl⟩) ⟨fun a U g mk q => q, fun U hU hW => ⟨rfl, trivial⟩⟩ rfl rfl hl.1 rfl (lv_room (Nat.le_of_ble_eq_true rfl)) dX0_countTorn_18 ⟨Nat.zero_le _, Nat.zero_le _⟩) hS (fun q _ h => h.elim) (fun q h => h.elim) (fun r2 u t H locs ht hvm hw hB hz1 hk1 hS => ?_)
    have hP := gc_keep hP hk1
    have hw : r2 = gB (gTorn 20 tr (nI i)) := hw
    subst hw
    clear hB hz1 hk1 ht hvm
    refine lv_iadd hx hb dX0_countTorn_21 ?_
    refine lv_istore_n (lv' := [(2, .int (x + gB (gTorn 20 tr (nI i)))), (3, .int (nI i)), (0, .ref (h 0)), (1, .ref (h 5))]) hx hb dX0_countTorn_22 rfl hl (by decide) rfl (fun ls hl => ?_)
    refine lv_iinc (v := nI (i + 1)) (lv' := [(3, .int (nI (i + 1))), (2, .int (x + gB (gTorn 20 tr (nI i)))), (0, .ref (h 0)), (1, .ref (h 5))]) hx hb dX0_countTorn_23 hl (k := 1) rfl (nI_1 i) (by decide) rfl (fun ls hl => ?_)
    refine lv_goto (tgt := 4) hx hb dX0_countTorn_26 (by decide) ?_
    exact ihi H _ ls (by omega) ⟨(x + gB (gTorn 20 tr (nI i))), (by rw [e_x]; rfl), hP, hS, lv_sub hl [0, 1, 2, 3] rfl⟩
set_option maxHeartbeats 4000000 in
set_option maxRecDepth 100000 in
theorem c_X0_fits (l : Launch) (dC : Nat → ClassId) (dI : Nat → Nat → Nat) (h : Nat → Nat) (kc : Nat → ClassId) (f1 : Nat → Int32) (f2 : Nat → Int32) (dr : Nat → Int32) (cl : Nat → Int32) (tr : Nat → Int32) (se : Nat → Int32) (g : Nat) (r : Nat) (inf : Int32) (c : Nat) (hg : g ≤ 10) : Met l yX0_fits wsX0_fits ({ frames := 4, cells := 0, slots := 0, locals := 86 }) (gcPR (dC, dI) [.ref (h 0)] (gcW h kc f1 f2 dr cl tr se (nI g) (nI r) inf (nI c)) (gcT kc)) (va_Qi (fun (r : Int32) (_u : Unit) => r = gB (gFt cl g)) (fun _ _ => True) (fun _ => False)) 0 0 (fun _ => False) := by
  refine Met.ofW (cc := cX0_fits) (maxL := 1) (ret := (some .boolean)) (by decide) rfl ?_
  intro p e s m args below meth c s₁ B hml hv
  obtain ⟨rfl, hP, hK⟩ := hv
  have hx := B.exec
  have hb := B.bytes
  have hr := B.returns
  have hts := atoms_spec (ws := wsX0_fits) B.pre
  have hown : s.vm.findClass RX0 = some m.cls := findClass_of_methodNamed B.named
  have hlocks := B.notSynchronized
  have hS : va_S (fun _ => False) s.heap s.heap [] := va_S.rf
  have hP : va_P (dC, dI) vwCl (gcW h kc f1 f2 dr cl tr se (nI g) (nI r) inf (nI c)) s.heap := hP
  have hin0 : ∀ w ∈ wsX00, w ∈ wsX0_fits := by decide +kernel
  have hl := lv_entry [.ref (h 0)] (n := 1) (Nat.le_of_ble_eq_true rfl)
  rw [lg_entry_eq]
  generalize (lg_sl [.ref (h 0)] ++ List.replicate (1 - (lg_sl [.ref (h 0)]).length) Slot.unset).toArray = ls at hl ⊢
  have hl : lv_has ls 1 [(0, .ref (h 0))] := hl
  refine lv_aload_n hx hb dX0_fits_0 rfl (lv_at hl 0 rfl) ?_
  refine lv_aload_n hx hb dX0_fits_1 rfl (lv_at hl 0 rfl) ?_
  refine va_get (D := (dC, dI)) (ci := 0) (v := .ref (h 4)) (C := RX0) (T := TX0) (N := 10) hx hb hts hin0 hown hK hP 0 rfl rfl 3 (by decide) (hts (.fieldLink RX0 19 "GuestChairs" "closed" "[I") (by decide +kernel)) (fun _ h9 => h9) rfl dX0_fits_2 ?_
  have hPc : va_P (dC, dI) vwCl (gcW h kc f1 f2 dr cl tr se (nI g) (nI r) inf (nI c)) _ := hP.sub [0, 1, 2, 3, 4, 5, 6] rfl
  have hKc : va_K (dC, dI) vwCl (gcT kc) s := hK.sub [0, 1, 2, 3, 4, 5] rfl
  refine va_calli (va_runV (As := [.ref (h 4)]) (rest := []) ⟨hx, hb, hml, hown, hts⟩ (c_X0_countTorn_cl l dC dI h kc f1 f2 dr cl tr se g r inf c (by first | assumption | omega)) (cwV 1 hts gX0_fits_X0_countTorn rfl rfl rfl (by decide +kernel) ⟨Nat.le_of_ble_eq_true rfl, Nat.le_of_ble_eq_true rfl⟩) ⟨gcPR_blind, va_recv hK hP (ci := 0) (q0 := 0) rfl rfl, fun U hU hW => ⟨rfl, by rw [hU]; exact hPc, va_K.moved hW.alike hKc⟩⟩ rfl rfl hl.1 rfl (lv_room (Nat.le_of_ble_eq_true rfl)) dX0_fits_5 ⟨Nat.zero_le _, Nat.zero_le _⟩) hS (fun q _ h => h.elim) (fun q h => h.elim) (fun r1 u t H locs ht hvm hw hB hz1 hk1 hS => ?_)
  have hP := gc_keep hP hk1
  have hw : r1 = gCT cl g := hw
  subst hw
  clear hB hz1 hk1 ht hvm
  clear hPc hKc
  refine lv_if_ne (tgt := 15) hx hb dX0_fits_8 (by decide) (fun c_8 => ?_) (fun c_8 => ?_)
  · skip
    refine lv_iconst (v := 0) hx hb dX0_fits_15 (by decide) ?_
    have hpost : 0 = gB (gFt cl g) := by simp [gB, gFt, c_8]
    exact W.zret (ty := .boolean) (v := 0) hx hb hr (by first | rfl | decide | exact gB_nar _) (fun t ht hW => ⟨⟨0, (), rfl, hpost, trivial⟩, hS.F ht⟩) hS.2.2 dX0_fits_16
  · skip
    refine lv_iconst (v := 1) hx hb dX0_fits_11 (by decide) ?_
    refine lv_goto (tgt := 16) hx hb dX0_fits_12 (by decide) ?_
    have hpost : 1 = gB (gFt cl g) := by simp [gB, gFt, c_8]
    exact W.zret (ty := .boolean) (v := 1) hx hb hr (by first | rfl | decide | exact gB_nar _) (fun t ht hW => ⟨⟨1, (), rfl, hpost, trivial⟩, hS.F ht⟩) hS.2.2 dX0_fits_16
set_option maxHeartbeats 4000000 in
set_option maxRecDepth 100000 in
theorem c_X0_countVain (l : Launch) (dC : Nat → ClassId) (dI : Nat → Nat → Nat) (h : Nat → Nat) (kc : Nat → ClassId) (f1 : Nat → Int32) (f2 : Nat → Int32) (dr : Nat → Int32) (cl : Nat → Int32) (tr : Nat → Int32) (se : Nat → Int32) (g : Nat) (r : Nat) (inf : Int32) (c : Nat) (hg : g ≤ 10) : Met l yX0_countVain wsX0_countVain ({ frames := 2, cells := 0, slots := 0, locals := 42 }) (gcPR (dC, dI) [.ref (h 0)] (gcW h kc f1 f2 dr cl tr se (nI g) (nI r) inf (nI c)) (gcT kc)) (va_Qi (fun (r : Int32) (_u : Unit) => r = gCV cl (2 * g)) (fun _ _ => True) (fun _ => False)) 0 0 (fun _ => False) := by
  refine Met.ofW (cc := cX0_countVain) (maxL := 3) (ret := (some .int)) (by decide) rfl ?_
  intro p e s m args below meth c s₁ B hml hv
  obtain ⟨rfl, hP, hK⟩ := hv
  have hx := B.exec
  have hb := B.bytes
  have hr := B.returns
  have hts := atoms_spec (ws := wsX0_countVain) B.pre
  have hown : s.vm.findClass RX0 = some m.cls := findClass_of_methodNamed B.named
  have hlocks := B.notSynchronized
  have hS : va_S (fun _ => False) s.heap s.heap [] := va_S.rf
  have hP : va_P (dC, dI) vwCl (gcW h kc f1 f2 dr cl tr se (nI g) (nI r) inf (nI c)) s.heap := hP
  have hin0 : ∀ w ∈ wsX00, w ∈ wsX0_countVain := by decide +kernel
  have hl := lv_entry [.ref (h 0)] (n := 3) (Nat.le_of_ble_eq_true rfl)
  rw [lg_entry_eq]
  generalize (lg_sl [.ref (h 0)] ++ List.replicate (3 - (lg_sl [.ref (h 0)]).length) Slot.unset).toArray = ls at hl ⊢
  have hl : lv_has ls 3 [(0, .ref (h 0))] := hl
  refine lv_iconst (v := 0) hx hb dX0_countVain_0 (by decide) ?_
  refine lv_istore_n (lv' := [(1, .int 0), (0, .ref (h 0))]) hx hb dX0_countVain_1 rfl hl (by decide) rfl (fun ls hl => ?_)
  refine lv_iconst (v := 0) hx hb dX0_countVain_2 (by decide) ?_
  refine lv_istore_n (lv' := [(2, .int 0), (1, .int 0), (0, .ref (h 0))]) hx hb dX0_countVain_3 rfl hl (by decide) rfl (fun ls hl => ?_)
  refine gc_loop (2 * g) (fun (i : Nat) (H : Heap) (locs : List Loc) (ls : Array Slot) => ∃ (x : Int32), x = gCV cl i ∧ va_P (dC, dI) vwCl (gcW h kc f1 f2 dr cl tr se (nI g) (nI r) inf (nI c)) H ∧ va_S (fun _ => False) s.heap H locs ∧ lv_has ls 3 [(2, .int (nI i)), (1, .int x), (0, .ref (h 0))]) 0 (Nat.zero_le _) ⟨0, (by first | rfl | assumption | omega), hP, hS, lv_sub hl [0, 1, 2] rfl⟩ ?_
  intro i H locs ls hi hI ihi
  obtain ⟨x, e_x, hP, hS, hl⟩ := hI
  refine lv_iload_n hx hb dX0_countVain_4 rfl (lv_at hl 0 rfl) ?_
  refine lv_aload_n hx hb dX0_countVain_5 rfl (lv_at hl 2 rfl) ?_
  have hPc : va_P (dC, dI) vwCl (gcW h kc f1 f2 dr cl tr se (nI g) (nI r) inf (nI c)) _ := hP.sub [0, 1, 2, 3, 4, 5, 6] rfl
  have hKc : va_K (dC, dI) vwCl (gcT kc) s := hK.sub [0, 1, 2, 3, 4, 5] rfl
  refine va_calli (va_runV (As := []) (rest := [.int (nI i)]) ⟨hx, hb, hml, hown, hts⟩ (c_X0_wishCount l dC dI h kc f1 f2 dr cl tr se g r inf c) (cwV 0 hts gX0_countVain_X0_wishCount rfl rfl rfl (by decide +kernel) ⟨Nat.le_of_ble_eq_true rfl, Nat.le_of_ble_eq_true rfl⟩) ⟨gcPR_blind, va_recv hK hP (ci := 0) (q0 := 0) rfl rfl, fun U hU hW => ⟨rfl, by rw [hU]; exact hPc, va_K.moved hW.alike hKc⟩⟩ rfl rfl hl.1 rfl (lv_room (Nat.le_of_ble_eq_true rfl)) dX0_countVain_6 ⟨Nat.zero_le _, Nat.zero_le _⟩) hS (fun q _ h => h.elim) (fun q h => h.elim) (fun r1 u t H locs ht hvm hw hB hz1 hk1 hS => ?_)
  have hP := gc_keep hP hk1
  have hw : r1 = nI (2 * g) := hw
  subst hw
  clear hB hz1 hk1 ht hvm
  clear hPc hKc
  refine lv_icmp_ge (tgt := 32) hx hb dX0_countVain_9 (by decide) (fun c_9 => ?_) (fun c_9 => ?_)
  · skip
    have hEi : i = 2 * g := gc_ge c_9 (by omega) (by omega)
    refine lv_iload_n hx hb dX0_countVain_32 rfl (lv_at hl 1 rfl) ?_
    have hpost : x = gCV cl (2 * g) := by rw [e_x, hEi]
    exact W.iret (v := x) hx hb hr (fun t ht hW => ⟨⟨x, (), rfl, hpost, trivial⟩, hS.F ht⟩) hS.2.2 dX0_countVain_33
  · skip
    have hLi : i < 2 * g := gc_lt c_9 (by omega)
    refine lv_iload_n hx hb dX0_countVain_12 rfl (lv_at hl 1 rfl) ?_
    refine lv_aload_n hx hb dX0_countVain_13 rfl (lv_at hl 2 rfl) ?_
    refine va_get (D := (dC, dI)) (ci := 0) (v := .ref (h 4)) (C := RX0) (T := TX0) (N := 10) hx hb hts hin0 hown hK hP 0 rfl rfl 3 (by decide) (hts (.fieldLink RX0 19 "GuestChairs" "closed" "[I") (by decide +kernel)) (fun _ h9 => h9) rfl dX0_countVain_14 ?_
    refine lv_iload_n hx hb dX0_countVain_17 rfl (lv_at hl 0 rfl) ?_
    have hPc : va_P (dC, dI) vwCl ([((h 4), .inl ((kc 4), 20, .inl cl))]) _ := hP.sub [4] rfl
    have hKc : va_K (dC, dI) vwCl ([((kc 4), .int)]) s := hK.sub [3] rfl
    refine va_calli (va_runS (As := [.ref (h 4), .int (nI i)]) (rest := [.int x]) ⟨hx, hb, hml, hown, hts⟩ (c_X0_isVain l dC dI (h 4) (kc 4) 20 cl (nI i) (by decide)) (va_cwS 2 hts gX0_countVain_X0_isVain rfl rfl rfl (by decide +kernel) ⟨Nat.le_of_ble_eq_true rfl, Nat.le_of_ble_eq_true rfl⟩) ⟨gcPR_blind, fun U hU hW => ⟨rfl, by rw [hU]; exact hPc, va_K.moved hW.alike hKc⟩⟩ rfl rfl hl.1 rfl (lv_room (Nat.le_of_ble_eq_true rfl)) dX0_countVain_18 ⟨Nat.zero_le _, Nat.zero_le _⟩) hS (fun q _ h => h.elim) (fun q h => h.elim) (fun r2 u t H locs ht hvm hw hB hz1 hk1 hS => ?_)
    have hP := gc_keep hP hk1
    have hw : r2 = gB (gVain 20 cl (nI i)) := hw
    subst hw
    clear hB hz1 hk1 ht hvm
    clear hPc hKc
    refine va_calli (va_runS (As := [.int (gB (gVain 20 cl (nI i)))]) (rest := [.int x]) ⟨hx, hb, hml, hown, hts⟩ (c_X0_oneIf l (gVain 20 cl (nI i))) (va_cwS 1 hts gX0_countVain_X0_oneIf rfl rfl rfl (by decide +kernel) ⟨Nat.le_of_ble_eq_true rfl, Nat.le_of_ble_eq_true rfl⟩) ⟨fun a U g mk q => q, fun U hU hW => ⟨rfl, trivial⟩⟩ rfl rfl hl.1 rfl (lv_room (Nat.le_of_ble_eq_true rfl)) dX0_countVain_21 ⟨Nat.zero_le _, Nat.zero_le _⟩) hS (fun q _ h => h.elim) (fun q h => h.elim) (fun r3 u t H locs ht hvm hw hB hz1 hk1 hS => ?_)
    have hP := gc_keep hP hk1
    have hw : r3 = gB (gVain 20 cl (nI i)) := hw
    subst hw
    clear hB hz1 hk1 ht hvm
    refine lv_iadd hx hb dX0_countVain_24 ?_
    refine lv_istore_n (lv' := [(1, .int (x + gB (gVain 20 cl (nI i)))), (2, .int (nI i)), (0, .ref (h 0))]) hx hb dX0_countVain_25 rfl hl (by decide) rfl (fun ls hl => ?_)
    refine lv_iinc (v := nI (i + 1)) (lv' := [(2, .int (nI (i + 1))), (1, .int (x + gB (gVain 20 cl (nI i)))), (0, .ref (h 0))]) hx hb dX0_countVain_26 hl (k := 1) rfl (nI_1 i) (by decide) rfl (fun ls hl => ?_)
    refine lv_goto (tgt := 4) hx hb dX0_countVain_29 (by decide) ?_
    exact ihi H _ ls (by omega) ⟨(x + gB (gVain 20 cl (nI i))), (by rw [e_x]; rfl), hP, hS, lv_sub hl [0, 1, 2] rfl⟩
set_option maxHeartbeats 4000000 in
set_option maxRecDepth 100000 in
theorem c_X0_countPairs (l : Launch) (dC : Nat → ClassId) (dI : Nat → Nat → Nat) (h : Nat → Nat) (kc : Nat → ClassId) (f1 : Nat → Int32) (f2 : Nat → Int32) (dr : Nat → Int32) (cl : Nat → Int32) (tr : Nat → Int32) (se : Nat → Int32) (g : Nat) (r : Nat) (inf : Int32) (c : Nat) (hg : g ≤ 10) : Met l yX0_countPairs wsX0_countPairs ({ frames := 1, cells := 0, slots := 0, locals := 21 }) (gcPR (dC, dI) [.ref (h 0)] (gcW h kc f1 f2 dr cl tr se (nI g) (nI r) inf (nI c)) (gcT kc)) (va_Qi (fun (r : Int32) (_u : Unit) => r = gCP cl (2 * g)) (fun _ _ => True) (fun _ => False)) 0 0 (fun _ => False) := by
  refine Met.ofW (cc := cX0_countPairs) (maxL := 3) (ret := (some .int)) (by decide) rfl ?_
  intro p e s m args below meth c s₁ B hml hv
  obtain ⟨rfl, hP, hK⟩ := hv
  have hx := B.exec
  have hb := B.bytes
  have hr := B.returns
  have hts := atoms_spec (ws := wsX0_countPairs) B.pre
  have hown : s.vm.findClass RX0 = some m.cls := findClass_of_methodNamed B.named
  have hlocks := B.notSynchronized
  have hS : va_S (fun _ => False) s.heap s.heap [] := va_S.rf
  have hP : va_P (dC, dI) vwCl (gcW h kc f1 f2 dr cl tr se (nI g) (nI r) inf (nI c)) s.heap := hP
  have hin0 : ∀ w ∈ wsX00, w ∈ wsX0_countPairs := by decide +kernel
  have hl := lv_entry [.ref (h 0)] (n := 3) (Nat.le_of_ble_eq_true rfl)
  rw [lg_entry_eq]
  generalize (lg_sl [.ref (h 0)] ++ List.replicate (3 - (lg_sl [.ref (h 0)]).length) Slot.unset).toArray = ls at hl ⊢
  have hl : lv_has ls 3 [(0, .ref (h 0))] := hl
  refine lv_iconst (v := 0) hx hb dX0_countPairs_0 (by decide) ?_
  refine lv_istore_n (lv' := [(1, .int 0), (0, .ref (h 0))]) hx hb dX0_countPairs_1 rfl hl (by decide) rfl (fun ls hl => ?_)
  refine lv_iconst (v := 0) hx hb dX0_countPairs_2 (by decide) ?_
  refine lv_istore_n (lv' := [(2, .int 0), (1, .int 0), (0, .ref (h 0))]) hx hb dX0_countPairs_3 rfl hl (by decide) rfl (fun ls hl => ?_)
  refine gc_loop (2 * g) (fun (i : Nat) (H : Heap) (locs : List Loc) (ls : Array Slot) => ∃ (x : Int32), x = gCP cl i ∧ va_P (dC, dI) vwCl (gcW h kc f1 f2 dr cl tr se (nI g) (nI r) inf (nI c)) H ∧ va_S (fun _ => False) s.heap H locs ∧ lv_has ls 3 [(2, .int (nI i)), (1, .int x), (0, .ref (h 0))]) 0 (Nat.zero_le _) ⟨0, (by first | rfl | assumption | omega), hP, hS, lv_sub hl [0, 1, 2] rfl⟩ ?_
  intro i H locs ls hi hI ihi
  obtain ⟨x, e_x, hP, hS, hl⟩ := hI
  refine lv_iload_n hx hb dX0_countPairs_4 rfl (lv_at hl 0 rfl) ?_
  refine lv_aload_n hx hb dX0_countPairs_5 rfl (lv_at hl 2 rfl) ?_
  have hPc : va_P (dC, dI) vwCl (gcW h kc f1 f2 dr cl tr se (nI g) (nI r) inf (nI c)) _ := hP.sub [0, 1, 2, 3, 4, 5, 6] rfl
  have hKc : va_K (dC, dI) vwCl (gcT kc) s := hK.sub [0, 1, 2, 3, 4, 5] rfl
  refine va_calli (va_runV (As := []) (rest := [.int (nI i)]) ⟨hx, hb, hml, hown, hts⟩ (c_X0_wishCount l dC dI h kc f1 f2 dr cl tr se g r inf c) (cwV 0 hts gX0_countPairs_X0_wishCount rfl rfl rfl (by decide +kernel) ⟨Nat.le_of_ble_eq_true rfl, Nat.le_of_ble_eq_true rfl⟩) ⟨gcPR_blind, va_recv hK hP (ci := 0) (q0 := 0) rfl rfl, fun U hU hW => ⟨rfl, by rw [hU]; exact hPc, va_K.moved hW.alike hKc⟩⟩ rfl rfl hl.1 rfl (lv_room (Nat.le_of_ble_eq_true rfl)) dX0_countPairs_6 ⟨Nat.zero_le _, Nat.zero_le _⟩) hS (fun q _ h => h.elim) (fun q h => h.elim) (fun r1 u t H locs ht hvm hw hB hz1 hk1 hS => ?_)
  have hP := gc_keep hP hk1
  have hw : r1 = nI (2 * g) := hw
  subst hw
  clear hB hz1 hk1 ht hvm
  clear hPc hKc
  refine lv_icmp_ge (tgt := 34) hx hb dX0_countPairs_9 (by decide) (fun c_9 => ?_) (fun c_9 => ?_)
  · skip
    have hEi : i = 2 * g := gc_ge c_9 (by omega) (by omega)
    refine lv_iload_n hx hb dX0_countPairs_34 rfl (lv_at hl 1 rfl) ?_
    have hpost : x = gCP cl (2 * g) := by rw [e_x, hEi]
    exact W.iret (v := x) hx hb hr (fun t ht hW => ⟨⟨x, (), rfl, hpost, trivial⟩, hS.F ht⟩) hS.2.2 dX0_countPairs_35
  · skip
    have hLi : i < 2 * g := gc_lt c_9 (by omega)
    refine lv_iload_n hx hb dX0_countPairs_12 rfl (lv_at hl 1 rfl) ?_
    refine lv_aload_n hx hb dX0_countPairs_13 rfl (lv_at hl 2 rfl) ?_
    refine va_get (D := (dC, dI)) (ci := 0) (v := .ref (h 4)) (C := RX0) (T := TX0) (N := 10) hx hb hts hin0 hown hK hP 0 rfl rfl 3 (by decide) (hts (.fieldLink RX0 19 "GuestChairs" "closed" "[I") (by decide +kernel)) (fun _ h9 => h9) rfl dX0_countPairs_14 ?_
    refine lv_iload_n hx hb dX0_countPairs_17 rfl (lv_at hl 0 rfl) ?_
    have hPc : va_P (dC, dI) vwCl ([((h 4), .inl ((kc 4), 20, .inl cl))]) _ := hP.sub [4] rfl
    have hKc : va_K (dC, dI) vwCl ([((kc 4), .int)]) s := hK.sub [3] rfl
    refine va_calli (va_runS (As := [.ref (h 4), .int (nI i)]) (rest := [.int x]) ⟨hx, hb, hml, hown, hts⟩ (c_X0_at l dC dI (h 4) (kc 4) 20 cl (nI i) (by decide)) (va_cwS 2 hts gX0_countPairs_X0_at rfl rfl rfl (by decide +kernel) ⟨Nat.le_of_ble_eq_true rfl, Nat.le_of_ble_eq_true rfl⟩) ⟨gcPR_blind, fun U hU hW => ⟨rfl, by rw [hU]; exact hPc, va_K.moved hW.alike hKc⟩⟩ rfl rfl hl.1 rfl (lv_room (Nat.le_of_ble_eq_true rfl)) dX0_countPairs_18 ⟨Nat.zero_le _, Nat.zero_le _⟩) hS (fun q _ h => h.elim) (fun q h => h.elim) (fun r2 u t H locs ht hvm hw hB hz1 hk1 hS => ?_)
    have hP := gc_keep hP hk1
    have hw : r2 = gAt 20 cl (nI i) := hw
    subst hw
    clear hB hz1 hk1 ht hvm
    clear hPc hKc
    refine va_calli (va_runS (As := [.int (gAt 20 cl (nI i))]) (rest := [.int x]) ⟨hx, hb, hml, hown, hts⟩ (c_J6_bitCount_0f7a4 l (gAt 20 cl (nI i))) (va_cwS 1 hts gX0_countPairs_J6_bitCount_0f7a4 rfl rfl rfl (by decide +kernel) ⟨Nat.le_of_ble_eq_true rfl, Nat.le_of_ble_eq_true rfl⟩) ⟨fun a U g mk q => q, fun U hU hW => ⟨rfl, trivial⟩⟩ rfl rfl hl.1 rfl (lv_room (Nat.le_of_ble_eq_true rfl)) dX0_countPairs_21 ⟨Nat.zero_le _, Nat.zero_le _⟩) hS (fun q _ h => h.elim) (fun q h => h.elim) (fun r3 u t H locs ht hvm hw hB hz1 hk1 hS => ?_)
    have hP := gc_keep hP hk1
    have hw : r3 = gBC (gAt 20 cl (nI i)) := hw
    subst hw
    clear hB hz1 hk1 ht hvm
    refine lv_iconst (v := 1) hx hb dX0_countPairs_24 (by decide) ?_
    refine lv_isub hx hb dX0_countPairs_25 ?_
    refine lv_iadd hx hb dX0_countPairs_26 ?_
    refine lv_istore_n (lv' := [(1, .int (x + (gBC (gAt 20 cl (nI i)) - 1))), (2, .int (nI i)), (0, .ref (h 0))]) hx hb dX0_countPairs_27 rfl hl (by decide) rfl (fun ls hl => ?_)
    refine lv_iinc (v := nI (i + 1)) (lv' := [(2, .int (nI (i + 1))), (1, .int (x + (gBC (gAt 20 cl (nI i)) - 1))), (0, .ref (h 0))]) hx hb dX0_countPairs_28 hl (k := 1) rfl (nI_1 i) (by decide) rfl (fun ls hl => ?_)
    refine lv_goto (tgt := 4) hx hb dX0_countPairs_31 (by decide) ?_
    exact ihi H _ ls (by omega) ⟨(x + (gBC (gAt 20 cl (nI i)) - 1)), (by rw [e_x]; rfl), hP, hS, lv_sub hl [0, 1, 2] rfl⟩
set_option maxHeartbeats 4000000 in
set_option maxRecDepth 100000 in
theorem c_X0_oneStepOn (l : Launch) (dC : Nat → ClassId) (dI : Nat → Nat → Nat) (h : Nat → Nat) (kc : Nat → ClassId) (f1 : Nat → Int32) (f2 : Nat → Int32) (dr : Nat → Int32) (cl : Nat → Int32) (tr : Nat → Int32) (se : Nat → Int32) (g : Nat) (r : Nat) (inf : Int32) (c : Nat) (w : Int32) (hg : g ≤ 10) : Met l yX0_oneStepOn wsX0_oneStepOn ({ frames := 1, cells := 0, slots := 0, locals := 21 }) (gcPR (dC, dI) [.ref (h 0), .int w] (gcW h kc f1 f2 dr cl tr se (nI g) (nI r) inf (nI c)) (gcT kc)) (va_Qi (fun (r : Int32) (_u : Unit) => r = gOS dr w (2 * g)) (fun _ _ => True) (fun _ => False)) 0 0 (fun _ => False) := by
  refine Met.ofW (cc := cX0_oneStepOn) (maxL := 4) (ret := (some .int)) (by decide) rfl ?_
  intro p e s m args below meth c s₁ B hml hv
  obtain ⟨rfl, hP, hK⟩ := hv
  have hx := B.exec
  have hb := B.bytes
  have hr := B.returns
  have hts := atoms_spec (ws := wsX0_oneStepOn) B.pre
  have hown : s.vm.findClass RX0 = some m.cls := findClass_of_methodNamed B.named
  have hlocks := B.notSynchronized
  have hS : va_S (fun _ => False) s.heap s.heap [] := va_S.rf
  have hP : va_P (dC, dI) vwCl (gcW h kc f1 f2 dr cl tr se (nI g) (nI r) inf (nI c)) s.heap := hP
  have hin0 : ∀ w ∈ wsX00, w ∈ wsX0_oneStepOn := by decide +kernel
  have hl := lv_entry [.ref (h 0), .int w] (n := 4) (Nat.le_of_ble_eq_true rfl)
  rw [lg_entry_eq]
  generalize (lg_sl [.ref (h 0), .int w] ++ List.replicate (4 - (lg_sl [.ref (h 0), .int w]).length) Slot.unset).toArray = ls at hl ⊢
  have hl : lv_has ls 4 [(0, .ref (h 0)), (1, .int w)] := hl
  refine lv_iload_n hx hb dX0_oneStepOn_0 rfl (lv_at hl 1 rfl) ?_
  refine lv_istore_n (lv' := [(2, .int w), (0, .ref (h 0)), (1, .int w)]) hx hb dX0_oneStepOn_1 rfl hl (by decide) rfl (fun ls hl => ?_)
  refine lv_iconst (v := 0) hx hb dX0_oneStepOn_2 (by decide) ?_
  refine lv_istore_n (lv' := [(3, .int 0), (2, .int w), (0, .ref (h 0)), (1, .int w)]) hx hb dX0_oneStepOn_3 rfl hl (by decide) rfl (fun ls hl => ?_)
  refine gc_loop (2 * g) (fun (i : Nat) (H : Heap) (locs : List Loc) (ls : Array Slot) => ∃ (x : Int32), x = gOS dr w i ∧ va_P (dC, dI) vwCl (gcW h kc f1 f2 dr cl tr se (nI g) (nI r) inf (nI c)) H ∧ va_S (fun _ => False) s.heap H locs ∧ lv_has ls 4 [(3, .int (nI i)), (2, .int x), (0, .ref (h 0)), (1, .int w)]) 0 (Nat.zero_le _) ⟨w, (by first | rfl | assumption | omega), hP, hS, lv_sub hl [0, 1, 2, 3] rfl⟩ ?_
  intro i H locs ls hi hI ihi
  obtain ⟨x, e_x, hP, hS, hl⟩ := hI
  refine lv_iload_n hx hb dX0_oneStepOn_4 rfl (lv_at hl 0 rfl) ?_
  refine lv_aload_n hx hb dX0_oneStepOn_5 rfl (lv_at hl 2 rfl) ?_
  have hPc : va_P (dC, dI) vwCl (gcW h kc f1 f2 dr cl tr se (nI g) (nI r) inf (nI c)) _ := hP.sub [0, 1, 2, 3, 4, 5, 6] rfl
  have hKc : va_K (dC, dI) vwCl (gcT kc) s := hK.sub [0, 1, 2, 3, 4, 5] rfl
  refine va_calli (va_runV (As := []) (rest := [.int (nI i)]) ⟨hx, hb, hml, hown, hts⟩ (c_X0_wishCount l dC dI h kc f1 f2 dr cl tr se g r inf c) (cwV 0 hts gX0_oneStepOn_X0_wishCount rfl rfl rfl (by decide +kernel) ⟨Nat.le_of_ble_eq_true rfl, Nat.le_of_ble_eq_true rfl⟩) ⟨gcPR_blind, va_recv hK hP (ci := 0) (q0 := 0) rfl rfl, fun U hU hW => ⟨rfl, by rw [hU]; exact hPc, va_K.moved hW.alike hKc⟩⟩ rfl rfl hl.1 rfl (lv_room (Nat.le_of_ble_eq_true rfl)) dX0_oneStepOn_6 ⟨Nat.zero_le _, Nat.zero_le _⟩) hS (fun q _ h => h.elim) (fun q h => h.elim) (fun r1 u t H locs ht hvm hw hB hz1 hk1 hS => ?_)
  have hP := gc_keep hP hk1
  have hw : r1 = nI (2 * g) := hw
  subst hw
  clear hB hz1 hk1 ht hvm
  clear hPc hKc
  refine lv_icmp_ge (tgt := 37) hx hb dX0_oneStepOn_9 (by decide) (fun c_9 => ?_) (fun c_9 => ?_)
  · skip
    have hEi : i = 2 * g := gc_ge c_9 (by omega) (by omega)
    refine lv_iload_n hx hb dX0_oneStepOn_37 rfl (lv_at hl 1 rfl) ?_
    have hpost : x = gOS dr w (2 * g) := by rw [e_x, hEi]
    exact W.iret (v := x) hx hb hr (fun t ht hW => ⟨⟨x, (), rfl, hpost, trivial⟩, hS.F ht⟩) hS.2.2 dX0_oneStepOn_38
  · skip
    have hLi : i < 2 * g := gc_lt c_9 (by omega)
    refine lv_iload_n hx hb dX0_oneStepOn_12 rfl (lv_at hl 3 rfl) ?_
    refine lv_iload_n hx hb dX0_oneStepOn_13 rfl (lv_at hl 0 rfl) ?_
    refine va_calli (va_runS (As := [.int w, .int (nI i)]) (rest := []) ⟨hx, hb, hml, hown, hts⟩ (c_X0_has l w (nI i)) (va_cwS 2 hts gX0_oneStepOn_X0_has rfl rfl rfl (by decide +kernel) ⟨Nat.le_of_ble_eq_true rfl, Nat.le_of_ble_eq_true rfl⟩) ⟨fun a U g mk q => q, fun U hU hW => ⟨rfl, trivial⟩⟩ rfl rfl hl.1 rfl (lv_room (Nat.le_of_ble_eq_true rfl)) dX0_oneStepOn_14 ⟨Nat.zero_le _, Nat.zero_le _⟩) hS (fun q _ h => h.elim) (fun q h => h.elim) (fun r2 u t H locs ht hvm hw hB hz1 hk1 hS => ?_)
    have hP := gc_keep hP hk1
    have hw : r2 = gB (gHas w (nI i)) := hw
    subst hw
    clear hB hz1 hk1 ht hvm
    refine lv_if_eq (tgt := 31) hx hb dX0_oneStepOn_17 (by decide) (fun c_17 => ?_) (fun c_17 => ?_)
    · skip
      have c_17 := gB_f c_17
      refine lv_iinc (v := nI (i + 1)) (lv' := [(3, .int (nI (i + 1))), (2, .int x), (0, .ref (h 0)), (1, .int w)]) hx hb dX0_oneStepOn_31 hl (k := 0) rfl (nI_1 i) (by decide) rfl (fun ls hl => ?_)
      refine lv_goto (tgt := 4) hx hb dX0_oneStepOn_34 (by decide) ?_
      exact ihi H _ ls (by omega) ⟨x, (by simp only [gOS, ← e_x]; simp [gOS, c_17]), hP, hS, lv_sub hl [0, 1, 2, 3] rfl⟩
    · skip
      have c_17 := gB_t c_17
      refine lv_iload_n hx hb dX0_oneStepOn_20 rfl (lv_at hl 1 rfl) ?_
      refine lv_aload_n hx hb dX0_oneStepOn_21 rfl (lv_at hl 2 rfl) ?_
      refine va_get (D := (dC, dI)) (ci := 0) (v := .ref (h 3)) (C := RX0) (T := TX0) (N := 10) hx hb hts hin0 hown hK hP 0 rfl rfl 2 (by decide) (hts (.fieldLink RX0 16 "GuestChairs" "direct" "[I") (by decide +kernel)) (fun _ h9 => h9) rfl dX0_oneStepOn_22 ?_
      refine lv_iload_n hx hb dX0_oneStepOn_25 rfl (lv_at hl 0 rfl) ?_
      have hPc : va_P (dC, dI) vwCl ([((h 3), .inl ((kc 3), 20, .inl dr))]) _ := hP.sub [3] rfl
      have hKc : va_K (dC, dI) vwCl ([((kc 3), .int)]) s := hK.sub [2] rfl
      refine va_calli (va_runS (As := [.ref (h 3), .int (nI i)]) (rest := [.int x]) ⟨hx, hb, hml, hown, hts⟩ (c_X0_at l dC dI (h 3) (kc 3) 20 dr (nI i) (by decide)) (va_cwS 2 hts gX0_oneStepOn_X0_at rfl rfl rfl (by decide +kernel) ⟨Nat.le_of_ble_eq_true rfl, Nat.le_of_ble_eq_true rfl⟩) ⟨gcPR_blind, fun U hU hW => ⟨rfl, by rw [hU]; exact hPc, va_K.moved hW.alike hKc⟩⟩ rfl rfl hl.1 rfl (lv_room (Nat.le_of_ble_eq_true rfl)) dX0_oneStepOn_26 ⟨Nat.zero_le _, Nat.zero_le _⟩) hS (fun q _ h => h.elim) (fun q h => h.elim) (fun r3 u t H locs ht hvm hw hB hz1 hk1 hS => ?_)
      have hP := gc_keep hP hk1
      have hw : r3 = gAt 20 dr (nI i) := hw
      subst hw
      clear hB hz1 hk1 ht hvm
      clear hPc hKc
      refine lv_ior hx hb dX0_oneStepOn_29 ?_
      refine lv_istore_n (lv' := [(2, .int (x ||| gAt 20 dr (nI i))), (3, .int (nI i)), (0, .ref (h 0)), (1, .int w)]) hx hb dX0_oneStepOn_30 rfl hl (by decide) rfl (fun ls hl => ?_)
      refine lv_iinc (v := nI (i + 1)) (lv' := [(3, .int (nI (i + 1))), (2, .int (x ||| gAt 20 dr (nI i))), (0, .ref (h 0)), (1, .int w)]) hx hb dX0_oneStepOn_31 hl (k := 1) rfl (nI_1 i) (by decide) rfl (fun ls hl => ?_)
      refine lv_goto (tgt := 4) hx hb dX0_oneStepOn_34 (by decide) ?_
      exact ihi H _ ls (by omega) ⟨(x ||| gAt 20 dr (nI i)), (by simp only [gOS, ← e_x]; simp [gOS, c_17]), hP, hS, lv_sub hl [0, 1, 2, 3] rfl⟩
set_option maxHeartbeats 4000000 in
set_option maxRecDepth 100000 in
theorem c_X0_guestsBoundTo (l : Launch) (dC : Nat → ClassId) (dI : Nat → Nat → Nat) (h : Nat → Nat) (kc : Nat → ClassId) (f1 : Nat → Int32) (f2 : Nat → Int32) (dr : Nat → Int32) (cl : Nat → Int32) (tr : Nat → Int32) (se : Nat → Int32) (g : Nat) (r : Nat) (inf : Int32) (c : Nat) (w : Int32) (hg : g ≤ 10) : Met l yX0_guestsBoundTo wsX0_guestsBoundTo ({ frames := 1, cells := 0, slots := 0, locals := 21 }) (gcPR (dC, dI) [.ref (h 0), .int w] (gcW h kc f1 f2 dr cl tr se (nI g) (nI r) inf (nI c)) (gcT kc)) (va_Qi (fun (r : Int32) (_u : Unit) => r = gGB cl w (2 * g)) (fun _ _ => True) (fun _ => False)) 0 0 (fun _ => False) := by
  refine Met.ofW (cc := cX0_guestsBoundTo) (maxL := 4) (ret := (some .int)) (by decide) rfl ?_
  intro p e s m args below meth c s₁ B hml hv
  obtain ⟨rfl, hP, hK⟩ := hv
  have hx := B.exec
  have hb := B.bytes
  have hr := B.returns
  have hts := atoms_spec (ws := wsX0_guestsBoundTo) B.pre
  have hown : s.vm.findClass RX0 = some m.cls := findClass_of_methodNamed B.named
  have hlocks := B.notSynchronized
  have hS : va_S (fun _ => False) s.heap s.heap [] := va_S.rf
  have hP : va_P (dC, dI) vwCl (gcW h kc f1 f2 dr cl tr se (nI g) (nI r) inf (nI c)) s.heap := hP
  have hin0 : ∀ w ∈ wsX00, w ∈ wsX0_guestsBoundTo := by decide +kernel
  have hl := lv_entry [.ref (h 0), .int w] (n := 4) (Nat.le_of_ble_eq_true rfl)
  rw [lg_entry_eq]
  generalize (lg_sl [.ref (h 0), .int w] ++ List.replicate (4 - (lg_sl [.ref (h 0), .int w]).length) Slot.unset).toArray = ls at hl ⊢
  have hl : lv_has ls 4 [(0, .ref (h 0)), (1, .int w)] := hl
  refine lv_iconst (v := 0) hx hb dX0_guestsBoundTo_0 (by decide) ?_
  refine lv_istore_n (lv' := [(2, .int 0), (0, .ref (h 0)), (1, .int w)]) hx hb dX0_guestsBoundTo_1 rfl hl (by decide) rfl (fun ls hl => ?_)
  refine lv_iconst (v := 0) hx hb dX0_guestsBoundTo_2 (by decide) ?_
  refine lv_istore_n (lv' := [(3, .int 0), (2, .int 0), (0, .ref (h 0)), (1, .int w)]) hx hb dX0_guestsBoundTo_3 rfl hl (by decide) rfl (fun ls hl => ?_)
  refine gc_loop (2 * g) (fun (i : Nat) (H : Heap) (locs : List Loc) (ls : Array Slot) => ∃ (x : Int32), x = gGB cl w i ∧ va_P (dC, dI) vwCl (gcW h kc f1 f2 dr cl tr se (nI g) (nI r) inf (nI c)) H ∧ va_S (fun _ => False) s.heap H locs ∧ lv_has ls 4 [(3, .int (nI i)), (2, .int x), (0, .ref (h 0)), (1, .int w)]) 0 (Nat.zero_le _) ⟨0, (by first | rfl | assumption | omega), hP, hS, lv_sub hl [0, 1, 2, 3] rfl⟩ ?_
  intro i H locs ls hi hI ihi
  obtain ⟨x, e_x, hP, hS, hl⟩ := hI
  refine lv_iload_n hx hb dX0_guestsBoundTo_4 rfl (lv_at hl 0 rfl) ?_
  refine lv_aload_n hx hb dX0_guestsBoundTo_5 rfl (lv_at hl 2 rfl) ?_
  have hPc : va_P (dC, dI) vwCl (gcW h kc f1 f2 dr cl tr se (nI g) (nI r) inf (nI c)) _ := hP.sub [0, 1, 2, 3, 4, 5, 6] rfl
  have hKc : va_K (dC, dI) vwCl (gcT kc) s := hK.sub [0, 1, 2, 3, 4, 5] rfl
  refine va_calli (va_runV (As := []) (rest := [.int (nI i)]) ⟨hx, hb, hml, hown, hts⟩ (c_X0_wishCount l dC dI h kc f1 f2 dr cl tr se g r inf c) (cwV 0 hts gX0_guestsBoundTo_X0_wishCount rfl rfl rfl (by decide +kernel) ⟨Nat.le_of_ble_eq_true rfl, Nat.le_of_ble_eq_true rfl⟩) ⟨gcPR_blind, va_recv hK hP (ci := 0) (q0 := 0) rfl rfl, fun U hU hW => ⟨rfl, by rw [hU]; exact hPc, va_K.moved hW.alike hKc⟩⟩ rfl rfl hl.1 rfl (lv_room (Nat.le_of_ble_eq_true rfl)) dX0_guestsBoundTo_6 ⟨Nat.zero_le _, Nat.zero_le _⟩) hS (fun q _ h => h.elim) (fun q h => h.elim) (fun r1 u t H locs ht hvm hw hB hz1 hk1 hS => ?_)
  have hP := gc_keep hP hk1
  have hw : r1 = nI (2 * g) := hw
  subst hw
  clear hB hz1 hk1 ht hvm
  clear hPc hKc
  refine lv_icmp_ge (tgt := 56) hx hb dX0_guestsBoundTo_9 (by decide) (fun c_9 => ?_) (fun c_9 => ?_)
  · skip
    have hEi : i = 2 * g := gc_ge c_9 (by omega) (by omega)
    refine lv_iload_n hx hb dX0_guestsBoundTo_56 rfl (lv_at hl 1 rfl) ?_
    have hpost : x = gGB cl w (2 * g) := by rw [e_x, hEi]
    exact W.iret (v := x) hx hb hr (fun t ht hW => ⟨⟨x, (), rfl, hpost, trivial⟩, hS.F ht⟩) hS.2.2 dX0_guestsBoundTo_57
  · skip
    have hLi : i < 2 * g := gc_lt c_9 (by omega)
    refine lv_aload_n hx hb dX0_guestsBoundTo_12 rfl (lv_at hl 2 rfl) ?_
    refine va_get (D := (dC, dI)) (ci := 0) (v := .ref (h 4)) (C := RX0) (T := TX0) (N := 10) hx hb hts hin0 hown hK hP 0 rfl rfl 3 (by decide) (hts (.fieldLink RX0 19 "GuestChairs" "closed" "[I") (by decide +kernel)) (fun _ h9 => h9) rfl dX0_guestsBoundTo_13 ?_
    refine lv_iload_n hx hb dX0_guestsBoundTo_16 rfl (lv_at hl 3 rfl) ?_
    have hPc : va_P (dC, dI) vwCl ([((h 4), .inl ((kc 4), 20, .inl cl))]) _ := hP.sub [4] rfl
    have hKc : va_K (dC, dI) vwCl ([((kc 4), .int)]) s := hK.sub [3] rfl
    refine va_calli (va_runS (As := [.ref (h 4), .int w]) (rest := []) ⟨hx, hb, hml, hown, hts⟩ (c_X0_at l dC dI (h 4) (kc 4) 20 cl w (by decide)) (va_cwS 2 hts gX0_guestsBoundTo_X0_at rfl rfl rfl (by decide +kernel) ⟨Nat.le_of_ble_eq_true rfl, Nat.le_of_ble_eq_true rfl⟩) ⟨gcPR_blind, fun U hU hW => ⟨rfl, by rw [hU]; exact hPc, va_K.moved hW.alike hKc⟩⟩ rfl rfl hl.1 rfl (lv_room (Nat.le_of_ble_eq_true rfl)) dX0_guestsBoundTo_17 ⟨Nat.zero_le _, Nat.zero_le _⟩) hS (fun q _ h => h.elim) (fun q h => h.elim) (fun r2 u t H locs ht hvm hw hB hz1 hk1 hS => ?_)
    have hP := gc_keep hP hk1
    have hw : r2 = gAt 20 cl w := hw
    subst hw
    clear hB hz1 hk1 ht hvm
    clear hPc hKc
    refine lv_iload_n hx hb dX0_guestsBoundTo_20 rfl (lv_at hl 0 rfl) ?_
    refine va_calli (va_runS (As := [.int (gAt 20 cl w), .int (nI i)]) (rest := []) ⟨hx, hb, hml, hown, hts⟩ (c_X0_has l (gAt 20 cl w) (nI i)) (va_cwS 2 hts gX0_guestsBoundTo_X0_has rfl rfl rfl (by decide +kernel) ⟨Nat.le_of_ble_eq_true rfl, Nat.le_of_ble_eq_true rfl⟩) ⟨fun a U g mk q => q, fun U hU hW => ⟨rfl, trivial⟩⟩ rfl rfl hl.1 rfl (lv_room (Nat.le_of_ble_eq_true rfl)) dX0_guestsBoundTo_21 ⟨Nat.zero_le _, Nat.zero_le _⟩) hS (fun q _ h => h.elim) (fun q h => h.elim) (fun r3 u t H locs ht hvm hw hB hz1 hk1 hS => ?_)
    have hP := gc_keep hP hk1
    have hw : r3 = gB (gHas (gAt 20 cl w) (nI i)) := hw
    subst hw
    clear hB hz1 hk1 ht hvm
    refine lv_if_eq (tgt := 50) hx hb dX0_guestsBoundTo_24 (by decide) (fun c_24 => ?_) (fun c_24 => ?_)
    · skip
      have c_24 := gB_f c_24
      refine lv_iinc (v := nI (i + 1)) (lv' := [(3, .int (nI (i + 1))), (2, .int x), (0, .ref (h 0)), (1, .int w)]) hx hb dX0_guestsBoundTo_50 hl (k := 0) rfl (nI_1 i) (by decide) rfl (fun ls hl => ?_)
      refine lv_goto (tgt := 4) hx hb dX0_guestsBoundTo_53 (by decide) ?_
      exact ihi H _ ls (by omega) ⟨x, (by simp only [gGB, ← e_x]; simp [gGB, c_24]), hP, hS, lv_sub hl [0, 1, 2, 3] rfl⟩
    · skip
      have c_24 := gB_t c_24
      refine lv_aload_n hx hb dX0_guestsBoundTo_27 rfl (lv_at hl 2 rfl) ?_
      refine va_get (D := (dC, dI)) (ci := 0) (v := .ref (h 4)) (C := RX0) (T := TX0) (N := 10) hx hb hts hin0 hown hK hP 0 rfl rfl 3 (by decide) (hts (.fieldLink RX0 19 "GuestChairs" "closed" "[I") (by decide +kernel)) (fun _ h9 => h9) rfl dX0_guestsBoundTo_28 ?_
      refine lv_iload_n hx hb dX0_guestsBoundTo_31 rfl (lv_at hl 0 rfl) ?_
      have hPc : va_P (dC, dI) vwCl ([((h 4), .inl ((kc 4), 20, .inl cl))]) _ := hP.sub [4] rfl
      have hKc : va_K (dC, dI) vwCl ([((kc 4), .int)]) s := hK.sub [3] rfl
      refine va_calli (va_runS (As := [.ref (h 4), .int (nI i)]) (rest := []) ⟨hx, hb, hml, hown, hts⟩ (c_X0_at l dC dI (h 4) (kc 4) 20 cl (nI i) (by decide)) (va_cwS 2 hts gX0_guestsBoundTo_X0_at rfl rfl rfl (by decide +kernel) ⟨Nat.le_of_ble_eq_true rfl, Nat.le_of_ble_eq_true rfl⟩) ⟨gcPR_blind, fun U hU hW => ⟨rfl, by rw [hU]; exact hPc, va_K.moved hW.alike hKc⟩⟩ rfl rfl hl.1 rfl (lv_room (Nat.le_of_ble_eq_true rfl)) dX0_guestsBoundTo_32 ⟨Nat.zero_le _, Nat.zero_le _⟩) hS (fun q _ h => h.elim) (fun q h => h.elim) (fun r4 u t H locs ht hvm hw hB hz1 hk1 hS => ?_)
      have hP := gc_keep hP hk1
      have hw : r4 = gAt 20 cl (nI i) := hw
      subst hw
      clear hB hz1 hk1 ht hvm
      clear hPc hKc
      refine lv_iload_n hx hb dX0_guestsBoundTo_35 rfl (lv_at hl 3 rfl) ?_
      refine va_calli (va_runS (As := [.int (gAt 20 cl (nI i)), .int w]) (rest := []) ⟨hx, hb, hml, hown, hts⟩ (c_X0_has l (gAt 20 cl (nI i)) w) (va_cwS 2 hts gX0_guestsBoundTo_X0_has rfl rfl rfl (by decide +kernel) ⟨Nat.le_of_ble_eq_true rfl, Nat.le_of_ble_eq_true rfl⟩) ⟨fun a U g mk q => q, fun U hU hW => ⟨rfl, trivial⟩⟩ rfl rfl hl.1 rfl (lv_room (Nat.le_of_ble_eq_true rfl)) dX0_guestsBoundTo_36 ⟨Nat.zero_le _, Nat.zero_le _⟩) hS (fun q _ h => h.elim) (fun q h => h.elim) (fun r5 u t H locs ht hvm hw hB hz1 hk1 hS => ?_)
      have hP := gc_keep hP hk1
      have hw : r5 = gB (gHas (gAt 20 cl (nI i)) w) := hw
      subst hw
      clear hB hz1 hk1 ht hvm
      refine lv_if_eq (tgt := 50) hx hb dX0_guestsBoundTo_39 (by decide) (fun c_39 => ?_) (fun c_39 => ?_)
      · skip
        have c_39 := gB_f c_39
        refine lv_iinc (v := nI (i + 1)) (lv' := [(3, .int (nI (i + 1))), (2, .int x), (0, .ref (h 0)), (1, .int w)]) hx hb dX0_guestsBoundTo_50 hl (k := 0) rfl (nI_1 i) (by decide) rfl (fun ls hl => ?_)
        refine lv_goto (tgt := 4) hx hb dX0_guestsBoundTo_53 (by decide) ?_
        exact ihi H _ ls (by omega) ⟨x, (by simp only [gGB, ← e_x]; simp [gGB, c_24, c_39]), hP, hS, lv_sub hl [0, 1, 2, 3] rfl⟩
      · skip
        have c_39 := gB_t c_39
        refine lv_iload_n hx hb dX0_guestsBoundTo_42 rfl (lv_at hl 1 rfl) ?_
        refine lv_iconst (v := 1) hx hb dX0_guestsBoundTo_43 (by decide) ?_
        refine lv_iload_n hx hb dX0_guestsBoundTo_44 rfl (lv_at hl 0 rfl) ?_
        refine lv_iconst (v := 1) hx hb dX0_guestsBoundTo_45 (by decide) ?_
        refine lv_ishr hx hb dX0_guestsBoundTo_46 ?_
        refine lv_ishl hx hb dX0_guestsBoundTo_47 ?_
        refine lv_ior hx hb dX0_guestsBoundTo_48 ?_
        refine lv_istore_n (lv' := [(2, .int (x ||| (1 <<< ((nI i >>> (1 &&& 31)) &&& 31)))), (3, .int (nI i)), (0, .ref (h 0)), (1, .int w)]) hx hb dX0_guestsBoundTo_49 rfl hl (by decide) rfl (fun ls hl => ?_)
        refine lv_iinc (v := nI (i + 1)) (lv' := [(3, .int (nI (i + 1))), (2, .int (x ||| (1 <<< ((nI i >>> (1 &&& 31)) &&& 31)))), (0, .ref (h 0)), (1, .int w)]) hx hb dX0_guestsBoundTo_50 hl (k := 1) rfl (nI_1 i) (by decide) rfl (fun ls hl => ?_)
        refine lv_goto (tgt := 4) hx hb dX0_guestsBoundTo_53 (by decide) ?_
        exact ihi H _ ls (by omega) ⟨(x ||| (1 <<< ((nI i >>> (1 &&& 31)) &&& 31))), (by simp only [gGB, ← e_x]; simp [gGB, c_24, c_39]), hP, hS, lv_sub hl [0, 1, 2, 3] rfl⟩
set_option maxHeartbeats 4000000 in
set_option maxRecDepth 100000 in
theorem c_X0_guestsComing (l : Launch) (dC : Nat → ClassId) (dI : Nat → Nat → Nat) (h : Nat → Nat) (kc : Nat → ClassId) (f1 : Nat → Int32) (f2 : Nat → Int32) (dr : Nat → Int32) (cl : Nat → Int32) (tr : Nat → Int32) (se : Nat → Int32) (g : Nat) (r : Nat) (inf : Int32) (c : Nat) (w : Int32) (hg : g ≤ 10) : Met l yX0_guestsComing wsX0_guestsComing ({ frames := 1, cells := 0, slots := 0, locals := 21 }) (gcPR (dC, dI) [.ref (h 0), .int w] (gcW h kc f1 f2 dr cl tr se (nI g) (nI r) inf (nI c)) (gcT kc)) (va_Qi (fun (r : Int32) (_u : Unit) => r = gGC w g) (fun _ _ => True) (fun _ => False)) 0 0 (fun _ => False) := by
  refine Met.ofW (cc := cX0_guestsComing) (maxL := 4) (ret := (some .int)) (by decide) rfl ?_
  intro p e s m args below meth c s₁ B hml hv
  obtain ⟨rfl, hP, hK⟩ := hv
  have hx := B.exec
  have hb := B.bytes
  have hr := B.returns
  have hts := atoms_spec (ws := wsX0_guestsComing) B.pre
  have hown : s.vm.findClass RX0 = some m.cls := findClass_of_methodNamed B.named
  have hlocks := B.notSynchronized
  have hS : va_S (fun _ => False) s.heap s.heap [] := va_S.rf
  have hP : va_P (dC, dI) vwCl (gcW h kc f1 f2 dr cl tr se (nI g) (nI r) inf (nI c)) s.heap := hP
  have hin0 : ∀ w ∈ wsX00, w ∈ wsX0_guestsComing := by decide +kernel
  have hl := lv_entry [.ref (h 0), .int w] (n := 4) (Nat.le_of_ble_eq_true rfl)
  rw [lg_entry_eq]
  generalize (lg_sl [.ref (h 0), .int w] ++ List.replicate (4 - (lg_sl [.ref (h 0), .int w]).length) Slot.unset).toArray = ls at hl ⊢
  have hl : lv_has ls 4 [(0, .ref (h 0)), (1, .int w)] := hl
  refine lv_iconst (v := 0) hx hb dX0_guestsComing_0 (by decide) ?_
  refine lv_istore_n (lv' := [(2, .int 0), (0, .ref (h 0)), (1, .int w)]) hx hb dX0_guestsComing_1 rfl hl (by decide) rfl (fun ls hl => ?_)
  refine lv_iconst (v := 0) hx hb dX0_guestsComing_2 (by decide) ?_
  refine lv_istore_n (lv' := [(3, .int 0), (2, .int 0), (0, .ref (h 0)), (1, .int w)]) hx hb dX0_guestsComing_3 rfl hl (by decide) rfl (fun ls hl => ?_)
  refine gc_loop (g) (fun (i : Nat) (H : Heap) (locs : List Loc) (ls : Array Slot) => ∃ (x : Int32), x = gGC w i ∧ va_P (dC, dI) vwCl (gcW h kc f1 f2 dr cl tr se (nI g) (nI r) inf (nI c)) H ∧ va_S (fun _ => False) s.heap H locs ∧ lv_has ls 4 [(3, .int (nI i)), (2, .int x), (0, .ref (h 0)), (1, .int w)]) 0 (Nat.zero_le _) ⟨0, (by first | rfl | assumption | omega), hP, hS, lv_sub hl [0, 1, 2, 3] rfl⟩ ?_
  intro i H locs ls hi hI ihi
  obtain ⟨x, e_x, hP, hS, hl⟩ := hI
  refine lv_iload_n hx hb dX0_guestsComing_4 rfl (lv_at hl 0 rfl) ?_
  refine lv_aload_n hx hb dX0_guestsComing_5 rfl (lv_at hl 2 rfl) ?_
  refine va_get (D := (dC, dI)) (ci := 0) (v := .int (nI g)) (C := RX0) (T := TX0) (N := 10) hx hb hts hin0 hown hK hP 0 rfl rfl 6 (by decide) (hts (.fieldLink RX0 31 "GuestChairs" "guestCount" "I") (by decide +kernel)) (fun _ h9 => h9) rfl dX0_guestsComing_6 ?_
  refine lv_icmp_ge (tgt := 34) hx hb dX0_guestsComing_9 (by decide) (fun c_9 => ?_) (fun c_9 => ?_)
  · skip
    have hEi : i = g := gc_ge c_9 (by omega) (by omega)
    refine lv_iload_n hx hb dX0_guestsComing_34 rfl (lv_at hl 1 rfl) ?_
    have hpost : x = gGC w g := by rw [e_x, hEi]
    exact W.iret (v := x) hx hb hr (fun t ht hW => ⟨⟨x, (), rfl, hpost, trivial⟩, hS.F ht⟩) hS.2.2 dX0_guestsComing_35
  · skip
    have hLi : i < g := gc_lt c_9 (by omega)
    refine lv_iload_n hx hb dX0_guestsComing_12 rfl (lv_at hl 3 rfl) ?_
    refine lv_iconst (v := 2) hx hb dX0_guestsComing_13 (by decide) ?_
    refine lv_iload_n hx hb dX0_guestsComing_14 rfl (lv_at hl 0 rfl) ?_
    refine lv_imul hx hb dX0_guestsComing_15 ?_
    refine va_calli (va_runS (As := [.int w, .int (2 * nI i)]) (rest := []) ⟨hx, hb, hml, hown, hts⟩ (c_X0_has l w (2 * nI i)) (va_cwS 2 hts gX0_guestsComing_X0_has rfl rfl rfl (by decide +kernel) ⟨Nat.le_of_ble_eq_true rfl, Nat.le_of_ble_eq_true rfl⟩) ⟨fun a U g mk q => q, fun U hU hW => ⟨rfl, trivial⟩⟩ rfl rfl hl.1 rfl (lv_room (Nat.le_of_ble_eq_true rfl)) dX0_guestsComing_16 ⟨Nat.zero_le _, Nat.zero_le _⟩) hS (fun q _ h => h.elim) (fun q h => h.elim) (fun r1 u t H locs ht hvm hw hB hz1 hk1 hS => ?_)
    have hP := gc_keep hP hk1
    have hw : r1 = gB (gHas w (2 * nI i)) := hw
    subst hw
    clear hB hz1 hk1 ht hvm
    refine lv_if_eq (tgt := 28) hx hb dX0_guestsComing_19 (by decide) (fun c_19 => ?_) (fun c_19 => ?_)
    · skip
      have c_19 := gB_f c_19
      refine lv_iinc (v := nI (i + 1)) (lv' := [(3, .int (nI (i + 1))), (2, .int x), (0, .ref (h 0)), (1, .int w)]) hx hb dX0_guestsComing_28 hl (k := 0) rfl (nI_1 i) (by decide) rfl (fun ls hl => ?_)
      refine lv_goto (tgt := 4) hx hb dX0_guestsComing_31 (by decide) ?_
      exact ihi H _ ls (by omega) ⟨x, (by simp only [gGC, ← e_x]; simp [gGC, c_19]), hP, hS, lv_sub hl [0, 1, 2, 3] rfl⟩
    · skip
      have c_19 := gB_t c_19
      refine lv_iload_n hx hb dX0_guestsComing_22 rfl (lv_at hl 1 rfl) ?_
      refine lv_iconst (v := 1) hx hb dX0_guestsComing_23 (by decide) ?_
      refine lv_iload_n hx hb dX0_guestsComing_24 rfl (lv_at hl 0 rfl) ?_
      refine lv_ishl hx hb dX0_guestsComing_25 ?_
      refine lv_ior hx hb dX0_guestsComing_26 ?_
      refine lv_istore_n (lv' := [(2, .int (x ||| (1 <<< (nI i &&& 31)))), (3, .int (nI i)), (0, .ref (h 0)), (1, .int w)]) hx hb dX0_guestsComing_27 rfl hl (by decide) rfl (fun ls hl => ?_)
      refine lv_iinc (v := nI (i + 1)) (lv' := [(3, .int (nI (i + 1))), (2, .int (x ||| (1 <<< (nI i &&& 31)))), (0, .ref (h 0)), (1, .int w)]) hx hb dX0_guestsComing_28 hl (k := 1) rfl (nI_1 i) (by decide) rfl (fun ls hl => ?_)
      refine lv_goto (tgt := 4) hx hb dX0_guestsComing_31 (by decide) ?_
      exact ihi H _ ls (by omega) ⟨(x ||| (1 <<< (nI i &&& 31))), (by simp only [gGC, ← e_x]; simp [gGC, c_19]), hP, hS, lv_sub hl [0, 1, 2, 3] rfl⟩
set_option maxHeartbeats 4000000 in
set_option maxRecDepth 100000 in
theorem c_X0_linkAllBut_dr (l : Launch) (dC : Nat → ClassId) (dI : Nat → Nat → Nat) (h : Nat → Nat) (kc : Nat → ClassId) (f1 : Nat → Int32) (f2 : Nat → Int32) (dr : Nat → Int32) (cl : Nat → Int32) (tr : Nat → Int32) (se : Nat → Int32) (g : Nat) (r : Nat) (inf : Int32) (c : Nat) (left : Int32) (sz : Nat) (hr30 : r ≤ 30) : Met l yX0_linkAllBut wsX0_linkAllBut ({ frames := 2, cells := 0, slots := 0, locals := 44 }) (gcPM (dC, dI) [.ref (h 0), .int left, .ref (h 3)] (gcW h kc f1 f2 dr cl tr se (nI g) (nI r) inf (nI c)) (gcT kc) sz) (va_Qv (fun (_u : Unit) => True) (fun _u t => va_P (dC, dI) vwCl (gcW h kc f1 f2 (gLA f1 f2 inf left r dr) cl tr se (nI g) (nI r) inf (nI c)) t.heap ∧ va_D (va_A (gcW h kc f1 f2 dr cl tr se (nI g) (nI r) inf (nI c)) sz) (gcW h kc f1 f2 (gLA f1 f2 inf left r dr) cl tr se (nI g) (nI r) inf (nI c))) (va_A (gcW h kc f1 f2 dr cl tr se (nI g) (nI r) inf (nI c)) sz)) 0 0 (va_A (gcW h kc f1 f2 dr cl tr se (nI g) (nI r) inf (nI c)) sz) := by
  refine Met.ofW (cc := cX0_linkAllBut) (maxL := 6) (ret := none) (by decide) rfl ?_
  intro p e s m args below meth c s₁ B hml hv
  obtain ⟨rfl, hsz, hP, hK, hD0⟩ := hv
  have hx := B.exec
  have hb := B.bytes
  have hr := B.returns
  have hts := atoms_spec (ws := wsX0_linkAllBut) B.pre
  have hown : s.vm.findClass RX0 = some m.cls := findClass_of_methodNamed B.named
  have hlocks := B.notSynchronized
  subst hsz
  have hD := hD0.self (sz := s.heap.size)
  generalize hAe : va_A (gcW h kc f1 f2 dr cl tr se (nI g) (nI r) inf (nI c)) s.heap.size = A at hD ⊢
  have hA : ∀ q : Nat, s.heap.size ≤ q → A q := fun q h => by rw [← hAe]; exact Or.inr h
  have hS : va_S A s.heap s.heap [] := va_S.rf
  have hP : va_P (dC, dI) vwCl (gcW h kc f1 f2 dr cl tr se (nI g) (nI r) inf (nI c)) s.heap := hP
  have hin0 : ∀ w ∈ wsX00, w ∈ wsX0_linkAllBut := by decide +kernel
  have hl := lv_entry [.ref (h 0), .int left, .ref (h 3)] (n := 6) (Nat.le_of_ble_eq_true rfl)
  rw [lg_entry_eq]
  generalize (lg_sl [.ref (h 0), .int left, .ref (h 3)] ++ List.replicate (6 - (lg_sl [.ref (h 0), .int left, .ref (h 3)]).length) Slot.unset).toArray = ls at hl ⊢
  have hl : lv_has ls 6 [(0, .ref (h 0)), (1, .int left), (2, .ref (h 3))] := hl
  refine lv_iconst (v := 0) hx hb dX0_linkAllBut_0 (by decide) ?_
  refine lv_istore_n (lv' := [(3, .int 0), (0, .ref (h 0)), (1, .int left), (2, .ref (h 3))]) hx hb dX0_linkAllBut_1 rfl hl (by decide) rfl (fun ls hl => ?_)
  refine gc_loop (20) (fun (a : Nat) (H : Heap) (locs : List Loc) (ls : Array Slot) => ∃ (fa : Nat → Int32), fa = gIn dr a ∧ va_P (dC, dI) vwCl (gcW h kc f1 f2 fa cl tr se (nI g) (nI r) inf (nI c)) H ∧ va_D A (gcW h kc f1 f2 fa cl tr se (nI g) (nI r) inf (nI c)) ∧ va_S A s.heap H locs ∧ lv_has ls 6 [(3, .int (nI a)), (0, .ref (h 0)), (1, .int left), (2, .ref (h 3))]) 0 (Nat.zero_le _) ⟨dr, (by first | rfl | assumption | omega), hP, hD, hS, lv_sub hl [0, 1, 2, 3] rfl⟩ ?_
  intro a H locs ls ha hI iha
  obtain ⟨fa, e_fa, hP, hD, hS, hl⟩ := hI
  refine lv_iload_n hx hb dX0_linkAllBut_2 rfl (lv_at hl 0 rfl) ?_
  refine lv_aload_n hx hb dX0_linkAllBut_3 rfl (lv_at hl 3 rfl) ?_
  refine va_alen hx hb hK hP 3 2 rfl rfl (v := nI 20) rfl dX0_linkAllBut_4 ?_
  refine lv_icmp_ge (tgt := 20) hx hb dX0_linkAllBut_5 (by decide) (fun c_5 => ?_) (fun c_5 => ?_)
  · skip
    have hEa : a = 20 := gc_ge c_5 (by omega) (by omega)
    refine lv_iconst (v := 0) hx hb dX0_linkAllBut_20 (by decide) ?_
    refine lv_istore_n (lv' := [(3, .int 0), (0, .ref (h 0)), (1, .int left), (2, .ref (h 3))]) hx hb dX0_linkAllBut_21 rfl hl (by decide) rfl (fun ls hl => ?_)
    refine gc_loop (r) (fun (i : Nat) (H : Heap) (locs : List Loc) (ls : Array Slot) => ∃ (fb : Nat → Int32), fb = gLk f1 f2 inf left (gIn dr 20) i ∧ va_P (dC, dI) vwCl (gcW h kc f1 f2 fb cl tr se (nI g) (nI r) inf (nI c)) H ∧ va_D A (gcW h kc f1 f2 fb cl tr se (nI g) (nI r) inf (nI c)) ∧ va_S A s.heap H locs ∧ lv_has ls 6 [(3, .int (nI i)), (0, .ref (h 0)), (1, .int left), (2, .ref (h 3))]) 0 (Nat.zero_le _) ⟨fa, (by rw [e_fa, hEa]; rfl), hP, hD, hS, lv_sub hl [0, 1, 2, 3] rfl⟩ ?_
    intro i H locs ls hi hI ihi
    obtain ⟨fb, e_fb, hP, hD, hS, hl⟩ := hI
    refine lv_iload_n hx hb dX0_linkAllBut_22 rfl (lv_at hl 0 rfl) ?_
    refine lv_aload_n hx hb dX0_linkAllBut_23 rfl (lv_at hl 1 rfl) ?_
    refine va_get (D := (dC, dI)) (ci := 0) (v := .int (nI r)) (C := RX0) (T := TX0) (N := 10) hx hb hts hin0 hown hK hP 0 rfl rfl 7 (by decide) (hts (.fieldLink RX0 51 "GuestChairs" "ruleCount" "I") (by decide +kernel)) (fun _ h9 => h9) rfl dX0_linkAllBut_24 ?_
    refine lv_icmp_ge (tgt := 94) hx hb dX0_linkAllBut_27 (by decide) (fun c_27 => ?_) (fun c_27 => ?_)
    · skip
      have hEi : i = r := gc_ge c_27 (by omega) (by omega)
      have hWe : (gcW h kc f1 f2 fb cl tr se (nI g) (nI r) inf (nI c)) = (gcW h kc f1 f2 (gLA f1 f2 inf left r dr) cl tr se (nI g) (nI r) inf (nI c)) := by rw [e_fb, hEi]; rfl
      rw [hWe] at hP hD
      exact W.vret hx hb hr (fun t ht hW => ⟨⟨(), rfl, trivial, ⟨by rw [ht]; exact hP, hD⟩⟩, hS.F ht⟩) hS.2.2 dX0_linkAllBut_94
    · skip
      have hLi : i < r := gc_lt c_27 (by omega)
      refine lv_iload_n hx hb dX0_linkAllBut_30 rfl (lv_at hl 0 rfl) ?_
      refine lv_iload_n hx hb dX0_linkAllBut_31 rfl (lv_at hl 2 rfl) ?_
      refine lv_icmp_eq (tgt := 88) hx hb dX0_linkAllBut_32 (by decide) (fun c_32 => ?_) (fun c_32 => ?_)
      · skip
        refine lv_iinc (v := nI (i + 1)) (lv' := [(3, .int (nI (i + 1))), (0, .ref (h 0)), (1, .int left), (2, .ref (h 3))]) hx hb dX0_linkAllBut_88 hl (k := 0) rfl (nI_1 i) (by decide) rfl (fun ls hl => ?_)
        refine lv_goto (tgt := 22) hx hb dX0_linkAllBut_91 (by decide) ?_
        exact ihi H _ ls (by omega) ⟨fb, (by simp only [gLk, ← e_fb]; simp [gLk, c_32]), hP, hD, hS, lv_sub hl [0, 1, 2, 3] rfl⟩
      · skip
        refine lv_aload_n hx hb dX0_linkAllBut_35 rfl (lv_at hl 1 rfl) ?_
        refine va_get (D := (dC, dI)) (ci := 0) (v := .int inf) (C := RX0) (T := TX0) (N := 10) hx hb hts hin0 hown hK hP 0 rfl rfl 8 (by decide) (hts (.fieldLink RX0 60 "GuestChairs" "inForce" "I") (by decide +kernel)) (fun _ h9 => h9) rfl dX0_linkAllBut_36 ?_
        refine lv_iload_n hx hb dX0_linkAllBut_39 rfl (lv_at hl 0 rfl) ?_
        refine va_calli (va_runS (As := [.int inf, .int (nI i)]) (rest := []) ⟨hx, hb, hml, hown, hts⟩ (c_X0_has l inf (nI i)) (va_cwS 2 hts gX0_linkAllBut_X0_has rfl rfl rfl (by decide +kernel) ⟨Nat.le_of_ble_eq_true rfl, Nat.le_of_ble_eq_true rfl⟩) ⟨fun a U g mk q => q, fun U hU hW => ⟨rfl, trivial⟩⟩ rfl rfl hl.1 rfl (lv_room (Nat.le_of_ble_eq_true rfl)) dX0_linkAllBut_40 ⟨Nat.zero_le _, Nat.zero_le _⟩) hS (fun q _ h => h.elim) (fun q h => h.elim) (fun r1 u t H locs ht hvm hw hB hz1 hk1 hS => ?_)
        have hP := gc_keep hP hk1
        have hw : r1 = gB (gHas inf (nI i)) := hw
        subst hw
        clear hB hz1 hk1 ht hvm
        refine lv_if_eq (tgt := 88) hx hb dX0_linkAllBut_43 (by decide) (fun c_43 => ?_) (fun c_43 => ?_)
        · skip
          have c_43 := gB_f c_43
          refine lv_iinc (v := nI (i + 1)) (lv' := [(3, .int (nI (i + 1))), (0, .ref (h 0)), (1, .int left), (2, .ref (h 3))]) hx hb dX0_linkAllBut_88 hl (k := 0) rfl (nI_1 i) (by decide) rfl (fun ls hl => ?_)
          refine lv_goto (tgt := 22) hx hb dX0_linkAllBut_91 (by decide) ?_
          exact ihi H _ ls (by omega) ⟨fb, (by simp only [gLk, ← e_fb]; simp [gLk, c_32, c_43]), hP, hD, hS, lv_sub hl [0, 1, 2, 3] rfl⟩
        · skip
          have c_43 := gB_t c_43
          refine lv_aload_n hx hb dX0_linkAllBut_46 rfl (lv_at hl 1 rfl) ?_
          refine va_get (D := (dC, dI)) (ci := 0) (v := .ref (h 1)) (C := RX0) (T := TX0) (N := 10) hx hb hts hin0 hown hK hP 0 rfl rfl 0 (by decide) (hts (.fieldLink RX0 9 "GuestChairs" "firsts" "[I") (by decide +kernel)) (fun _ h9 => h9) rfl dX0_linkAllBut_47 ?_
          refine lv_iload_n hx hb dX0_linkAllBut_50 rfl (lv_at hl 0 rfl) ?_
          have hPc : va_P (dC, dI) vwCl ([((h 1), .inl ((kc 1), 30, .inl f1))]) _ := hP.sub [1] rfl
          have hKc : va_K (dC, dI) vwCl ([((kc 1), .int)]) s := hK.sub [0] rfl
          refine va_calli (va_runS (As := [.ref (h 1), .int (nI i)]) (rest := []) ⟨hx, hb, hml, hown, hts⟩ (c_X0_at l dC dI (h 1) (kc 1) 30 f1 (nI i) (by decide)) (va_cwS 2 hts gX0_linkAllBut_X0_at rfl rfl rfl (by decide +kernel) ⟨Nat.le_of_ble_eq_true rfl, Nat.le_of_ble_eq_true rfl⟩) ⟨gcPR_blind, fun U hU hW => ⟨rfl, by rw [hU]; exact hPc, va_K.moved hW.alike hKc⟩⟩ rfl rfl hl.1 rfl (lv_room (Nat.le_of_ble_eq_true rfl)) dX0_linkAllBut_51 ⟨Nat.zero_le _, Nat.zero_le _⟩) hS (fun q _ h => h.elim) (fun q h => h.elim) (fun r2 u t H locs ht hvm hw hB hz1 hk1 hS => ?_)
          have hP := gc_keep hP hk1
          have hw : r2 = gAt 30 f1 (nI i) := hw
          subst hw
          clear hB hz1 hk1 ht hvm
          clear hPc hKc
          refine lv_istore (lv' := [(4, .int (gAt 30 f1 (nI i))), (3, .int (nI i)), (0, .ref (h 0)), (1, .int left), (2, .ref (h 3))]) hx hb dX0_linkAllBut_54 hl (by decide) rfl (fun ls hl => ?_)
          refine lv_aload_n hx hb dX0_linkAllBut_56 rfl (lv_at hl 2 rfl) ?_
          refine va_get (D := (dC, dI)) (ci := 0) (v := .ref (h 2)) (C := RX0) (T := TX0) (N := 10) hx hb hts hin0 hown hK hP 0 rfl rfl 1 (by decide) (hts (.fieldLink RX0 13 "GuestChairs" "seconds" "[I") (by decide +kernel)) (fun _ h9 => h9) rfl dX0_linkAllBut_57 ?_
          refine lv_iload_n hx hb dX0_linkAllBut_60 rfl (lv_at hl 1 rfl) ?_
          have hPc : va_P (dC, dI) vwCl ([((h 2), .inl ((kc 2), 30, .inl f2))]) _ := hP.sub [2] rfl
          have hKc : va_K (dC, dI) vwCl ([((kc 2), .int)]) s := hK.sub [1] rfl
          refine va_calli (va_runS (As := [.ref (h 2), .int (nI i)]) (rest := []) ⟨hx, hb, hml, hown, hts⟩ (c_X0_at l dC dI (h 2) (kc 2) 30 f2 (nI i) (by decide)) (va_cwS 2 hts gX0_linkAllBut_X0_at rfl rfl rfl (by decide +kernel) ⟨Nat.le_of_ble_eq_true rfl, Nat.le_of_ble_eq_true rfl⟩) ⟨gcPR_blind, fun U hU hW => ⟨rfl, by rw [hU]; exact hPc, va_K.moved hW.alike hKc⟩⟩ rfl rfl hl.1 rfl (lv_room (Nat.le_of_ble_eq_true rfl)) dX0_linkAllBut_61 ⟨Nat.zero_le _, Nat.zero_le _⟩) hS (fun q _ h => h.elim) (fun q h => h.elim) (fun r3 u t H locs ht hvm hw hB hz1 hk1 hS => ?_)
          have hP := gc_keep hP hk1
          have hw : r3 = gAt 30 f2 (nI i) := hw
          subst hw
          clear hB hz1 hk1 ht hvm
          clear hPc hKc
          refine lv_istore (lv' := [(5, .int (gAt 30 f2 (nI i))), (4, .int (gAt 30 f1 (nI i))), (3, .int (nI i)), (0, .ref (h 0)), (1, .int left), (2, .ref (h 3))]) hx hb dX0_linkAllBut_64 hl (by decide) rfl (fun ls hl => ?_)
          refine lv_aload_n hx hb dX0_linkAllBut_66 rfl (lv_at hl 5 rfl) ?_
          refine lv_iload hx hb dX0_linkAllBut_67 (lv_at hl 1 rfl) ?_
          refine lv_iload hx hb dX0_linkAllBut_69 (lv_at hl 0 rfl) ?_
          have hPc : va_P (dC, dI) vwCl ([((h 3), .inl ((kc 3), 20, .inl fb))]) _ := hP.sub [3] rfl
          have hKc : va_K (dC, dI) vwCl ([((kc 3), .int)]) s := hK.sub [2] rfl
          have hDc : va_D A ([((h 3), .inl ((kc 3), 20, .inl fb))]) := hD.sub [3] (by decide) rfl
          have hFc := va_free (wc := ([((h 3), .inl ((kc 3), 20, .inl fb))])) hD hS hA [3] rfl
          refine va_callv (va_runS (As := [.ref (h 3), .int (gAt 30 f1 (nI i)), .int (gAt 30 f2 (nI i))]) (rest := []) ⟨hx, hb, hml, hown, hts⟩ (c_X0_link l dC dI (h 3) (kc 3) 20 fb (gAt 30 f1 (nI i)) (gAt 30 f2 (nI i)) H.size (by decide)) (va_cwS 3 hts gX0_linkAllBut_X0_link rfl rfl rfl (by decide +kernel) ⟨Nat.le_of_ble_eq_true rfl, Nat.le_of_ble_eq_true rfl⟩) ⟨gcPM_blind, fun U hU hW => ⟨rfl, by rw [hU], by rw [hU]; exact hPc, va_K.moved hW.alike hKc, hDc.weaken (fun _ _ _ _ => trivial)⟩⟩ rfl rfl hl.1 rfl (lv_room (Nat.le_of_ble_eq_true rfl)) dX0_linkAllBut_71 ⟨Nat.zero_le _, Nat.zero_le _⟩) hS (fun q _ h => hFc q h) hFc (fun u t H locs ht hvm hw hB hz1 hk1 hS => ?_)
          obtain ⟨hP1, hD1⟩ := hB
          rw [ht] at hP1
          obtain ⟨hP, hD⟩ := va_join (wr := [(h 0, .inr (0, [.ref (h 1), .ref (h 2), .ref (h 3), .ref (h 4), .ref (h 5), .ref (h 6), .int (nI g), .int (nI r), .int inf, .int (nI c)])), (h 1, .inl (kc 1, 30, .inl f1)), (h 2, .inl (kc 2, 30, .inl f2)), (h 4, .inl (kc 4, 20, .inl cl)), (h 5, .inl (kc 5, 20, .inl tr)), (h 6, .inl (kc 6, 1024, .inl se))]) (w1 := ([((h 3), .inl ((kc 3), 20, .inl (gLink 20 fb (gAt 30 f1 (nI i)) (gAt 30 f2 (nI i)))))])) hP hD [3] [0, 1, 2, 4, 5, 6] rfl rfl (by decide) (by decide) hk1 hFc hP1 hD1
          have hP : va_P (dC, dI) vwCl (gcW h kc f1 f2 (gLink 20 fb (gAt 30 f1 (nI i)) (gAt 30 f2 (nI i))) cl tr se (nI g) (nI r) inf (nI c)) H := hP.sub [0, 1, 2, 6, 3, 4, 5] rfl
          have hD : va_D A (gcW h kc f1 f2 (gLink 20 fb (gAt 30 f1 (nI i)) (gAt 30 f2 (nI i))) cl tr se (nI g) (nI r) inf (nI c)) := hD.sub [0, 1, 2, 6, 3, 4, 5] (by decide) rfl
          clear hz1 hk1 ht hvm hP1 hD1 hFc hDc
          clear hPc hKc
          refine lv_aload_n hx hb dX0_linkAllBut_74 rfl (lv_at hl 5 rfl) ?_
          refine lv_iload hx hb dX0_linkAllBut_75 (lv_at hl 0 rfl) ?_
          refine va_calli (va_runS (As := [.int (gAt 30 f2 (nI i))]) (rest := [.ref (h 3)]) ⟨hx, hb, hml, hown, hts⟩ (c_X0_against l (gAt 30 f2 (nI i))) (va_cwS 1 hts gX0_linkAllBut_X0_against rfl rfl rfl (by decide +kernel) ⟨Nat.le_of_ble_eq_true rfl, Nat.le_of_ble_eq_true rfl⟩) ⟨fun a U g mk q => q, fun U hU hW => ⟨rfl, trivial⟩⟩ rfl rfl hl.1 rfl (lv_room (Nat.le_of_ble_eq_true rfl)) dX0_linkAllBut_77 ⟨Nat.zero_le _, Nat.zero_le _⟩) hS (fun q _ h => h.elim) (fun q h => h.elim) (fun r5 u t H locs ht hvm hw hB hz1 hk1 hS => ?_)
          have hP := gc_keep hP hk1
          have hw : r5 = ((gAt 30 f2 (nI i)) ^^^ 1) := hw
          subst hw
          clear hB hz1 hk1 ht hvm
          refine lv_iload hx hb dX0_linkAllBut_80 (lv_at hl 1 rfl) ?_
          refine va_calli (va_runS (As := [.int (gAt 30 f1 (nI i))]) (rest := [.int ((gAt 30 f2 (nI i)) ^^^ 1), .ref (h 3)]) ⟨hx, hb, hml, hown, hts⟩ (c_X0_against l (gAt 30 f1 (nI i))) (va_cwS 1 hts gX0_linkAllBut_X0_against rfl rfl rfl (by decide +kernel) ⟨Nat.le_of_ble_eq_true rfl, Nat.le_of_ble_eq_true rfl⟩) ⟨fun a U g mk q => q, fun U hU hW => ⟨rfl, trivial⟩⟩ rfl rfl hl.1 rfl (lv_room (Nat.le_of_ble_eq_true rfl)) dX0_linkAllBut_82 ⟨Nat.zero_le _, Nat.zero_le _⟩) hS (fun q _ h => h.elim) (fun q h => h.elim) (fun r6 u t H locs ht hvm hw hB hz1 hk1 hS => ?_)
          have hP := gc_keep hP hk1
          have hw : r6 = ((gAt 30 f1 (nI i)) ^^^ 1) := hw
          subst hw
          clear hB hz1 hk1 ht hvm
          have hPc : va_P (dC, dI) vwCl ([((h 3), .inl ((kc 3), 20, .inl (gLink 20 fb (gAt 30 f1 (nI i)) (gAt 30 f2 (nI i)))))]) _ := hP.sub [3] rfl
          have hKc : va_K (dC, dI) vwCl ([((kc 3), .int)]) s := hK.sub [2] rfl
          have hDc : va_D A ([((h 3), .inl ((kc 3), 20, .inl (gLink 20 fb (gAt 30 f1 (nI i)) (gAt 30 f2 (nI i)))))]) := hD.sub [3] (by decide) rfl
          have hFc := va_free (wc := ([((h 3), .inl ((kc 3), 20, .inl (gLink 20 fb (gAt 30 f1 (nI i)) (gAt 30 f2 (nI i)))))])) hD hS hA [3] rfl
          refine va_callv (va_runS (As := [.ref (h 3), .int ((gAt 30 f2 (nI i)) ^^^ 1), .int ((gAt 30 f1 (nI i)) ^^^ 1)]) (rest := []) ⟨hx, hb, hml, hown, hts⟩ (c_X0_link l dC dI (h 3) (kc 3) 20 (gLink 20 fb (gAt 30 f1 (nI i)) (gAt 30 f2 (nI i))) ((gAt 30 f2 (nI i)) ^^^ 1) ((gAt 30 f1 (nI i)) ^^^ 1) H.size (by decide)) (va_cwS 3 hts gX0_linkAllBut_X0_link rfl rfl rfl (by decide +kernel) ⟨Nat.le_of_ble_eq_true rfl, Nat.le_of_ble_eq_true rfl⟩) ⟨gcPM_blind, fun U hU hW => ⟨rfl, by rw [hU], by rw [hU]; exact hPc, va_K.moved hW.alike hKc, hDc.weaken (fun _ _ _ _ => trivial)⟩⟩ rfl rfl hl.1 rfl (lv_room (Nat.le_of_ble_eq_true rfl)) dX0_linkAllBut_85 ⟨Nat.zero_le _, Nat.zero_le _⟩) hS (fun q _ h => hFc q h) hFc (fun u t H locs ht hvm hw hB hz1 hk1 hS => ?_)
          obtain ⟨hP1, hD1⟩ := hB
          rw [ht] at hP1
          obtain ⟨hP, hD⟩ := va_join (wr := [(h 0, .inr (0, [.ref (h 1), .ref (h 2), .ref (h 3), .ref (h 4), .ref (h 5), .ref (h 6), .int (nI g), .int (nI r), .int inf, .int (nI c)])), (h 1, .inl (kc 1, 30, .inl f1)), (h 2, .inl (kc 2, 30, .inl f2)), (h 4, .inl (kc 4, 20, .inl cl)), (h 5, .inl (kc 5, 20, .inl tr)), (h 6, .inl (kc 6, 1024, .inl se))]) (w1 := ([((h 3), .inl ((kc 3), 20, .inl (gLink 20 (gLink 20 fb (gAt 30 f1 (nI i)) (gAt 30 f2 (nI i))) ((gAt 30 f2 (nI i)) ^^^ 1) ((gAt 30 f1 (nI i)) ^^^ 1))))])) hP hD [3] [0, 1, 2, 4, 5, 6] rfl rfl (by decide) (by decide) hk1 hFc hP1 hD1
          have hP : va_P (dC, dI) vwCl (gcW h kc f1 f2 (gLink 20 (gLink 20 fb (gAt 30 f1 (nI i)) (gAt 30 f2 (nI i))) ((gAt 30 f2 (nI i)) ^^^ 1) ((gAt 30 f1 (nI i)) ^^^ 1)) cl tr se (nI g) (nI r) inf (nI c)) H := hP.sub [0, 1, 2, 6, 3, 4, 5] rfl
          have hD : va_D A (gcW h kc f1 f2 (gLink 20 (gLink 20 fb (gAt 30 f1 (nI i)) (gAt 30 f2 (nI i))) ((gAt 30 f2 (nI i)) ^^^ 1) ((gAt 30 f1 (nI i)) ^^^ 1)) cl tr se (nI g) (nI r) inf (nI c)) := hD.sub [0, 1, 2, 6, 3, 4, 5] (by decide) rfl
          clear hz1 hk1 ht hvm hP1 hD1 hFc hDc
          clear hPc hKc
          refine lv_iinc (v := nI (i + 1)) (lv' := [(3, .int (nI (i + 1))), (5, .int (gAt 30 f2 (nI i))), (4, .int (gAt 30 f1 (nI i))), (0, .ref (h 0)), (1, .int left), (2, .ref (h 3))]) hx hb dX0_linkAllBut_88 hl (k := 2) rfl (nI_1 i) (by decide) rfl (fun ls hl => ?_)
          refine lv_goto (tgt := 22) hx hb dX0_linkAllBut_91 (by decide) ?_
          exact ihi H _ ls (by omega) ⟨(gLink 20 (gLink 20 fb (gAt 30 f1 (nI i)) (gAt 30 f2 (nI i))) ((gAt 30 f2 (nI i)) ^^^ 1) ((gAt 30 f1 (nI i)) ^^^ 1)), (by simp only [gLk, ← e_fb]; simp [gLk, c_32, c_43]), hP, hD, hS, lv_sub hl [0, 3, 4, 5] rfl⟩
  · skip
    have hLa : a < 20 := gc_lt c_5 (by omega)
    refine lv_aload_n hx hb dX0_linkAllBut_8 rfl (lv_at hl 3 rfl) ?_
    refine lv_iload_n hx hb dX0_linkAllBut_9 rfl (lv_at hl 0 rfl) ?_
    refine lv_iconst (v := 1) hx hb dX0_linkAllBut_10 (by decide) ?_
    refine lv_iload_n hx hb dX0_linkAllBut_11 rfl (lv_at hl 0 rfl) ?_
    refine lv_ishl hx hb dX0_linkAllBut_12 ?_
    refine va_iast hx hb hK hP hD hS 3 2 rfl rfl (vp_in_nI (n := a) (by omega) (by decide)) dX0_linkAllBut_13 (fun H locs hP hD hS => ?_)
    rw [nI_clamp (n := a) (by omega)] at hP hD
    have hP : va_P (dC, dI) vwCl (gcW h kc f1 f2 (upd fa a (1 <<< (nI a &&& 31))) cl tr se (nI g) (nI r) inf (nI c)) H := hP
    have hD : va_D A (gcW h kc f1 f2 (upd fa a (1 <<< (nI a &&& 31))) cl tr se (nI g) (nI r) inf (nI c)) := hD
    refine lv_iinc (v := nI (a + 1)) (lv' := [(3, .int (nI (a + 1))), (0, .ref (h 0)), (1, .int left), (2, .ref (h 3))]) hx hb dX0_linkAllBut_14 hl (k := 0) rfl (nI_1 a) (by decide) rfl (fun ls hl => ?_)
    refine lv_goto (tgt := 2) hx hb dX0_linkAllBut_17 (by decide) ?_
    exact iha H _ ls (by omega) ⟨(upd fa a (1 <<< (nI a &&& 31))), (by rw [e_fa]; rfl), hP, hD, hS, lv_sub hl [0, 1, 2, 3] rfl⟩
set_option maxHeartbeats 4000000 in
set_option maxRecDepth 100000 in
theorem c_X0_linkAllBut_cl (l : Launch) (dC : Nat → ClassId) (dI : Nat → Nat → Nat) (h : Nat → Nat) (kc : Nat → ClassId) (f1 : Nat → Int32) (f2 : Nat → Int32) (dr : Nat → Int32) (cl : Nat → Int32) (tr : Nat → Int32) (se : Nat → Int32) (g : Nat) (r : Nat) (inf : Int32) (c : Nat) (left : Int32) (sz : Nat) (hr30 : r ≤ 30) : Met l yX0_linkAllBut wsX0_linkAllBut ({ frames := 2, cells := 0, slots := 0, locals := 44 }) (gcPM (dC, dI) [.ref (h 0), .int left, .ref (h 4)] (gcW h kc f1 f2 dr cl tr se (nI g) (nI r) inf (nI c)) (gcT kc) sz) (va_Qv (fun (_u : Unit) => True) (fun _u t => va_P (dC, dI) vwCl (gcW h kc f1 f2 dr (gLA f1 f2 inf left r cl) tr se (nI g) (nI r) inf (nI c)) t.heap ∧ va_D (va_A (gcW h kc f1 f2 dr cl tr se (nI g) (nI r) inf (nI c)) sz) (gcW h kc f1 f2 dr (gLA f1 f2 inf left r cl) tr se (nI g) (nI r) inf (nI c))) (va_A (gcW h kc f1 f2 dr cl tr se (nI g) (nI r) inf (nI c)) sz)) 0 0 (va_A (gcW h kc f1 f2 dr cl tr se (nI g) (nI r) inf (nI c)) sz) := by
  refine Met.ofW (cc := cX0_linkAllBut) (maxL := 6) (ret := none) (by decide) rfl ?_
  intro p e s m args below meth c s₁ B hml hv
  obtain ⟨rfl, hsz, hP, hK, hD0⟩ := hv
  have hx := B.exec
  have hb := B.bytes
  have hr := B.returns
  have hts := atoms_spec (ws := wsX0_linkAllBut) B.pre
  have hown : s.vm.findClass RX0 = some m.cls := findClass_of_methodNamed B.named
  have hlocks := B.notSynchronized
  subst hsz
  have hD := hD0.self (sz := s.heap.size)
  generalize hAe : va_A (gcW h kc f1 f2 dr cl tr se (nI g) (nI r) inf (nI c)) s.heap.size = A at hD ⊢
  have hA : ∀ q : Nat, s.heap.size ≤ q → A q := fun q h => by rw [← hAe]; exact Or.inr h
  have hS : va_S A s.heap s.heap [] := va_S.rf
  have hP : va_P (dC, dI) vwCl (gcW h kc f1 f2 dr cl tr se (nI g) (nI r) inf (nI c)) s.heap := hP
  have hin0 : ∀ w ∈ wsX00, w ∈ wsX0_linkAllBut := by decide +kernel
  have hl := lv_entry [.ref (h 0), .int left, .ref (h 4)] (n := 6) (Nat.le_of_ble_eq_true rfl)
  rw [lg_entry_eq]
  generalize (lg_sl [.ref (h 0), .int left, .ref (h 4)] ++ List.replicate (6 - (lg_sl [.ref (h 0), .int left, .ref (h 4)]).length) Slot.unset).toArray = ls at hl ⊢
  have hl : lv_has ls 6 [(0, .ref (h 0)), (1, .int left), (2, .ref (h 4))] := hl
  refine lv_iconst (v := 0) hx hb dX0_linkAllBut_0 (by decide) ?_
  refine lv_istore_n (lv' := [(3, .int 0), (0, .ref (h 0)), (1, .int left), (2, .ref (h 4))]) hx hb dX0_linkAllBut_1 rfl hl (by decide) rfl (fun ls hl => ?_)
  refine gc_loop (20) (fun (a : Nat) (H : Heap) (locs : List Loc) (ls : Array Slot) => ∃ (fa : Nat → Int32), fa = gIn cl a ∧ va_P (dC, dI) vwCl (gcW h kc f1 f2 dr fa tr se (nI g) (nI r) inf (nI c)) H ∧ va_D A (gcW h kc f1 f2 dr fa tr se (nI g) (nI r) inf (nI c)) ∧ va_S A s.heap H locs ∧ lv_has ls 6 [(3, .int (nI a)), (0, .ref (h 0)), (1, .int left), (2, .ref (h 4))]) 0 (Nat.zero_le _) ⟨cl, (by first | rfl | assumption | omega), hP, hD, hS, lv_sub hl [0, 1, 2, 3] rfl⟩ ?_
  intro a H locs ls ha hI iha
  obtain ⟨fa, e_fa, hP, hD, hS, hl⟩ := hI
  refine lv_iload_n hx hb dX0_linkAllBut_2 rfl (lv_at hl 0 rfl) ?_
  refine lv_aload_n hx hb dX0_linkAllBut_3 rfl (lv_at hl 3 rfl) ?_
  refine va_alen hx hb hK hP 4 3 rfl rfl (v := nI 20) rfl dX0_linkAllBut_4 ?_
  refine lv_icmp_ge (tgt := 20) hx hb dX0_linkAllBut_5 (by decide) (fun c_5 => ?_) (fun c_5 => ?_)
  · skip
    have hEa : a = 20 := gc_ge c_5 (by omega) (by omega)
    refine lv_iconst (v := 0) hx hb dX0_linkAllBut_20 (by decide) ?_
    refine lv_istore_n (lv' := [(3, .int 0), (0, .ref (h 0)), (1, .int left), (2, .ref (h 4))]) hx hb dX0_linkAllBut_21 rfl hl (by decide) rfl (fun ls hl => ?_)
    refine gc_loop (r) (fun (i : Nat) (H : Heap) (locs : List Loc) (ls : Array Slot) => ∃ (fb : Nat → Int32), fb = gLk f1 f2 inf left (gIn cl 20) i ∧ va_P (dC, dI) vwCl (gcW h kc f1 f2 dr fb tr se (nI g) (nI r) inf (nI c)) H ∧ va_D A (gcW h kc f1 f2 dr fb tr se (nI g) (nI r) inf (nI c)) ∧ va_S A s.heap H locs ∧ lv_has ls 6 [(3, .int (nI i)), (0, .ref (h 0)), (1, .int left), (2, .ref (h 4))]) 0 (Nat.zero_le _) ⟨fa, (by rw [e_fa, hEa]; rfl), hP, hD, hS, lv_sub hl [0, 1, 2, 3] rfl⟩ ?_
    intro i H locs ls hi hI ihi
    obtain ⟨fb, e_fb, hP, hD, hS, hl⟩ := hI
    refine lv_iload_n hx hb dX0_linkAllBut_22 rfl (lv_at hl 0 rfl) ?_
    refine lv_aload_n hx hb dX0_linkAllBut_23 rfl (lv_at hl 1 rfl) ?_
    refine va_get (D := (dC, dI)) (ci := 0) (v := .int (nI r)) (C := RX0) (T := TX0) (N := 10) hx hb hts hin0 hown hK hP 0 rfl rfl 7 (by decide) (hts (.fieldLink RX0 51 "GuestChairs" "ruleCount" "I") (by decide +kernel)) (fun _ h9 => h9) rfl dX0_linkAllBut_24 ?_
    refine lv_icmp_ge (tgt := 94) hx hb dX0_linkAllBut_27 (by decide) (fun c_27 => ?_) (fun c_27 => ?_)
    · skip
      have hEi : i = r := gc_ge c_27 (by omega) (by omega)
      have hWe : (gcW h kc f1 f2 dr fb tr se (nI g) (nI r) inf (nI c)) = (gcW h kc f1 f2 dr (gLA f1 f2 inf left r cl) tr se (nI g) (nI r) inf (nI c)) := by rw [e_fb, hEi]; rfl
      rw [hWe] at hP hD
      exact W.vret hx hb hr (fun t ht hW => ⟨⟨(), rfl, trivial, ⟨by rw [ht]; exact hP, hD⟩⟩, hS.F ht⟩) hS.2.2 dX0_linkAllBut_94
    · skip
      have hLi : i < r := gc_lt c_27 (by omega)
      refine lv_iload_n hx hb dX0_linkAllBut_30 rfl (lv_at hl 0 rfl) ?_
      refine lv_iload_n hx hb dX0_linkAllBut_31 rfl (lv_at hl 2 rfl) ?_
      refine lv_icmp_eq (tgt := 88) hx hb dX0_linkAllBut_32 (by decide) (fun c_32 => ?_) (fun c_32 => ?_)
      · skip
        refine lv_iinc (v := nI (i + 1)) (lv' := [(3, .int (nI (i + 1))), (0, .ref (h 0)), (1, .int left), (2, .ref (h 4))]) hx hb dX0_linkAllBut_88 hl (k := 0) rfl (nI_1 i) (by decide) rfl (fun ls hl => ?_)
        refine lv_goto (tgt := 22) hx hb dX0_linkAllBut_91 (by decide) ?_
        exact ihi H _ ls (by omega) ⟨fb, (by simp only [gLk, ← e_fb]; simp [gLk, c_32]), hP, hD, hS, lv_sub hl [0, 1, 2, 3] rfl⟩
      · skip
        refine lv_aload_n hx hb dX0_linkAllBut_35 rfl (lv_at hl 1 rfl) ?_
        refine va_get (D := (dC, dI)) (ci := 0) (v := .int inf) (C := RX0) (T := TX0) (N := 10) hx hb hts hin0 hown hK hP 0 rfl rfl 8 (by decide) (hts (.fieldLink RX0 60 "GuestChairs" "inForce" "I") (by decide +kernel)) (fun _ h9 => h9) rfl dX0_linkAllBut_36 ?_
        refine lv_iload_n hx hb dX0_linkAllBut_39 rfl (lv_at hl 0 rfl) ?_
        refine va_calli (va_runS (As := [.int inf, .int (nI i)]) (rest := []) ⟨hx, hb, hml, hown, hts⟩ (c_X0_has l inf (nI i)) (va_cwS 2 hts gX0_linkAllBut_X0_has rfl rfl rfl (by decide +kernel) ⟨Nat.le_of_ble_eq_true rfl, Nat.le_of_ble_eq_true rfl⟩) ⟨fun a U g mk q => q, fun U hU hW => ⟨rfl, trivial⟩⟩ rfl rfl hl.1 rfl (lv_room (Nat.le_of_ble_eq_true rfl)) dX0_linkAllBut_40 ⟨Nat.zero_le _, Nat.zero_le _⟩) hS (fun q _ h => h.elim) (fun q h => h.elim) (fun r1 u t H locs ht hvm hw hB hz1 hk1 hS => ?_)
        have hP := gc_keep hP hk1
        have hw : r1 = gB (gHas inf (nI i)) := hw
        subst hw
        clear hB hz1 hk1 ht hvm
        refine lv_if_eq (tgt := 88) hx hb dX0_linkAllBut_43 (by decide) (fun c_43 => ?_) (fun c_43 => ?_)
        · skip
          have c_43 := gB_f c_43
          refine lv_iinc (v := nI (i + 1)) (lv' := [(3, .int (nI (i + 1))), (0, .ref (h 0)), (1, .int left), (2, .ref (h 4))]) hx hb dX0_linkAllBut_88 hl (k := 0) rfl (nI_1 i) (by decide) rfl (fun ls hl => ?_)
          refine lv_goto (tgt := 22) hx hb dX0_linkAllBut_91 (by decide) ?_
          exact ihi H _ ls (by omega) ⟨fb, (by simp only [gLk, ← e_fb]; simp [gLk, c_32, c_43]), hP, hD, hS, lv_sub hl [0, 1, 2, 3] rfl⟩
        · skip
          have c_43 := gB_t c_43
          refine lv_aload_n hx hb dX0_linkAllBut_46 rfl (lv_at hl 1 rfl) ?_
          refine va_get (D := (dC, dI)) (ci := 0) (v := .ref (h 1)) (C := RX0) (T := TX0) (N := 10) hx hb hts hin0 hown hK hP 0 rfl rfl 0 (by decide) (hts (.fieldLink RX0 9 "GuestChairs" "firsts" "[I") (by decide +kernel)) (fun _ h9 => h9) rfl dX0_linkAllBut_47 ?_
          refine lv_iload_n hx hb dX0_linkAllBut_50 rfl (lv_at hl 0 rfl) ?_
          have hPc : va_P (dC, dI) vwCl ([((h 1), .inl ((kc 1), 30, .inl f1))]) _ := hP.sub [1] rfl
          have hKc : va_K (dC, dI) vwCl ([((kc 1), .int)]) s := hK.sub [0] rfl
          refine va_calli (va_runS (As := [.ref (h 1), .int (nI i)]) (rest := []) ⟨hx, hb, hml, hown, hts⟩ (c_X0_at l dC dI (h 1) (kc 1) 30 f1 (nI i) (by decide)) (va_cwS 2 hts gX0_linkAllBut_X0_at rfl rfl rfl (by decide +kernel) ⟨Nat.le_of_ble_eq_true rfl, Nat.le_of_ble_eq_true rfl⟩) ⟨gcPR_blind, fun U hU hW => ⟨rfl, by rw [hU]; exact hPc, va_K.moved hW.alike hKc⟩⟩ rfl rfl hl.1 rfl (lv_room (Nat.le_of_ble_eq_true rfl)) dX0_linkAllBut_51 ⟨Nat.zero_le _, Nat.zero_le _⟩) hS (fun q _ h => h.elim) (fun q h => h.elim) (fun r2 u t H locs ht hvm hw hB hz1 hk1 hS => ?_)
          have hP := gc_keep hP hk1
          have hw : r2 = gAt 30 f1 (nI i) := hw
          subst hw
          clear hB hz1 hk1 ht hvm
          clear hPc hKc
          refine lv_istore (lv' := [(4, .int (gAt 30 f1 (nI i))), (3, .int (nI i)), (0, .ref (h 0)), (1, .int left), (2, .ref (h 4))]) hx hb dX0_linkAllBut_54 hl (by decide) rfl (fun ls hl => ?_)
          refine lv_aload_n hx hb dX0_linkAllBut_56 rfl (lv_at hl 2 rfl) ?_
          refine va_get (D := (dC, dI)) (ci := 0) (v := .ref (h 2)) (C := RX0) (T := TX0) (N := 10) hx hb hts hin0 hown hK hP 0 rfl rfl 1 (by decide) (hts (.fieldLink RX0 13 "GuestChairs" "seconds" "[I") (by decide +kernel)) (fun _ h9 => h9) rfl dX0_linkAllBut_57 ?_
          refine lv_iload_n hx hb dX0_linkAllBut_60 rfl (lv_at hl 1 rfl) ?_
          have hPc : va_P (dC, dI) vwCl ([((h 2), .inl ((kc 2), 30, .inl f2))]) _ := hP.sub [2] rfl
          have hKc : va_K (dC, dI) vwCl ([((kc 2), .int)]) s := hK.sub [1] rfl
          refine va_calli (va_runS (As := [.ref (h 2), .int (nI i)]) (rest := []) ⟨hx, hb, hml, hown, hts⟩ (c_X0_at l dC dI (h 2) (kc 2) 30 f2 (nI i) (by decide)) (va_cwS 2 hts gX0_linkAllBut_X0_at rfl rfl rfl (by decide +kernel) ⟨Nat.le_of_ble_eq_true rfl, Nat.le_of_ble_eq_true rfl⟩) ⟨gcPR_blind, fun U hU hW => ⟨rfl, by rw [hU]; exact hPc, va_K.moved hW.alike hKc⟩⟩ rfl rfl hl.1 rfl (lv_room (Nat.le_of_ble_eq_true rfl)) dX0_linkAllBut_61 ⟨Nat.zero_le _, Nat.zero_le _⟩) hS (fun q _ h => h.elim) (fun q h => h.elim) (fun r3 u t H locs ht hvm hw hB hz1 hk1 hS => ?_)
          have hP := gc_keep hP hk1
          have hw : r3 = gAt 30 f2 (nI i) := hw
          subst hw
          clear hB hz1 hk1 ht hvm
          clear hPc hKc
          refine lv_istore (lv' := [(5, .int (gAt 30 f2 (nI i))), (4, .int (gAt 30 f1 (nI i))), (3, .int (nI i)), (0, .ref (h 0)), (1, .int left), (2, .ref (h 4))]) hx hb dX0_linkAllBut_64 hl (by decide) rfl (fun ls hl => ?_)
          refine lv_aload_n hx hb dX0_linkAllBut_66 rfl (lv_at hl 5 rfl) ?_
          refine lv_iload hx hb dX0_linkAllBut_67 (lv_at hl 1 rfl) ?_
          refine lv_iload hx hb dX0_linkAllBut_69 (lv_at hl 0 rfl) ?_
          have hPc : va_P (dC, dI) vwCl ([((h 4), .inl ((kc 4), 20, .inl fb))]) _ := hP.sub [4] rfl
          have hKc : va_K (dC, dI) vwCl ([((kc 4), .int)]) s := hK.sub [3] rfl
          have hDc : va_D A ([((h 4), .inl ((kc 4), 20, .inl fb))]) := hD.sub [4] (by decide) rfl
          have hFc := va_free (wc := ([((h 4), .inl ((kc 4), 20, .inl fb))])) hD hS hA [4] rfl
          refine va_callv (va_runS (As := [.ref (h 4), .int (gAt 30 f1 (nI i)), .int (gAt 30 f2 (nI i))]) (rest := []) ⟨hx, hb, hml, hown, hts⟩ (c_X0_link l dC dI (h 4) (kc 4) 20 fb (gAt 30 f1 (nI i)) (gAt 30 f2 (nI i)) H.size (by decide)) (va_cwS 3 hts gX0_linkAllBut_X0_link rfl rfl rfl (by decide +kernel) ⟨Nat.le_of_ble_eq_true rfl, Nat.le_of_ble_eq_true rfl⟩) ⟨gcPM_blind, fun U hU hW => ⟨rfl, by rw [hU], by rw [hU]; exact hPc, va_K.moved hW.alike hKc, hDc.weaken (fun _ _ _ _ => trivial)⟩⟩ rfl rfl hl.1 rfl (lv_room (Nat.le_of_ble_eq_true rfl)) dX0_linkAllBut_71 ⟨Nat.zero_le _, Nat.zero_le _⟩) hS (fun q _ h => hFc q h) hFc (fun u t H locs ht hvm hw hB hz1 hk1 hS => ?_)
          obtain ⟨hP1, hD1⟩ := hB
          rw [ht] at hP1
          obtain ⟨hP, hD⟩ := va_join (wr := [(h 0, .inr (0, [.ref (h 1), .ref (h 2), .ref (h 3), .ref (h 4), .ref (h 5), .ref (h 6), .int (nI g), .int (nI r), .int inf, .int (nI c)])), (h 1, .inl (kc 1, 30, .inl f1)), (h 2, .inl (kc 2, 30, .inl f2)), (h 3, .inl (kc 3, 20, .inl dr)), (h 5, .inl (kc 5, 20, .inl tr)), (h 6, .inl (kc 6, 1024, .inl se))]) (w1 := ([((h 4), .inl ((kc 4), 20, .inl (gLink 20 fb (gAt 30 f1 (nI i)) (gAt 30 f2 (nI i)))))])) hP hD [4] [0, 1, 2, 3, 5, 6] rfl rfl (by decide) (by decide) hk1 hFc hP1 hD1
          have hP : va_P (dC, dI) vwCl (gcW h kc f1 f2 dr (gLink 20 fb (gAt 30 f1 (nI i)) (gAt 30 f2 (nI i))) tr se (nI g) (nI r) inf (nI c)) H := hP.sub [0, 1, 2, 3, 6, 4, 5] rfl
          have hD : va_D A (gcW h kc f1 f2 dr (gLink 20 fb (gAt 30 f1 (nI i)) (gAt 30 f2 (nI i))) tr se (nI g) (nI r) inf (nI c)) := hD.sub [0, 1, 2, 3, 6, 4, 5] (by decide) rfl
          clear hz1 hk1 ht hvm hP1 hD1 hFc hDc
          clear hPc hKc
          refine lv_aload_n hx hb dX0_linkAllBut_74 rfl (lv_at hl 5 rfl) ?_
          refine lv_iload hx hb dX0_linkAllBut_75 (lv_at hl 0 rfl) ?_
          refine va_calli (va_runS (As := [.int (gAt 30 f2 (nI i))]) (rest := [.ref (h 4)]) ⟨hx, hb, hml, hown, hts⟩ (c_X0_against l (gAt 30 f2 (nI i))) (va_cwS 1 hts gX0_linkAllBut_X0_against rfl rfl rfl (by decide +kernel) ⟨Nat.le_of_ble_eq_true rfl, Nat.le_of_ble_eq_true rfl⟩) ⟨fun a U g mk q => q, fun U hU hW => ⟨rfl, trivial⟩⟩ rfl rfl hl.1 rfl (lv_room (Nat.le_of_ble_eq_true rfl)) dX0_linkAllBut_77 ⟨Nat.zero_le _, Nat.zero_le _⟩) hS (fun q _ h => h.elim) (fun q h => h.elim) (fun r5 u t H locs ht hvm hw hB hz1 hk1 hS => ?_)
          have hP := gc_keep hP hk1
          have hw : r5 = ((gAt 30 f2 (nI i)) ^^^ 1) := hw
          subst hw
          clear hB hz1 hk1 ht hvm
          refine lv_iload hx hb dX0_linkAllBut_80 (lv_at hl 1 rfl) ?_
          refine va_calli (va_runS (As := [.int (gAt 30 f1 (nI i))]) (rest := [.int ((gAt 30 f2 (nI i)) ^^^ 1), .ref (h 4)]) ⟨hx, hb, hml, hown, hts⟩ (c_X0_against l (gAt 30 f1 (nI i))) (va_cwS 1 hts gX0_linkAllBut_X0_against rfl rfl rfl (by decide +kernel) ⟨Nat.le_of_ble_eq_true rfl, Nat.le_of_ble_eq_true rfl⟩) ⟨fun a U g mk q => q, fun U hU hW => ⟨rfl, trivial⟩⟩ rfl rfl hl.1 rfl (lv_room (Nat.le_of_ble_eq_true rfl)) dX0_linkAllBut_82 ⟨Nat.zero_le _, Nat.zero_le _⟩) hS (fun q _ h => h.elim) (fun q h => h.elim) (fun r6 u t H locs ht hvm hw hB hz1 hk1 hS => ?_)
          have hP := gc_keep hP hk1
          have hw : r6 = ((gAt 30 f1 (nI i)) ^^^ 1) := hw
          subst hw
          clear hB hz1 hk1 ht hvm
          have hPc : va_P (dC, dI) vwCl ([((h 4), .inl ((kc 4), 20, .inl (gLink 20 fb (gAt 30 f1 (nI i)) (gAt 30 f2 (nI i)))))]) _ := hP.sub [4] rfl
          have hKc : va_K (dC, dI) vwCl ([((kc 4), .int)]) s := hK.sub [3] rfl
          have hDc : va_D A ([((h 4), .inl ((kc 4), 20, .inl (gLink 20 fb (gAt 30 f1 (nI i)) (gAt 30 f2 (nI i)))))]) := hD.sub [4] (by decide) rfl
          have hFc := va_free (wc := ([((h 4), .inl ((kc 4), 20, .inl (gLink 20 fb (gAt 30 f1 (nI i)) (gAt 30 f2 (nI i)))))])) hD hS hA [4] rfl
          refine va_callv (va_runS (As := [.ref (h 4), .int ((gAt 30 f2 (nI i)) ^^^ 1), .int ((gAt 30 f1 (nI i)) ^^^ 1)]) (rest := []) ⟨hx, hb, hml, hown, hts⟩ (c_X0_link l dC dI (h 4) (kc 4) 20 (gLink 20 fb (gAt 30 f1 (nI i)) (gAt 30 f2 (nI i))) ((gAt 30 f2 (nI i)) ^^^ 1) ((gAt 30 f1 (nI i)) ^^^ 1) H.size (by decide)) (va_cwS 3 hts gX0_linkAllBut_X0_link rfl rfl rfl (by decide +kernel) ⟨Nat.le_of_ble_eq_true rfl, Nat.le_of_ble_eq_true rfl⟩) ⟨gcPM_blind, fun U hU hW => ⟨rfl, by rw [hU], by rw [hU]; exact hPc, va_K.moved hW.alike hKc, hDc.weaken (fun _ _ _ _ => trivial)⟩⟩ rfl rfl hl.1 rfl (lv_room (Nat.le_of_ble_eq_true rfl)) dX0_linkAllBut_85 ⟨Nat.zero_le _, Nat.zero_le _⟩) hS (fun q _ h => hFc q h) hFc (fun u t H locs ht hvm hw hB hz1 hk1 hS => ?_)
          obtain ⟨hP1, hD1⟩ := hB
          rw [ht] at hP1
          obtain ⟨hP, hD⟩ := va_join (wr := [(h 0, .inr (0, [.ref (h 1), .ref (h 2), .ref (h 3), .ref (h 4), .ref (h 5), .ref (h 6), .int (nI g), .int (nI r), .int inf, .int (nI c)])), (h 1, .inl (kc 1, 30, .inl f1)), (h 2, .inl (kc 2, 30, .inl f2)), (h 3, .inl (kc 3, 20, .inl dr)), (h 5, .inl (kc 5, 20, .inl tr)), (h 6, .inl (kc 6, 1024, .inl se))]) (w1 := ([((h 4), .inl ((kc 4), 20, .inl (gLink 20 (gLink 20 fb (gAt 30 f1 (nI i)) (gAt 30 f2 (nI i))) ((gAt 30 f2 (nI i)) ^^^ 1) ((gAt 30 f1 (nI i)) ^^^ 1))))])) hP hD [4] [0, 1, 2, 3, 5, 6] rfl rfl (by decide) (by decide) hk1 hFc hP1 hD1
          have hP : va_P (dC, dI) vwCl (gcW h kc f1 f2 dr (gLink 20 (gLink 20 fb (gAt 30 f1 (nI i)) (gAt 30 f2 (nI i))) ((gAt 30 f2 (nI i)) ^^^ 1) ((gAt 30 f1 (nI i)) ^^^ 1)) tr se (nI g) (nI r) inf (nI c)) H := hP.sub [0, 1, 2, 3, 6, 4, 5] rfl
          have hD : va_D A (gcW h kc f1 f2 dr (gLink 20 (gLink 20 fb (gAt 30 f1 (nI i)) (gAt 30 f2 (nI i))) ((gAt 30 f2 (nI i)) ^^^ 1) ((gAt 30 f1 (nI i)) ^^^ 1)) tr se (nI g) (nI r) inf (nI c)) := hD.sub [0, 1, 2, 3, 6, 4, 5] (by decide) rfl
          clear hz1 hk1 ht hvm hP1 hD1 hFc hDc
          clear hPc hKc
          refine lv_iinc (v := nI (i + 1)) (lv' := [(3, .int (nI (i + 1))), (5, .int (gAt 30 f2 (nI i))), (4, .int (gAt 30 f1 (nI i))), (0, .ref (h 0)), (1, .int left), (2, .ref (h 4))]) hx hb dX0_linkAllBut_88 hl (k := 2) rfl (nI_1 i) (by decide) rfl (fun ls hl => ?_)
          refine lv_goto (tgt := 22) hx hb dX0_linkAllBut_91 (by decide) ?_
          exact ihi H _ ls (by omega) ⟨(gLink 20 (gLink 20 fb (gAt 30 f1 (nI i)) (gAt 30 f2 (nI i))) ((gAt 30 f2 (nI i)) ^^^ 1) ((gAt 30 f1 (nI i)) ^^^ 1)), (by simp only [gLk, ← e_fb]; simp [gLk, c_32, c_43]), hP, hD, hS, lv_sub hl [0, 3, 4, 5] rfl⟩
  · skip
    have hLa : a < 20 := gc_lt c_5 (by omega)
    refine lv_aload_n hx hb dX0_linkAllBut_8 rfl (lv_at hl 3 rfl) ?_
    refine lv_iload_n hx hb dX0_linkAllBut_9 rfl (lv_at hl 0 rfl) ?_
    refine lv_iconst (v := 1) hx hb dX0_linkAllBut_10 (by decide) ?_
    refine lv_iload_n hx hb dX0_linkAllBut_11 rfl (lv_at hl 0 rfl) ?_
    refine lv_ishl hx hb dX0_linkAllBut_12 ?_
    refine va_iast hx hb hK hP hD hS 4 3 rfl rfl (vp_in_nI (n := a) (by omega) (by decide)) dX0_linkAllBut_13 (fun H locs hP hD hS => ?_)
    rw [nI_clamp (n := a) (by omega)] at hP hD
    have hP : va_P (dC, dI) vwCl (gcW h kc f1 f2 dr (upd fa a (1 <<< (nI a &&& 31))) tr se (nI g) (nI r) inf (nI c)) H := hP
    have hD : va_D A (gcW h kc f1 f2 dr (upd fa a (1 <<< (nI a &&& 31))) tr se (nI g) (nI r) inf (nI c)) := hD
    refine lv_iinc (v := nI (a + 1)) (lv' := [(3, .int (nI (a + 1))), (0, .ref (h 0)), (1, .int left), (2, .ref (h 4))]) hx hb dX0_linkAllBut_14 hl (k := 0) rfl (nI_1 a) (by decide) rfl (fun ls hl => ?_)
    refine lv_goto (tgt := 2) hx hb dX0_linkAllBut_17 (by decide) ?_
    exact iha H _ ls (by omega) ⟨(upd fa a (1 <<< (nI a &&& 31))), (by rw [e_fa]; rfl), hP, hD, hS, lv_sub hl [0, 1, 2, 3] rfl⟩
set_option maxHeartbeats 4000000 in
set_option maxRecDepth 100000 in
theorem c_X0_linkAllBut_tr (l : Launch) (dC : Nat → ClassId) (dI : Nat → Nat → Nat) (h : Nat → Nat) (kc : Nat → ClassId) (f1 : Nat → Int32) (f2 : Nat → Int32) (dr : Nat → Int32) (cl : Nat → Int32) (tr : Nat → Int32) (se : Nat → Int32) (g : Nat) (r : Nat) (inf : Int32) (c : Nat) (left : Int32) (sz : Nat) (hr30 : r ≤ 30) : Met l yX0_linkAllBut wsX0_linkAllBut ({ frames := 2, cells := 0, slots := 0, locals := 44 }) (gcPM (dC, dI) [.ref (h 0), .int left, .ref (h 5)] (gcW h kc f1 f2 dr cl tr se (nI g) (nI r) inf (nI c)) (gcT kc) sz) (va_Qv (fun (_u : Unit) => True) (fun _u t => va_P (dC, dI) vwCl (gcW h kc f1 f2 dr cl (gLA f1 f2 inf left r tr) se (nI g) (nI r) inf (nI c)) t.heap ∧ va_D (va_A (gcW h kc f1 f2 dr cl tr se (nI g) (nI r) inf (nI c)) sz) (gcW h kc f1 f2 dr cl (gLA f1 f2 inf left r tr) se (nI g) (nI r) inf (nI c))) (va_A (gcW h kc f1 f2 dr cl tr se (nI g) (nI r) inf (nI c)) sz)) 0 0 (va_A (gcW h kc f1 f2 dr cl tr se (nI g) (nI r) inf (nI c)) sz) := by
  refine Met.ofW (cc := cX0_linkAllBut) (maxL := 6) (ret := none) (by decide) rfl ?_
  intro p e s m args below meth c s₁ B hml hv
  obtain ⟨rfl, hsz, hP, hK, hD0⟩ := hv
  have hx := B.exec
  have hb := B.bytes
  have hr := B.returns
  have hts := atoms_spec (ws := wsX0_linkAllBut) B.pre
  have hown : s.vm.findClass RX0 = some m.cls := findClass_of_methodNamed B.named
  have hlocks := B.notSynchronized
  subst hsz
  have hD := hD0.self (sz := s.heap.size)
  generalize hAe : va_A (gcW h kc f1 f2 dr cl tr se (nI g) (nI r) inf (nI c)) s.heap.size = A at hD ⊢
  have hA : ∀ q : Nat, s.heap.size ≤ q → A q := fun q h => by rw [← hAe]; exact Or.inr h
  have hS : va_S A s.heap s.heap [] := va_S.rf
  have hP : va_P (dC, dI) vwCl (gcW h kc f1 f2 dr cl tr se (nI g) (nI r) inf (nI c)) s.heap := hP
  have hin0 : ∀ w ∈ wsX00, w ∈ wsX0_linkAllBut := by decide +kernel
  have hl := lv_entry [.ref (h 0), .int left, .ref (h 5)] (n := 6) (Nat.le_of_ble_eq_true rfl)
  rw [lg_entry_eq]
  generalize (lg_sl [.ref (h 0), .int left, .ref (h 5)] ++ List.replicate (6 - (lg_sl [.ref (h 0), .int left, .ref (h 5)]).length) Slot.unset).toArray = ls at hl ⊢
  have hl : lv_has ls 6 [(0, .ref (h 0)), (1, .int left), (2, .ref (h 5))] := hl
  refine lv_iconst (v := 0) hx hb dX0_linkAllBut_0 (by decide) ?_
  refine lv_istore_n (lv' := [(3, .int 0), (0, .ref (h 0)), (1, .int left), (2, .ref (h 5))]) hx hb dX0_linkAllBut_1 rfl hl (by decide) rfl (fun ls hl => ?_)
  refine gc_loop (20) (fun (a : Nat) (H : Heap) (locs : List Loc) (ls : Array Slot) => ∃ (fa : Nat → Int32), fa = gIn tr a ∧ va_P (dC, dI) vwCl (gcW h kc f1 f2 dr cl fa se (nI g) (nI r) inf (nI c)) H ∧ va_D A (gcW h kc f1 f2 dr cl fa se (nI g) (nI r) inf (nI c)) ∧ va_S A s.heap H locs ∧ lv_has ls 6 [(3, .int (nI a)), (0, .ref (h 0)), (1, .int left), (2, .ref (h 5))]) 0 (Nat.zero_le _) ⟨tr, (by first | rfl | assumption | omega), hP, hD, hS, lv_sub hl [0, 1, 2, 3] rfl⟩ ?_
  intro a H locs ls ha hI iha
  obtain ⟨fa, e_fa, hP, hD, hS, hl⟩ := hI
  refine lv_iload_n hx hb dX0_linkAllBut_2 rfl (lv_at hl 0 rfl) ?_
  refine lv_aload_n hx hb dX0_linkAllBut_3 rfl (lv_at hl 3 rfl) ?_
  refine va_alen hx hb hK hP 5 4 rfl rfl (v := nI 20) rfl dX0_linkAllBut_4 ?_
  refine lv_icmp_ge (tgt := 20) hx hb dX0_linkAllBut_5 (by decide) (fun c_5 => ?_) (fun c_5 => ?_)
  · skip
    have hEa : a = 20 := gc_ge c_5 (by omega) (by omega)
    refine lv_iconst (v := 0) hx hb dX0_linkAllBut_20 (by decide) ?_
    refine lv_istore_n (lv' := [(3, .int 0), (0, .ref (h 0)), (1, .int left), (2, .ref (h 5))]) hx hb dX0_linkAllBut_21 rfl hl (by decide) rfl (fun ls hl => ?_)
    refine gc_loop (r) (fun (i : Nat) (H : Heap) (locs : List Loc) (ls : Array Slot) => ∃ (fb : Nat → Int32), fb = gLk f1 f2 inf left (gIn tr 20) i ∧ va_P (dC, dI) vwCl (gcW h kc f1 f2 dr cl fb se (nI g) (nI r) inf (nI c)) H ∧ va_D A (gcW h kc f1 f2 dr cl fb se (nI g) (nI r) inf (nI c)) ∧ va_S A s.heap H locs ∧ lv_has ls 6 [(3, .int (nI i)), (0, .ref (h 0)), (1, .int left), (2, .ref (h 5))]) 0 (Nat.zero_le _) ⟨fa, (by rw [e_fa, hEa]; rfl), hP, hD, hS, lv_sub hl [0, 1, 2, 3] rfl⟩ ?_
    intro i H locs ls hi hI ihi
    obtain ⟨fb, e_fb, hP, hD, hS, hl⟩ := hI
    refine lv_iload_n hx hb dX0_linkAllBut_22 rfl (lv_at hl 0 rfl) ?_
    refine lv_aload_n hx hb dX0_linkAllBut_23 rfl (lv_at hl 1 rfl) ?_
    refine va_get (D := (dC, dI)) (ci := 0) (v := .int (nI r)) (C := RX0) (T := TX0) (N := 10) hx hb hts hin0 hown hK hP 0 rfl rfl 7 (by decide) (hts (.fieldLink RX0 51 "GuestChairs" "ruleCount" "I") (by decide +kernel)) (fun _ h9 => h9) rfl dX0_linkAllBut_24 ?_
    refine lv_icmp_ge (tgt := 94) hx hb dX0_linkAllBut_27 (by decide) (fun c_27 => ?_) (fun c_27 => ?_)
    · skip
      have hEi : i = r := gc_ge c_27 (by omega) (by omega)
      have hWe : (gcW h kc f1 f2 dr cl fb se (nI g) (nI r) inf (nI c)) = (gcW h kc f1 f2 dr cl (gLA f1 f2 inf left r tr) se (nI g) (nI r) inf (nI c)) := by rw [e_fb, hEi]; rfl
      rw [hWe] at hP hD
      exact W.vret hx hb hr (fun t ht hW => ⟨⟨(), rfl, trivial, ⟨by rw [ht]; exact hP, hD⟩⟩, hS.F ht⟩) hS.2.2 dX0_linkAllBut_94
    · skip
      have hLi : i < r := gc_lt c_27 (by omega)
      refine lv_iload_n hx hb dX0_linkAllBut_30 rfl (lv_at hl 0 rfl) ?_
      refine lv_iload_n hx hb dX0_linkAllBut_31 rfl (lv_at hl 2 rfl) ?_
      refine lv_icmp_eq (tgt := 88) hx hb dX0_linkAllBut_32 (by decide) (fun c_32 => ?_) (fun c_32 => ?_)
      · skip
        refine lv_iinc (v := nI (i + 1)) (lv' := [(3, .int (nI (i + 1))), (0, .ref (h 0)), (1, .int left), (2, .ref (h 5))]) hx hb dX0_linkAllBut_88 hl (k := 0) rfl (nI_1 i) (by decide) rfl (fun ls hl => ?_)
        refine lv_goto (tgt := 22) hx hb dX0_linkAllBut_91 (by decide) ?_
        exact ihi H _ ls (by omega) ⟨fb, (by simp only [gLk, ← e_fb]; simp [gLk, c_32]), hP, hD, hS, lv_sub hl [0, 1, 2, 3] rfl⟩
      · skip
        refine lv_aload_n hx hb dX0_linkAllBut_35 rfl (lv_at hl 1 rfl) ?_
        refine va_get (D := (dC, dI)) (ci := 0) (v := .int inf) (C := RX0) (T := TX0) (N := 10) hx hb hts hin0 hown hK hP 0 rfl rfl 8 (by decide) (hts (.fieldLink RX0 60 "GuestChairs" "inForce" "I") (by decide +kernel)) (fun _ h9 => h9) rfl dX0_linkAllBut_36 ?_
        refine lv_iload_n hx hb dX0_linkAllBut_39 rfl (lv_at hl 0 rfl) ?_
        refine va_calli (va_runS (As := [.int inf, .int (nI i)]) (rest := []) ⟨hx, hb, hml, hown, hts⟩ (c_X0_has l inf (nI i)) (va_cwS 2 hts gX0_linkAllBut_X0_has rfl rfl rfl (by decide +kernel) ⟨Nat.le_of_ble_eq_true rfl, Nat.le_of_ble_eq_true rfl⟩) ⟨fun a U g mk q => q, fun U hU hW => ⟨rfl, trivial⟩⟩ rfl rfl hl.1 rfl (lv_room (Nat.le_of_ble_eq_true rfl)) dX0_linkAllBut_40 ⟨Nat.zero_le _, Nat.zero_le _⟩) hS (fun q _ h => h.elim) (fun q h => h.elim) (fun r1 u t H locs ht hvm hw hB hz1 hk1 hS => ?_)
        have hP := gc_keep hP hk1
        have hw : r1 = gB (gHas inf (nI i)) := hw
        subst hw
        clear hB hz1 hk1 ht hvm
        refine lv_if_eq (tgt := 88) hx hb dX0_linkAllBut_43 (by decide) (fun c_43 => ?_) (fun c_43 => ?_)
        · skip
          have c_43 := gB_f c_43
          refine lv_iinc (v := nI (i + 1)) (lv' := [(3, .int (nI (i + 1))), (0, .ref (h 0)), (1, .int left), (2, .ref (h 5))]) hx hb dX0_linkAllBut_88 hl (k := 0) rfl (nI_1 i) (by decide) rfl (fun ls hl => ?_)
          refine lv_goto (tgt := 22) hx hb dX0_linkAllBut_91 (by decide) ?_
          exact ihi H _ ls (by omega) ⟨fb, (by simp only [gLk, ← e_fb]; simp [gLk, c_32, c_43]), hP, hD, hS, lv_sub hl [0, 1, 2, 3] rfl⟩
        · skip
          have c_43 := gB_t c_43
          refine lv_aload_n hx hb dX0_linkAllBut_46 rfl (lv_at hl 1 rfl) ?_
          refine va_get (D := (dC, dI)) (ci := 0) (v := .ref (h 1)) (C := RX0) (T := TX0) (N := 10) hx hb hts hin0 hown hK hP 0 rfl rfl 0 (by decide) (hts (.fieldLink RX0 9 "GuestChairs" "firsts" "[I") (by decide +kernel)) (fun _ h9 => h9) rfl dX0_linkAllBut_47 ?_
          refine lv_iload_n hx hb dX0_linkAllBut_50 rfl (lv_at hl 0 rfl) ?_
          have hPc : va_P (dC, dI) vwCl ([((h 1), .inl ((kc 1), 30, .inl f1))]) _ := hP.sub [1] rfl
          have hKc : va_K (dC, dI) vwCl ([((kc 1), .int)]) s := hK.sub [0] rfl
          refine va_calli (va_runS (As := [.ref (h 1), .int (nI i)]) (rest := []) ⟨hx, hb, hml, hown, hts⟩ (c_X0_at l dC dI (h 1) (kc 1) 30 f1 (nI i) (by decide)) (va_cwS 2 hts gX0_linkAllBut_X0_at rfl rfl rfl (by decide +kernel) ⟨Nat.le_of_ble_eq_true rfl, Nat.le_of_ble_eq_true rfl⟩) ⟨gcPR_blind, fun U hU hW => ⟨rfl, by rw [hU]; exact hPc, va_K.moved hW.alike hKc⟩⟩ rfl rfl hl.1 rfl (lv_room (Nat.le_of_ble_eq_true rfl)) dX0_linkAllBut_51 ⟨Nat.zero_le _, Nat.zero_le _⟩) hS (fun q _ h => h.elim) (fun q h => h.elim) (fun r2 u t H locs ht hvm hw hB hz1 hk1 hS => ?_)
          have hP := gc_keep hP hk1
          have hw : r2 = gAt 30 f1 (nI i) := hw
          subst hw
          clear hB hz1 hk1 ht hvm
          clear hPc hKc
          refine lv_istore (lv' := [(4, .int (gAt 30 f1 (nI i))), (3, .int (nI i)), (0, .ref (h 0)), (1, .int left), (2, .ref (h 5))]) hx hb dX0_linkAllBut_54 hl (by decide) rfl (fun ls hl => ?_)
          refine lv_aload_n hx hb dX0_linkAllBut_56 rfl (lv_at hl 2 rfl) ?_
          refine va_get (D := (dC, dI)) (ci := 0) (v := .ref (h 2)) (C := RX0) (T := TX0) (N := 10) hx hb hts hin0 hown hK hP 0 rfl rfl 1 (by decide) (hts (.fieldLink RX0 13 "GuestChairs" "seconds" "[I") (by decide +kernel)) (fun _ h9 => h9) rfl dX0_linkAllBut_57 ?_
          refine lv_iload_n hx hb dX0_linkAllBut_60 rfl (lv_at hl 1 rfl) ?_
          have hPc : va_P (dC, dI) vwCl ([((h 2), .inl ((kc 2), 30, .inl f2))]) _ := hP.sub [2] rfl
          have hKc : va_K (dC, dI) vwCl ([((kc 2), .int)]) s := hK.sub [1] rfl
          refine va_calli (va_runS (As := [.ref (h 2), .int (nI i)]) (rest := []) ⟨hx, hb, hml, hown, hts⟩ (c_X0_at l dC dI (h 2) (kc 2) 30 f2 (nI i) (by decide)) (va_cwS 2 hts gX0_linkAllBut_X0_at rfl rfl rfl (by decide +kernel) ⟨Nat.le_of_ble_eq_true rfl, Nat.le_of_ble_eq_true rfl⟩) ⟨gcPR_blind, fun U hU hW => ⟨rfl, by rw [hU]; exact hPc, va_K.moved hW.alike hKc⟩⟩ rfl rfl hl.1 rfl (lv_room (Nat.le_of_ble_eq_true rfl)) dX0_linkAllBut_61 ⟨Nat.zero_le _, Nat.zero_le _⟩) hS (fun q _ h => h.elim) (fun q h => h.elim) (fun r3 u t H locs ht hvm hw hB hz1 hk1 hS => ?_)
          have hP := gc_keep hP hk1
          have hw : r3 = gAt 30 f2 (nI i) := hw
          subst hw
          clear hB hz1 hk1 ht hvm
          clear hPc hKc
          refine lv_istore (lv' := [(5, .int (gAt 30 f2 (nI i))), (4, .int (gAt 30 f1 (nI i))), (3, .int (nI i)), (0, .ref (h 0)), (1, .int left), (2, .ref (h 5))]) hx hb dX0_linkAllBut_64 hl (by decide) rfl (fun ls hl => ?_)
          refine lv_aload_n hx hb dX0_linkAllBut_66 rfl (lv_at hl 5 rfl) ?_
          refine lv_iload hx hb dX0_linkAllBut_67 (lv_at hl 1 rfl) ?_
          refine lv_iload hx hb dX0_linkAllBut_69 (lv_at hl 0 rfl) ?_
          have hPc : va_P (dC, dI) vwCl ([((h 5), .inl ((kc 5), 20, .inl fb))]) _ := hP.sub [5] rfl
          have hKc : va_K (dC, dI) vwCl ([((kc 5), .int)]) s := hK.sub [4] rfl
          have hDc : va_D A ([((h 5), .inl ((kc 5), 20, .inl fb))]) := hD.sub [5] (by decide) rfl
          have hFc := va_free (wc := ([((h 5), .inl ((kc 5), 20, .inl fb))])) hD hS hA [5] rfl
          refine va_callv (va_runS (As := [.ref (h 5), .int (gAt 30 f1 (nI i)), .int (gAt 30 f2 (nI i))]) (rest := []) ⟨hx, hb, hml, hown, hts⟩ (c_X0_link l dC dI (h 5) (kc 5) 20 fb (gAt 30 f1 (nI i)) (gAt 30 f2 (nI i)) H.size (by decide)) (va_cwS 3 hts gX0_linkAllBut_X0_link rfl rfl rfl (by decide +kernel) ⟨Nat.le_of_ble_eq_true rfl, Nat.le_of_ble_eq_true rfl⟩) ⟨gcPM_blind, fun U hU hW => ⟨rfl, by rw [hU], by rw [hU]; exact hPc, va_K.moved hW.alike hKc, hDc.weaken (fun _ _ _ _ => trivial)⟩⟩ rfl rfl hl.1 rfl (lv_room (Nat.le_of_ble_eq_true rfl)) dX0_linkAllBut_71 ⟨Nat.zero_le _, Nat.zero_le _⟩) hS (fun q _ h => hFc q h) hFc (fun u t H locs ht hvm hw hB hz1 hk1 hS => ?_)
          obtain ⟨hP1, hD1⟩ := hB
          rw [ht] at hP1
          obtain ⟨hP, hD⟩ := va_join (wr := [(h 0, .inr (0, [.ref (h 1), .ref (h 2), .ref (h 3), .ref (h 4), .ref (h 5), .ref (h 6), .int (nI g), .int (nI r), .int inf, .int (nI c)])), (h 1, .inl (kc 1, 30, .inl f1)), (h 2, .inl (kc 2, 30, .inl f2)), (h 3, .inl (kc 3, 20, .inl dr)), (h 4, .inl (kc 4, 20, .inl cl)), (h 6, .inl (kc 6, 1024, .inl se))]) (w1 := ([((h 5), .inl ((kc 5), 20, .inl (gLink 20 fb (gAt 30 f1 (nI i)) (gAt 30 f2 (nI i)))))])) hP hD [5] [0, 1, 2, 3, 4, 6] rfl rfl (by decide) (by decide) hk1 hFc hP1 hD1
          have hP : va_P (dC, dI) vwCl (gcW h kc f1 f2 dr cl (gLink 20 fb (gAt 30 f1 (nI i)) (gAt 30 f2 (nI i))) se (nI g) (nI r) inf (nI c)) H := hP.sub [0, 1, 2, 3, 4, 6, 5] rfl
          have hD : va_D A (gcW h kc f1 f2 dr cl (gLink 20 fb (gAt 30 f1 (nI i)) (gAt 30 f2 (nI i))) se (nI g) (nI r) inf (nI c)) := hD.sub [0, 1, 2, 3, 4, 6, 5] (by decide) rfl
          clear hz1 hk1 ht hvm hP1 hD1 hFc hDc
          clear hPc hKc
          refine lv_aload_n hx hb dX0_linkAllBut_74 rfl (lv_at hl 5 rfl) ?_
          refine lv_iload hx hb dX0_linkAllBut_75 (lv_at hl 0 rfl) ?_
          refine va_calli (va_runS (As := [.int (gAt 30 f2 (nI i))]) (rest := [.ref (h 5)]) ⟨hx, hb, hml, hown, hts⟩ (c_X0_against l (gAt 30 f2 (nI i))) (va_cwS 1 hts gX0_linkAllBut_X0_against rfl rfl rfl (by decide +kernel) ⟨Nat.le_of_ble_eq_true rfl, Nat.le_of_ble_eq_true rfl⟩) ⟨fun a U g mk q => q, fun U hU hW => ⟨rfl, trivial⟩⟩ rfl rfl hl.1 rfl (lv_room (Nat.le_of_ble_eq_true rfl)) dX0_linkAllBut_77 ⟨Nat.zero_le _, Nat.zero_le _⟩) hS (fun q _ h => h.elim) (fun q h => h.elim) (fun r5 u t H locs ht hvm hw hB hz1 hk1 hS => ?_)
          have hP := gc_keep hP hk1
          have hw : r5 = ((gAt 30 f2 (nI i)) ^^^ 1) := hw
          subst hw
          clear hB hz1 hk1 ht hvm
          refine lv_iload hx hb dX0_linkAllBut_80 (lv_at hl 1 rfl) ?_
          refine va_calli (va_runS (As := [.int (gAt 30 f1 (nI i))]) (rest := [.int ((gAt 30 f2 (nI i)) ^^^ 1), .ref (h 5)]) ⟨hx, hb, hml, hown, hts⟩ (c_X0_against l (gAt 30 f1 (nI i))) (va_cwS 1 hts gX0_linkAllBut_X0_against rfl rfl rfl (by decide +kernel) ⟨Nat.le_of_ble_eq_true rfl, Nat.le_of_ble_eq_true rfl⟩) ⟨fun a U g mk q => q, fun U hU hW => ⟨rfl, trivial⟩⟩ rfl rfl hl.1 rfl (lv_room (Nat.le_of_ble_eq_true rfl)) dX0_linkAllBut_82 ⟨Nat.zero_le _, Nat.zero_le _⟩) hS (fun q _ h => h.elim) (fun q h => h.elim) (fun r6 u t H locs ht hvm hw hB hz1 hk1 hS => ?_)
          have hP := gc_keep hP hk1
          have hw : r6 = ((gAt 30 f1 (nI i)) ^^^ 1) := hw
          subst hw
          clear hB hz1 hk1 ht hvm
          have hPc : va_P (dC, dI) vwCl ([((h 5), .inl ((kc 5), 20, .inl (gLink 20 fb (gAt 30 f1 (nI i)) (gAt 30 f2 (nI i)))))]) _ := hP.sub [5] rfl
          have hKc : va_K (dC, dI) vwCl ([((kc 5), .int)]) s := hK.sub [4] rfl
          have hDc : va_D A ([((h 5), .inl ((kc 5), 20, .inl (gLink 20 fb (gAt 30 f1 (nI i)) (gAt 30 f2 (nI i)))))]) := hD.sub [5] (by decide) rfl
          have hFc := va_free (wc := ([((h 5), .inl ((kc 5), 20, .inl (gLink 20 fb (gAt 30 f1 (nI i)) (gAt 30 f2 (nI i)))))])) hD hS hA [5] rfl
          refine va_callv (va_runS (As := [.ref (h 5), .int ((gAt 30 f2 (nI i)) ^^^ 1), .int ((gAt 30 f1 (nI i)) ^^^ 1)]) (rest := []) ⟨hx, hb, hml, hown, hts⟩ (c_X0_link l dC dI (h 5) (kc 5) 20 (gLink 20 fb (gAt 30 f1 (nI i)) (gAt 30 f2 (nI i))) ((gAt 30 f2 (nI i)) ^^^ 1) ((gAt 30 f1 (nI i)) ^^^ 1) H.size (by decide)) (va_cwS 3 hts gX0_linkAllBut_X0_link rfl rfl rfl (by decide +kernel) ⟨Nat.le_of_ble_eq_true rfl, Nat.le_of_ble_eq_true rfl⟩) ⟨gcPM_blind, fun U hU hW => ⟨rfl, by rw [hU], by rw [hU]; exact hPc, va_K.moved hW.alike hKc, hDc.weaken (fun _ _ _ _ => trivial)⟩⟩ rfl rfl hl.1 rfl (lv_room (Nat.le_of_ble_eq_true rfl)) dX0_linkAllBut_85 ⟨Nat.zero_le _, Nat.zero_le _⟩) hS (fun q _ h => hFc q h) hFc (fun u t H locs ht hvm hw hB hz1 hk1 hS => ?_)
          obtain ⟨hP1, hD1⟩ := hB
          rw [ht] at hP1
          obtain ⟨hP, hD⟩ := va_join (wr := [(h 0, .inr (0, [.ref (h 1), .ref (h 2), .ref (h 3), .ref (h 4), .ref (h 5), .ref (h 6), .int (nI g), .int (nI r), .int inf, .int (nI c)])), (h 1, .inl (kc 1, 30, .inl f1)), (h 2, .inl (kc 2, 30, .inl f2)), (h 3, .inl (kc 3, 20, .inl dr)), (h 4, .inl (kc 4, 20, .inl cl)), (h 6, .inl (kc 6, 1024, .inl se))]) (w1 := ([((h 5), .inl ((kc 5), 20, .inl (gLink 20 (gLink 20 fb (gAt 30 f1 (nI i)) (gAt 30 f2 (nI i))) ((gAt 30 f2 (nI i)) ^^^ 1) ((gAt 30 f1 (nI i)) ^^^ 1))))])) hP hD [5] [0, 1, 2, 3, 4, 6] rfl rfl (by decide) (by decide) hk1 hFc hP1 hD1
          have hP : va_P (dC, dI) vwCl (gcW h kc f1 f2 dr cl (gLink 20 (gLink 20 fb (gAt 30 f1 (nI i)) (gAt 30 f2 (nI i))) ((gAt 30 f2 (nI i)) ^^^ 1) ((gAt 30 f1 (nI i)) ^^^ 1)) se (nI g) (nI r) inf (nI c)) H := hP.sub [0, 1, 2, 3, 4, 6, 5] rfl
          have hD : va_D A (gcW h kc f1 f2 dr cl (gLink 20 (gLink 20 fb (gAt 30 f1 (nI i)) (gAt 30 f2 (nI i))) ((gAt 30 f2 (nI i)) ^^^ 1) ((gAt 30 f1 (nI i)) ^^^ 1)) se (nI g) (nI r) inf (nI c)) := hD.sub [0, 1, 2, 3, 4, 6, 5] (by decide) rfl
          clear hz1 hk1 ht hvm hP1 hD1 hFc hDc
          clear hPc hKc
          refine lv_iinc (v := nI (i + 1)) (lv' := [(3, .int (nI (i + 1))), (5, .int (gAt 30 f2 (nI i))), (4, .int (gAt 30 f1 (nI i))), (0, .ref (h 0)), (1, .int left), (2, .ref (h 5))]) hx hb dX0_linkAllBut_88 hl (k := 2) rfl (nI_1 i) (by decide) rfl (fun ls hl => ?_)
          refine lv_goto (tgt := 22) hx hb dX0_linkAllBut_91 (by decide) ?_
          exact ihi H _ ls (by omega) ⟨(gLink 20 (gLink 20 fb (gAt 30 f1 (nI i)) (gAt 30 f2 (nI i))) ((gAt 30 f2 (nI i)) ^^^ 1) ((gAt 30 f1 (nI i)) ^^^ 1)), (by simp only [gLk, ← e_fb]; simp [gLk, c_32, c_43]), hP, hD, hS, lv_sub hl [0, 3, 4, 5] rfl⟩
  · skip
    have hLa : a < 20 := gc_lt c_5 (by omega)
    refine lv_aload_n hx hb dX0_linkAllBut_8 rfl (lv_at hl 3 rfl) ?_
    refine lv_iload_n hx hb dX0_linkAllBut_9 rfl (lv_at hl 0 rfl) ?_
    refine lv_iconst (v := 1) hx hb dX0_linkAllBut_10 (by decide) ?_
    refine lv_iload_n hx hb dX0_linkAllBut_11 rfl (lv_at hl 0 rfl) ?_
    refine lv_ishl hx hb dX0_linkAllBut_12 ?_
    refine va_iast hx hb hK hP hD hS 5 4 rfl rfl (vp_in_nI (n := a) (by omega) (by decide)) dX0_linkAllBut_13 (fun H locs hP hD hS => ?_)
    rw [nI_clamp (n := a) (by omega)] at hP hD
    have hP : va_P (dC, dI) vwCl (gcW h kc f1 f2 dr cl (upd fa a (1 <<< (nI a &&& 31))) se (nI g) (nI r) inf (nI c)) H := hP
    have hD : va_D A (gcW h kc f1 f2 dr cl (upd fa a (1 <<< (nI a &&& 31))) se (nI g) (nI r) inf (nI c)) := hD
    refine lv_iinc (v := nI (a + 1)) (lv' := [(3, .int (nI (a + 1))), (0, .ref (h 0)), (1, .int left), (2, .ref (h 5))]) hx hb dX0_linkAllBut_14 hl (k := 0) rfl (nI_1 a) (by decide) rfl (fun ls hl => ?_)
    refine lv_goto (tgt := 2) hx hb dX0_linkAllBut_17 (by decide) ?_
    exact iha H _ ls (by omega) ⟨(upd fa a (1 <<< (nI a &&& 31))), (by rw [e_fa]; rfl), hP, hD, hS, lv_sub hl [0, 1, 2, 3] rfl⟩
set_option maxHeartbeats 4000000 in
set_option maxRecDepth 100000 in
theorem c_X0_settle (l : Launch) (dC : Nat → ClassId) (dI : Nat → Nat → Nat) (h : Nat → Nat) (kc : Nat → ClassId) (f1 : Nat → Int32) (f2 : Nat → Int32) (dr : Nat → Int32) (cl : Nat → Int32) (tr : Nat → Int32) (se : Nat → Int32) (g : Nat) (r : Nat) (inf : Int32) (c : Nat) (co : Int32) (sz : Nat) (hc : c ≤ 1024) : Met l yX0_settle wsX0_settle ({ frames := 2, cells := 0, slots := 0, locals := 42 }) (gcPM (dC, dI) [.ref (h 0), .int co] (gcW h kc f1 f2 dr cl tr se (nI g) (nI r) inf (nI c)) (gcT kc) sz) (va_Qv (fun (_u : Unit) => True) (fun _u t => va_P (dC, dI) vwCl (gcW h kc f1 f2 dr cl tr ((gSt cl co se c c).1) (nI g) (nI r) inf (nI (gSt cl co se c c).2)) t.heap ∧ va_D (va_A (gcW h kc f1 f2 dr cl tr se (nI g) (nI r) inf (nI c)) sz) (gcW h kc f1 f2 dr cl tr ((gSt cl co se c c).1) (nI g) (nI r) inf (nI (gSt cl co se c c).2))) (va_A (gcW h kc f1 f2 dr cl tr se (nI g) (nI r) inf (nI c)) sz)) 0 0 (va_A (gcW h kc f1 f2 dr cl tr se (nI g) (nI r) inf (nI c)) sz) := by
  refine Met.ofW (cc := cX0_settle) (maxL := 6) (ret := none) (by decide) rfl ?_
  intro p e s m args below meth c s₁ B hml hv
  obtain ⟨rfl, hsz, hP, hK, hD0⟩ := hv
  have hx := B.exec
  have hb := B.bytes
  have hr := B.returns
  have hts := atoms_spec (ws := wsX0_settle) B.pre
  have hown : s.vm.findClass RX0 = some m.cls := findClass_of_methodNamed B.named
  have hlocks := B.notSynchronized
  subst hsz
  have hD := hD0.self (sz := s.heap.size)
  generalize hAe : va_A (gcW h kc f1 f2 dr cl tr se (nI g) (nI r) inf (nI c)) s.heap.size = A at hD ⊢
  have hA : ∀ q : Nat, s.heap.size ≤ q → A q := fun q h => by rw [← hAe]; exact Or.inr h
  have hS : va_S A s.heap s.heap [] := va_S.rf
  have hP : va_P (dC, dI) vwCl (gcW h kc f1 f2 dr cl tr se (nI g) (nI r) inf (nI c)) s.heap := hP
  have hin0 : ∀ w ∈ wsX00, w ∈ wsX0_settle := by decide +kernel
  have hl := lv_entry [.ref (h 0), .int co] (n := 6) (Nat.le_of_ble_eq_true rfl)
  rw [lg_entry_eq]
  generalize (lg_sl [.ref (h 0), .int co] ++ List.replicate (6 - (lg_sl [.ref (h 0), .int co]).length) Slot.unset).toArray = ls at hl ⊢
  have hl : lv_has ls 6 [(0, .ref (h 0)), (1, .int co)] := hl
  refine lv_iload_n hx hb dX0_settle_0 rfl (lv_at hl 1 rfl) ?_
  refine va_calli (va_runS (As := [.int co]) (rest := []) ⟨hx, hb, hml, hown, hts⟩ (c_X0_against l co) (va_cwS 1 hts gX0_settle_X0_against rfl rfl rfl (by decide +kernel) ⟨Nat.le_of_ble_eq_true rfl, Nat.le_of_ble_eq_true rfl⟩) ⟨fun a U g mk q => q, fun U hU hW => ⟨rfl, trivial⟩⟩ rfl rfl hl.1 rfl (lv_room (Nat.le_of_ble_eq_true rfl)) dX0_settle_1 ⟨Nat.zero_le _, Nat.zero_le _⟩) hS (fun q _ h => h.elim) (fun q h => h.elim) (fun r1 u t H locs ht hvm hw hB hz1 hk1 hS => ?_)
  have hP := gc_keep hP hk1
  have hw : r1 = (co ^^^ 1) := hw
  subst hw
  clear hB hz1 hk1 ht hvm
  refine lv_istore_n (lv' := [(2, .int (co ^^^ 1)), (0, .ref (h 0)), (1, .int co)]) hx hb dX0_settle_4 rfl hl (by decide) rfl (fun ls hl => ?_)
  refine lv_aload_n hx hb dX0_settle_5 rfl (lv_at hl 1 rfl) ?_
  refine va_get (D := (dC, dI)) (ci := 0) (v := .int (nI c)) (C := RX0) (T := TX0) (N := 10) hx hb hts hin0 hown hK hP 0 rfl rfl 9 (by decide) (hts (.fieldLink RX0 115 "GuestChairs" "seatingCount" "I") (by decide +kernel)) (fun _ h9 => h9) rfl dX0_settle_6 ?_
  refine lv_istore_n (lv' := [(3, .int (nI c)), (2, .int (co ^^^ 1)), (0, .ref (h 0)), (1, .int co)]) hx hb dX0_settle_9 rfl hl (by decide) rfl (fun ls hl => ?_)
  refine lv_iconst (v := 0) hx hb dX0_settle_10 (by decide) ?_
  refine lv_istore (lv' := [(4, .int 0), (3, .int (nI c)), (2, .int (co ^^^ 1)), (0, .ref (h 0)), (1, .int co)]) hx hb dX0_settle_11 hl (by decide) rfl (fun ls hl => ?_)
  refine gc_loop (c) (fun (i : Nat) (H : Heap) (locs : List Loc) (ls : Array Slot) => ∃ (sv : Nat → Int32) (k : Nat), sv = (gSt cl co se c i).1 ∧ k = (gSt cl co se c i).2 ∧ va_P (dC, dI) vwCl (gcW h kc f1 f2 dr cl tr sv (nI g) (nI r) inf (nI k)) H ∧ va_D A (gcW h kc f1 f2 dr cl tr sv (nI g) (nI r) inf (nI k)) ∧ va_S A s.heap H locs ∧ lv_has ls 6 [(4, .int (nI i)), (3, .int (nI c)), (2, .int (co ^^^ 1)), (0, .ref (h 0)), (1, .int co)]) 0 (Nat.zero_le _) ⟨se, c, (by first | rfl | assumption | omega), (by first | rfl | assumption | omega), hP, hD, hS, lv_sub hl [0, 1, 2, 3, 4] rfl⟩ ?_
  intro i H locs ls hi hI ihi
  obtain ⟨sv, k, e_sv, e_k, hP, hD, hS, hl⟩ := hI
  refine lv_iload hx hb dX0_settle_13 (lv_at hl 0 rfl) ?_
  refine lv_iload_n hx hb dX0_settle_15 rfl (lv_at hl 1 rfl) ?_
  refine lv_icmp_ge (tgt := 154) hx hb dX0_settle_16 (by decide) (fun c_16 => ?_) (fun c_16 => ?_)
  · skip
    have hEi : i = c := gc_ge c_16 (by omega) (by omega)
    have hWe : (gcW h kc f1 f2 dr cl tr sv (nI g) (nI r) inf (nI k)) = (gcW h kc f1 f2 dr cl tr ((gSt cl co se c c).1) (nI g) (nI r) inf (nI (gSt cl co se c c).2)) := by rw [e_sv, e_k, hEi]
    rw [hWe] at hP hD
    exact W.vret hx hb hr (fun t ht hW => ⟨⟨(), rfl, trivial, ⟨by rw [ht]; exact hP, hD⟩⟩, hS.F ht⟩) hS.2.2 dX0_settle_154
  · skip
    have hLi : i < c := gc_lt c_16 (by omega)
    refine lv_aload_n hx hb dX0_settle_19 rfl (lv_at hl 3 rfl) ?_
    refine va_get (D := (dC, dI)) (ci := 0) (v := .ref (h 6)) (C := RX0) (T := TX0) (N := 10) hx hb hts hin0 hown hK hP 0 rfl rfl 5 (by decide) (hts (.fieldLink RX0 25 "GuestChairs" "seated" "[I") (by decide +kernel)) (fun _ h9 => h9) rfl dX0_settle_20 ?_
    refine lv_iload hx hb dX0_settle_23 (lv_at hl 0 rfl) ?_
    have hPc : va_P (dC, dI) vwCl ([((h 6), .inl ((kc 6), 1024, .inl sv))]) _ := hP.sub [6] rfl
    have hKc : va_K (dC, dI) vwCl ([((kc 6), .int)]) s := hK.sub [5] rfl
    refine va_calli (va_runS (As := [.ref (h 6), .int (nI i)]) (rest := []) ⟨hx, hb, hml, hown, hts⟩ (c_X0_at l dC dI (h 6) (kc 6) 1024 sv (nI i) (by decide)) (va_cwS 2 hts gX0_settle_X0_at rfl rfl rfl (by decide +kernel) ⟨Nat.le_of_ble_eq_true rfl, Nat.le_of_ble_eq_true rfl⟩) ⟨gcPR_blind, fun U hU hW => ⟨rfl, by rw [hU]; exact hPc, va_K.moved hW.alike hKc⟩⟩ rfl rfl hl.1 rfl (lv_room (Nat.le_of_ble_eq_true rfl)) dX0_settle_25 ⟨Nat.zero_le _, Nat.zero_le _⟩) hS (fun q _ h => h.elim) (fun q h => h.elim) (fun r2 u t H locs ht hvm hw hB hz1 hk1 hS => ?_)
    have hP := gc_keep hP hk1
    have hw : r2 = gAt 1024 sv (nI i) := hw
    subst hw
    clear hB hz1 hk1 ht hvm
    clear hPc hKc
    refine lv_istore (lv' := [(5, .int (gAt 1024 sv (nI i))), (4, .int (nI i)), (3, .int (nI c)), (2, .int (co ^^^ 1)), (0, .ref (h 0)), (1, .int co)]) hx hb dX0_settle_28 hl (by decide) rfl (fun ls hl => ?_)
    refine lv_iload hx hb dX0_settle_30 (lv_at hl 0 rfl) ?_
    refine lv_iload_n hx hb dX0_settle_32 rfl (lv_at hl 5 rfl) ?_
    refine va_calli (va_runS (As := [.int (gAt 1024 sv (nI i)), .int co]) (rest := []) ⟨hx, hb, hml, hown, hts⟩ (c_X0_has l (gAt 1024 sv (nI i)) co) (va_cwS 2 hts gX0_settle_X0_has rfl rfl rfl (by decide +kernel) ⟨Nat.le_of_ble_eq_true rfl, Nat.le_of_ble_eq_true rfl⟩) ⟨fun a U g mk q => q, fun U hU hW => ⟨rfl, trivial⟩⟩ rfl rfl hl.1 rfl (lv_room (Nat.le_of_ble_eq_true rfl)) dX0_settle_33 ⟨Nat.zero_le _, Nat.zero_le _⟩) hS (fun q _ h => h.elim) (fun q h => h.elim) (fun r3 u t H locs ht hvm hw hB hz1 hk1 hS => ?_)
    have hP := gc_keep hP hk1
    have hw : r3 = gB (gHas (gAt 1024 sv (nI i)) co) := hw
    subst hw
    clear hB hz1 hk1 ht hvm
    refine lv_if_ne (tgt := 148) hx hb dX0_settle_36 (by decide) (fun c_36 => ?_) (fun c_36 => ?_)
    · skip
      have c_36 := gB_t c_36
      refine lv_iinc (v := nI (i + 1)) (lv' := [(4, .int (nI (i + 1))), (5, .int (gAt 1024 sv (nI i))), (3, .int (nI c)), (2, .int (co ^^^ 1)), (0, .ref (h 0)), (1, .int co)]) hx hb dX0_settle_148 hl (k := 1) rfl (nI_1 i) (by decide) rfl (fun ls hl => ?_)
      refine lv_goto (tgt := 13) hx hb dX0_settle_151 (by decide) ?_
      exact ihi H _ ls (by omega) ⟨sv, k, (by simp only [gSt, ← e_sv, ← e_k]; simp [gSt, c_36]), (by simp only [gSt, ← e_sv, ← e_k]; simp [gSt, c_36]), hP, hD, hS, lv_sub hl [0, 2, 3, 4, 5] rfl⟩
    · skip
      have c_36 := gB_f c_36
      refine lv_iload hx hb dX0_settle_39 (lv_at hl 0 rfl) ?_
      refine lv_iload_n hx hb dX0_settle_41 rfl (lv_at hl 3 rfl) ?_
      refine va_calli (va_runS (As := [.int (gAt 1024 sv (nI i)), .int (co ^^^ 1)]) (rest := []) ⟨hx, hb, hml, hown, hts⟩ (c_X0_has l (gAt 1024 sv (nI i)) (co ^^^ 1)) (va_cwS 2 hts gX0_settle_X0_has rfl rfl rfl (by decide +kernel) ⟨Nat.le_of_ble_eq_true rfl, Nat.le_of_ble_eq_true rfl⟩) ⟨fun a U g mk q => q, fun U hU hW => ⟨rfl, trivial⟩⟩ rfl rfl hl.1 rfl (lv_room (Nat.le_of_ble_eq_true rfl)) dX0_settle_42 ⟨Nat.zero_le _, Nat.zero_le _⟩) hS (fun q _ h => h.elim) (fun q h => h.elim) (fun r4 u t H locs ht hvm hw hB hz1 hk1 hS => ?_)
      have hP := gc_keep hP hk1
      have hw : r4 = gB (gHas (gAt 1024 sv (nI i)) (co ^^^ 1)) := hw
      subst hw
      clear hB hz1 hk1 ht hvm
      refine lv_if_eq (tgt := 51) hx hb dX0_settle_45 (by decide) (fun c_45 => ?_) (fun c_45 => ?_)
      · skip
        have c_45 := gB_f c_45
        refine lv_aload_n hx hb dX0_settle_51 rfl (lv_at hl 4 rfl) ?_
        refine va_get (D := (dC, dI)) (ci := 0) (v := .ref (h 4)) (C := RX0) (T := TX0) (N := 10) hx hb hts hin0 hown hK hP 0 rfl rfl 3 (by decide) (hts (.fieldLink RX0 19 "GuestChairs" "closed" "[I") (by decide +kernel)) (fun _ h9 => h9) rfl dX0_settle_52 ?_
        refine lv_iload_n hx hb dX0_settle_55 rfl (lv_at hl 5 rfl) ?_
        have hPc : va_P (dC, dI) vwCl ([((h 4), .inl ((kc 4), 20, .inl cl))]) _ := hP.sub [4] rfl
        have hKc : va_K (dC, dI) vwCl ([((kc 4), .int)]) s := hK.sub [3] rfl
        refine va_calli (va_runS (As := [.ref (h 4), .int co]) (rest := []) ⟨hx, hb, hml, hown, hts⟩ (c_X0_isVain l dC dI (h 4) (kc 4) 20 cl co (by decide)) (va_cwS 2 hts gX0_settle_X0_isVain rfl rfl rfl (by decide +kernel) ⟨Nat.le_of_ble_eq_true rfl, Nat.le_of_ble_eq_true rfl⟩) ⟨gcPR_blind, fun U hU hW => ⟨rfl, by rw [hU]; exact hPc, va_K.moved hW.alike hKc⟩⟩ rfl rfl hl.1 rfl (lv_room (Nat.le_of_ble_eq_true rfl)) dX0_settle_56 ⟨Nat.zero_le _, Nat.zero_le _⟩) hS (fun q _ h => h.elim) (fun q h => h.elim) (fun r5 u t H locs ht hvm hw hB hz1 hk1 hS => ?_)
        have hP := gc_keep hP hk1
        have hw : r5 = gB (gVain 20 cl co) := hw
        subst hw
        clear hB hz1 hk1 ht hvm
        clear hPc hKc
        refine lv_if_eq (tgt := 85) hx hb dX0_settle_59 (by decide) (fun c_59 => ?_) (fun c_59 => ?_)
        · skip
          have c_59 := gB_f c_59
          refine lv_aload_n hx hb dX0_settle_85 rfl (lv_at hl 4 rfl) ?_
          refine va_get (D := (dC, dI)) (ci := 0) (v := .ref (h 6)) (C := RX0) (T := TX0) (N := 10) hx hb hts hin0 hown hK hP 0 rfl rfl 5 (by decide) (hts (.fieldLink RX0 25 "GuestChairs" "seated" "[I") (by decide +kernel)) (fun _ h9 => h9) rfl dX0_settle_86 ?_
          refine lv_iload hx hb dX0_settle_89 (lv_at hl 1 rfl) ?_
          refine lv_iload hx hb dX0_settle_91 (lv_at hl 0 rfl) ?_
          refine lv_aload_n hx hb dX0_settle_93 rfl (lv_at hl 4 rfl) ?_
          refine va_get (D := (dC, dI)) (ci := 0) (v := .ref (h 4)) (C := RX0) (T := TX0) (N := 10) hx hb hts hin0 hown hK hP 0 rfl rfl 3 (by decide) (hts (.fieldLink RX0 19 "GuestChairs" "closed" "[I") (by decide +kernel)) (fun _ h9 => h9) rfl dX0_settle_94 ?_
          refine lv_iload_n hx hb dX0_settle_97 rfl (lv_at hl 5 rfl) ?_
          have hPc : va_P (dC, dI) vwCl ([((h 4), .inl ((kc 4), 20, .inl cl))]) _ := hP.sub [4] rfl
          have hKc : va_K (dC, dI) vwCl ([((kc 4), .int)]) s := hK.sub [3] rfl
          refine va_calli (va_runS (As := [.ref (h 4), .int co]) (rest := [.int (gAt 1024 sv (nI i)), .int (nI i), .ref (h 6)]) ⟨hx, hb, hml, hown, hts⟩ (c_X0_at l dC dI (h 4) (kc 4) 20 cl co (by decide)) (va_cwS 2 hts gX0_settle_X0_at rfl rfl rfl (by decide +kernel) ⟨Nat.le_of_ble_eq_true rfl, Nat.le_of_ble_eq_true rfl⟩) ⟨gcPR_blind, fun U hU hW => ⟨rfl, by rw [hU]; exact hPc, va_K.moved hW.alike hKc⟩⟩ rfl rfl hl.1 rfl (lv_room (Nat.le_of_ble_eq_true rfl)) dX0_settle_98 ⟨Nat.zero_le _, Nat.zero_le _⟩) hS (fun q _ h => h.elim) (fun q h => h.elim) (fun r6 u t H locs ht hvm hw hB hz1 hk1 hS => ?_)
          have hP := gc_keep hP hk1
          have hw : r6 = gAt 20 cl co := hw
          subst hw
          clear hB hz1 hk1 ht hvm
          clear hPc hKc
          refine lv_ior hx hb dX0_settle_101 ?_
          have hPc : va_P (dC, dI) vwCl ([((h 6), .inl ((kc 6), 1024, .inl sv))]) _ := hP.sub [6] rfl
          have hKc : va_K (dC, dI) vwCl ([((kc 6), .int)]) s := hK.sub [5] rfl
          have hDc : va_D A ([((h 6), .inl ((kc 6), 1024, .inl sv))]) := hD.sub [6] (by decide) rfl
          have hFc := va_free (wc := ([((h 6), .inl ((kc 6), 1024, .inl sv))])) hD hS hA [6] rfl
          refine va_callv (va_runS (As := [.ref (h 6), .int (nI i), .int (gAt 1024 sv (nI i) ||| gAt 20 cl co)]) (rest := []) ⟨hx, hb, hml, hown, hts⟩ (c_X0_put l dC dI (h 6) (kc 6) 1024 sv (nI i) (gAt 1024 sv (nI i) ||| gAt 20 cl co) H.size (by decide)) (va_cwS 3 hts gX0_settle_X0_put rfl rfl rfl (by decide +kernel) ⟨Nat.le_of_ble_eq_true rfl, Nat.le_of_ble_eq_true rfl⟩) ⟨gcPM_blind, fun U hU hW => ⟨rfl, by rw [hU], by rw [hU]; exact hPc, va_K.moved hW.alike hKc, hDc.weaken (fun _ _ _ _ => trivial)⟩⟩ rfl rfl hl.1 rfl (lv_room (Nat.le_of_ble_eq_true rfl)) dX0_settle_102 ⟨Nat.zero_le _, Nat.zero_le _⟩) hS (fun q _ h => hFc q h) hFc (fun u t H locs ht hvm hw hB hz1 hk1 hS => ?_)
          obtain ⟨hP1, hD1⟩ := hB
          rw [ht] at hP1
          obtain ⟨hP, hD⟩ := va_join (wr := [(h 0, .inr (0, [.ref (h 1), .ref (h 2), .ref (h 3), .ref (h 4), .ref (h 5), .ref (h 6), .int (nI g), .int (nI r), .int inf, .int (nI k)])), (h 1, .inl (kc 1, 30, .inl f1)), (h 2, .inl (kc 2, 30, .inl f2)), (h 3, .inl (kc 3, 20, .inl dr)), (h 4, .inl (kc 4, 20, .inl cl)), (h 5, .inl (kc 5, 20, .inl tr))]) (w1 := ([((h 6), .inl ((kc 6), 1024, .inl (gPut 1024 sv (nI i) (gAt 1024 sv (nI i) ||| gAt 20 cl co))))])) hP hD [6] [0, 1, 2, 3, 4, 5] rfl rfl (by decide) (by decide) hk1 hFc hP1 hD1
          have hP : va_P (dC, dI) vwCl (gcW h kc f1 f2 dr cl tr (gPut 1024 sv (nI i) (gAt 1024 sv (nI i) ||| gAt 20 cl co)) (nI g) (nI r) inf (nI k)) H := hP.sub [0, 1, 2, 3, 4, 5, 6] rfl
          have hD : va_D A (gcW h kc f1 f2 dr cl tr (gPut 1024 sv (nI i) (gAt 1024 sv (nI i) ||| gAt 20 cl co)) (nI g) (nI r) inf (nI k)) := hD.sub [0, 1, 2, 3, 4, 5, 6] (by decide) rfl
          clear hz1 hk1 ht hvm hP1 hD1 hFc hDc
          clear hPc hKc
          refine lv_aload_n hx hb dX0_settle_105 rfl (lv_at hl 4 rfl) ?_
          refine va_get (D := (dC, dI)) (ci := 0) (v := .ref (h 4)) (C := RX0) (T := TX0) (N := 10) hx hb hts hin0 hown hK hP 0 rfl rfl 3 (by decide) (hts (.fieldLink RX0 19 "GuestChairs" "closed" "[I") (by decide +kernel)) (fun _ h9 => h9) rfl dX0_settle_106 ?_
          refine lv_iload_n hx hb dX0_settle_109 rfl (lv_at hl 3 rfl) ?_
          have hPc : va_P (dC, dI) vwCl ([((h 4), .inl ((kc 4), 20, .inl cl))]) _ := hP.sub [4] rfl
          have hKc : va_K (dC, dI) vwCl ([((kc 4), .int)]) s := hK.sub [3] rfl
          refine va_calli (va_runS (As := [.ref (h 4), .int (co ^^^ 1)]) (rest := []) ⟨hx, hb, hml, hown, hts⟩ (c_X0_isVain l dC dI (h 4) (kc 4) 20 cl (co ^^^ 1) (by decide)) (va_cwS 2 hts gX0_settle_X0_isVain rfl rfl rfl (by decide +kernel) ⟨Nat.le_of_ble_eq_true rfl, Nat.le_of_ble_eq_true rfl⟩) ⟨gcPR_blind, fun U hU hW => ⟨rfl, by rw [hU]; exact hPc, va_K.moved hW.alike hKc⟩⟩ rfl rfl hl.1 rfl (lv_room (Nat.le_of_ble_eq_true rfl)) dX0_settle_110 ⟨Nat.zero_le _, Nat.zero_le _⟩) hS (fun q _ h => h.elim) (fun q h => h.elim) (fun r8 u t H locs ht hvm hw hB hz1 hk1 hS => ?_)
          have hP := gc_keep hP hk1
          have hw : r8 = gB (gVain 20 cl (co ^^^ 1)) := hw
          subst hw
          clear hB hz1 hk1 ht hvm
          clear hPc hKc
          refine lv_if_ne (tgt := 148) hx hb dX0_settle_113 (by decide) (fun c_113 => ?_) (fun c_113 => ?_)
          · skip
            have c_113 := gB_t c_113
            refine lv_iinc (v := nI (i + 1)) (lv' := [(4, .int (nI (i + 1))), (5, .int (gAt 1024 sv (nI i))), (3, .int (nI c)), (2, .int (co ^^^ 1)), (0, .ref (h 0)), (1, .int co)]) hx hb dX0_settle_148 hl (k := 1) rfl (nI_1 i) (by decide) rfl (fun ls hl => ?_)
            refine lv_goto (tgt := 13) hx hb dX0_settle_151 (by decide) ?_
            exact ihi H _ ls (by omega) ⟨(gPut 1024 sv (nI i) (gAt 1024 sv (nI i) ||| gAt 20 cl co)), k, (by simp only [gSt, ← e_sv, ← e_k]; simp [gSt, c_36, c_45, c_59, c_113]), (by simp only [gSt, ← e_sv, ← e_k]; simp [gSt, c_36, c_45, c_59, c_113]), hP, hD, hS, lv_sub hl [0, 2, 3, 4, 5] rfl⟩
          · skip
            have c_113 := gB_f c_113
            refine lv_aload_n hx hb dX0_settle_116 rfl (lv_at hl 4 rfl) ?_
            refine va_get (D := (dC, dI)) (ci := 0) (v := .ref (h 6)) (C := RX0) (T := TX0) (N := 10) hx hb hts hin0 hown hK hP 0 rfl rfl 5 (by decide) (hts (.fieldLink RX0 25 "GuestChairs" "seated" "[I") (by decide +kernel)) (fun _ h9 => h9) rfl dX0_settle_117 ?_
            refine lv_aload_n hx hb dX0_settle_120 rfl (lv_at hl 4 rfl) ?_
            refine va_get (D := (dC, dI)) (ci := 0) (v := .int (nI k)) (C := RX0) (T := TX0) (N := 10) hx hb hts hin0 hown hK hP 0 rfl rfl 9 (by decide) (hts (.fieldLink RX0 115 "GuestChairs" "seatingCount" "I") (by decide +kernel)) (fun _ h9 => h9) rfl dX0_settle_121 ?_
            refine lv_iload hx hb dX0_settle_124 (lv_at hl 0 rfl) ?_
            refine lv_aload_n hx hb dX0_settle_126 rfl (lv_at hl 4 rfl) ?_
            refine va_get (D := (dC, dI)) (ci := 0) (v := .ref (h 4)) (C := RX0) (T := TX0) (N := 10) hx hb hts hin0 hown hK hP 0 rfl rfl 3 (by decide) (hts (.fieldLink RX0 19 "GuestChairs" "closed" "[I") (by decide +kernel)) (fun _ h9 => h9) rfl dX0_settle_127 ?_
            refine lv_iload_n hx hb dX0_settle_130 rfl (lv_at hl 3 rfl) ?_
            have hPc : va_P (dC, dI) vwCl ([((h 4), .inl ((kc 4), 20, .inl cl))]) _ := hP.sub [4] rfl
            have hKc : va_K (dC, dI) vwCl ([((kc 4), .int)]) s := hK.sub [3] rfl
            refine va_calli (va_runS (As := [.ref (h 4), .int (co ^^^ 1)]) (rest := [.int (gAt 1024 sv (nI i)), .int (nI k), .ref (h 6)]) ⟨hx, hb, hml, hown, hts⟩ (c_X0_at l dC dI (h 4) (kc 4) 20 cl (co ^^^ 1) (by decide)) (va_cwS 2 hts gX0_settle_X0_at rfl rfl rfl (by decide +kernel) ⟨Nat.le_of_ble_eq_true rfl, Nat.le_of_ble_eq_true rfl⟩) ⟨gcPR_blind, fun U hU hW => ⟨rfl, by rw [hU]; exact hPc, va_K.moved hW.alike hKc⟩⟩ rfl rfl hl.1 rfl (lv_room (Nat.le_of_ble_eq_true rfl)) dX0_settle_131 ⟨Nat.zero_le _, Nat.zero_le _⟩) hS (fun q _ h => h.elim) (fun q h => h.elim) (fun r9 u t H locs ht hvm hw hB hz1 hk1 hS => ?_)
            have hP := gc_keep hP hk1
            have hw : r9 = gAt 20 cl (co ^^^ 1) := hw
            subst hw
            clear hB hz1 hk1 ht hvm
            clear hPc hKc
            refine lv_ior hx hb dX0_settle_134 ?_
            have hPc : va_P (dC, dI) vwCl ([((h 6), .inl ((kc 6), 1024, .inl (gPut 1024 sv (nI i) (gAt 1024 sv (nI i) ||| gAt 20 cl co))))]) _ := hP.sub [6] rfl
            have hKc : va_K (dC, dI) vwCl ([((kc 6), .int)]) s := hK.sub [5] rfl
            have hDc : va_D A ([((h 6), .inl ((kc 6), 1024, .inl (gPut 1024 sv (nI i) (gAt 1024 sv (nI i) ||| gAt 20 cl co))))]) := hD.sub [6] (by decide) rfl
            have hFc := va_free (wc := ([((h 6), .inl ((kc 6), 1024, .inl (gPut 1024 sv (nI i) (gAt 1024 sv (nI i) ||| gAt 20 cl co))))])) hD hS hA [6] rfl
            refine va_callv (va_runS (As := [.ref (h 6), .int (nI k), .int (gAt 1024 sv (nI i) ||| gAt 20 cl (co ^^^ 1))]) (rest := []) ⟨hx, hb, hml, hown, hts⟩ (c_X0_put l dC dI (h 6) (kc 6) 1024 (gPut 1024 sv (nI i) (gAt 1024 sv (nI i) ||| gAt 20 cl co)) (nI k) (gAt 1024 sv (nI i) ||| gAt 20 cl (co ^^^ 1)) H.size (by decide)) (va_cwS 3 hts gX0_settle_X0_put rfl rfl rfl (by decide +kernel) ⟨Nat.le_of_ble_eq_true rfl, Nat.le_of_ble_eq_true rfl⟩) ⟨gcPM_blind, fun U hU hW => ⟨rfl, by rw [hU], by rw [hU]; exact hPc, va_K.moved hW.alike hKc, hDc.weaken (fun _ _ _ _ => trivial)⟩⟩ rfl rfl hl.1 rfl (lv_room (Nat.le_of_ble_eq_true rfl)) dX0_settle_135 ⟨Nat.zero_le _, Nat.zero_le _⟩) hS (fun q _ h => hFc q h) hFc (fun u t H locs ht hvm hw hB hz1 hk1 hS => ?_)
            obtain ⟨hP1, hD1⟩ := hB
            rw [ht] at hP1
            obtain ⟨hP, hD⟩ := va_join (wr := [(h 0, .inr (0, [.ref (h 1), .ref (h 2), .ref (h 3), .ref (h 4), .ref (h 5), .ref (h 6), .int (nI g), .int (nI r), .int inf, .int (nI k)])), (h 1, .inl (kc 1, 30, .inl f1)), (h 2, .inl (kc 2, 30, .inl f2)), (h 3, .inl (kc 3, 20, .inl dr)), (h 4, .inl (kc 4, 20, .inl cl)), (h 5, .inl (kc 5, 20, .inl tr))]) (w1 := ([((h 6), .inl ((kc 6), 1024, .inl (gPut 1024 (gPut 1024 sv (nI i) (gAt 1024 sv (nI i) ||| gAt 20 cl co)) (nI k) (gAt 1024 sv (nI i) ||| gAt 20 cl (co ^^^ 1)))))])) hP hD [6] [0, 1, 2, 3, 4, 5] rfl rfl (by decide) (by decide) hk1 hFc hP1 hD1
            have hP : va_P (dC, dI) vwCl (gcW h kc f1 f2 dr cl tr (gPut 1024 (gPut 1024 sv (nI i) (gAt 1024 sv (nI i) ||| gAt 20 cl co)) (nI k) (gAt 1024 sv (nI i) ||| gAt 20 cl (co ^^^ 1))) (nI g) (nI r) inf (nI k)) H := hP.sub [0, 1, 2, 3, 4, 5, 6] rfl
            have hD : va_D A (gcW h kc f1 f2 dr cl tr (gPut 1024 (gPut 1024 sv (nI i) (gAt 1024 sv (nI i) ||| gAt 20 cl co)) (nI k) (gAt 1024 sv (nI i) ||| gAt 20 cl (co ^^^ 1))) (nI g) (nI r) inf (nI k)) := hD.sub [0, 1, 2, 3, 4, 5, 6] (by decide) rfl
            clear hz1 hk1 ht hvm hP1 hD1 hFc hDc
            clear hPc hKc
            refine lv_aload_n hx hb dX0_settle_138 rfl (lv_at hl 4 rfl) ?_
            refine lv_dup hx hb dX0_settle_139 rfl ?_
            refine va_get (D := (dC, dI)) (ci := 0) (v := .int (nI k)) (C := RX0) (T := TX0) (N := 10) hx hb hts hin0 hown hK hP 0 rfl rfl 9 (by decide) (hts (.fieldLink RX0 115 "GuestChairs" "seatingCount" "I") (by decide +kernel)) (fun _ h9 => h9) rfl dX0_settle_140 ?_
            refine lv_iconst (v := 1) hx hb dX0_settle_143 (by decide) ?_
            refine lv_iadd hx hb dX0_settle_144 ?_
            refine gc_topi (y := nI (k + 1)) (nI_1 k) ?_
            refine va_put (D := (dC, dI)) (ci := 0) (v := .int (nI (k + 1))) (ty := .int) (C := RX0) (T := TX0) (N := 10) hx hb hts hin0 tyX0 tyX0_ok nmX0 hown hK hP hD hS 0 rfl rfl 9 (by decide) (hts (.fieldLink RX0 115 "GuestChairs" "seatingCount" "I") (by decide +kernel)) (fun _ h9 => h9) rfl (by decide +kernel) rfl rfl (Nat.le_of_ble_eq_true rfl) dX0_settle_145 (fun H locs hP hD hS => ?_)
            have hP : va_P (dC, dI) vwCl (gcW h kc f1 f2 dr cl tr (gPut 1024 (gPut 1024 sv (nI i) (gAt 1024 sv (nI i) ||| gAt 20 cl co)) (nI k) (gAt 1024 sv (nI i) ||| gAt 20 cl (co ^^^ 1))) (nI g) (nI r) inf (nI (k + 1))) H := hP
            have hD : va_D A (gcW h kc f1 f2 dr cl tr (gPut 1024 (gPut 1024 sv (nI i) (gAt 1024 sv (nI i) ||| gAt 20 cl co)) (nI k) (gAt 1024 sv (nI i) ||| gAt 20 cl (co ^^^ 1))) (nI g) (nI r) inf (nI (k + 1))) := hD
            refine lv_iinc (v := nI (i + 1)) (lv' := [(4, .int (nI (i + 1))), (5, .int (gAt 1024 sv (nI i))), (3, .int (nI c)), (2, .int (co ^^^ 1)), (0, .ref (h 0)), (1, .int co)]) hx hb dX0_settle_148 hl (k := 1) rfl (nI_1 i) (by decide) rfl (fun ls hl => ?_)
            refine lv_goto (tgt := 13) hx hb dX0_settle_151 (by decide) ?_
            exact ihi H _ ls (by omega) ⟨(gPut 1024 (gPut 1024 sv (nI i) (gAt 1024 sv (nI i) ||| gAt 20 cl co)) (nI k) (gAt 1024 sv (nI i) ||| gAt 20 cl (co ^^^ 1))), (k + 1), (by simp only [gSt, ← e_sv, ← e_k]; simp [gSt, c_36, c_45, c_59, c_113]), (by simp only [gSt, ← e_sv, ← e_k]; simp [gSt, c_36, c_45, c_59, c_113]), hP, hD, hS, lv_sub hl [0, 2, 3, 4, 5] rfl⟩
        · skip
          have c_59 := gB_t c_59
          refine lv_aload_n hx hb dX0_settle_62 rfl (lv_at hl 4 rfl) ?_
          refine va_get (D := (dC, dI)) (ci := 0) (v := .ref (h 6)) (C := RX0) (T := TX0) (N := 10) hx hb hts hin0 hown hK hP 0 rfl rfl 5 (by decide) (hts (.fieldLink RX0 25 "GuestChairs" "seated" "[I") (by decide +kernel)) (fun _ h9 => h9) rfl dX0_settle_63 ?_
          refine lv_iload hx hb dX0_settle_66 (lv_at hl 1 rfl) ?_
          refine lv_iload hx hb dX0_settle_68 (lv_at hl 0 rfl) ?_
          refine lv_aload_n hx hb dX0_settle_70 rfl (lv_at hl 4 rfl) ?_
          refine va_get (D := (dC, dI)) (ci := 0) (v := .ref (h 4)) (C := RX0) (T := TX0) (N := 10) hx hb hts hin0 hown hK hP 0 rfl rfl 3 (by decide) (hts (.fieldLink RX0 19 "GuestChairs" "closed" "[I") (by decide +kernel)) (fun _ h9 => h9) rfl dX0_settle_71 ?_
          refine lv_iload_n hx hb dX0_settle_74 rfl (lv_at hl 3 rfl) ?_
          have hPc : va_P (dC, dI) vwCl ([((h 4), .inl ((kc 4), 20, .inl cl))]) _ := hP.sub [4] rfl
          have hKc : va_K (dC, dI) vwCl ([((kc 4), .int)]) s := hK.sub [3] rfl
          refine va_calli (va_runS (As := [.ref (h 4), .int (co ^^^ 1)]) (rest := [.int (gAt 1024 sv (nI i)), .int (nI i), .ref (h 6)]) ⟨hx, hb, hml, hown, hts⟩ (c_X0_at l dC dI (h 4) (kc 4) 20 cl (co ^^^ 1) (by decide)) (va_cwS 2 hts gX0_settle_X0_at rfl rfl rfl (by decide +kernel) ⟨Nat.le_of_ble_eq_true rfl, Nat.le_of_ble_eq_true rfl⟩) ⟨gcPR_blind, fun U hU hW => ⟨rfl, by rw [hU]; exact hPc, va_K.moved hW.alike hKc⟩⟩ rfl rfl hl.1 rfl (lv_room (Nat.le_of_ble_eq_true rfl)) dX0_settle_75 ⟨Nat.zero_le _, Nat.zero_le _⟩) hS (fun q _ h => h.elim) (fun q h => h.elim) (fun r11 u t H locs ht hvm hw hB hz1 hk1 hS => ?_)
          have hP := gc_keep hP hk1
          have hw : r11 = gAt 20 cl (co ^^^ 1) := hw
          subst hw
          clear hB hz1 hk1 ht hvm
          clear hPc hKc
          refine lv_ior hx hb dX0_settle_78 ?_
          have hPc : va_P (dC, dI) vwCl ([((h 6), .inl ((kc 6), 1024, .inl sv))]) _ := hP.sub [6] rfl
          have hKc : va_K (dC, dI) vwCl ([((kc 6), .int)]) s := hK.sub [5] rfl
          have hDc : va_D A ([((h 6), .inl ((kc 6), 1024, .inl sv))]) := hD.sub [6] (by decide) rfl
          have hFc := va_free (wc := ([((h 6), .inl ((kc 6), 1024, .inl sv))])) hD hS hA [6] rfl
          refine va_callv (va_runS (As := [.ref (h 6), .int (nI i), .int (gAt 1024 sv (nI i) ||| gAt 20 cl (co ^^^ 1))]) (rest := []) ⟨hx, hb, hml, hown, hts⟩ (c_X0_put l dC dI (h 6) (kc 6) 1024 sv (nI i) (gAt 1024 sv (nI i) ||| gAt 20 cl (co ^^^ 1)) H.size (by decide)) (va_cwS 3 hts gX0_settle_X0_put rfl rfl rfl (by decide +kernel) ⟨Nat.le_of_ble_eq_true rfl, Nat.le_of_ble_eq_true rfl⟩) ⟨gcPM_blind, fun U hU hW => ⟨rfl, by rw [hU], by rw [hU]; exact hPc, va_K.moved hW.alike hKc, hDc.weaken (fun _ _ _ _ => trivial)⟩⟩ rfl rfl hl.1 rfl (lv_room (Nat.le_of_ble_eq_true rfl)) dX0_settle_79 ⟨Nat.zero_le _, Nat.zero_le _⟩) hS (fun q _ h => hFc q h) hFc (fun u t H locs ht hvm hw hB hz1 hk1 hS => ?_)
          obtain ⟨hP1, hD1⟩ := hB
          rw [ht] at hP1
          obtain ⟨hP, hD⟩ := va_join (wr := [(h 0, .inr (0, [.ref (h 1), .ref (h 2), .ref (h 3), .ref (h 4), .ref (h 5), .ref (h 6), .int (nI g), .int (nI r), .int inf, .int (nI k)])), (h 1, .inl (kc 1, 30, .inl f1)), (h 2, .inl (kc 2, 30, .inl f2)), (h 3, .inl (kc 3, 20, .inl dr)), (h 4, .inl (kc 4, 20, .inl cl)), (h 5, .inl (kc 5, 20, .inl tr))]) (w1 := ([((h 6), .inl ((kc 6), 1024, .inl (gPut 1024 sv (nI i) (gAt 1024 sv (nI i) ||| gAt 20 cl (co ^^^ 1)))))])) hP hD [6] [0, 1, 2, 3, 4, 5] rfl rfl (by decide) (by decide) hk1 hFc hP1 hD1
          have hP : va_P (dC, dI) vwCl (gcW h kc f1 f2 dr cl tr (gPut 1024 sv (nI i) (gAt 1024 sv (nI i) ||| gAt 20 cl (co ^^^ 1))) (nI g) (nI r) inf (nI k)) H := hP.sub [0, 1, 2, 3, 4, 5, 6] rfl
          have hD : va_D A (gcW h kc f1 f2 dr cl tr (gPut 1024 sv (nI i) (gAt 1024 sv (nI i) ||| gAt 20 cl (co ^^^ 1))) (nI g) (nI r) inf (nI k)) := hD.sub [0, 1, 2, 3, 4, 5, 6] (by decide) rfl
          clear hz1 hk1 ht hvm hP1 hD1 hFc hDc
          clear hPc hKc
          refine lv_goto (tgt := 148) hx hb dX0_settle_82 (by decide) ?_
          refine lv_iinc (v := nI (i + 1)) (lv' := [(4, .int (nI (i + 1))), (5, .int (gAt 1024 sv (nI i))), (3, .int (nI c)), (2, .int (co ^^^ 1)), (0, .ref (h 0)), (1, .int co)]) hx hb dX0_settle_148 hl (k := 1) rfl (nI_1 i) (by decide) rfl (fun ls hl => ?_)
          refine lv_goto (tgt := 13) hx hb dX0_settle_151 (by decide) ?_
          exact ihi H _ ls (by omega) ⟨(gPut 1024 sv (nI i) (gAt 1024 sv (nI i) ||| gAt 20 cl (co ^^^ 1))), k, (by simp only [gSt, ← e_sv, ← e_k]; simp [gSt, c_36, c_45, c_59]), (by simp only [gSt, ← e_sv, ← e_k]; simp [gSt, c_36, c_45, c_59]), hP, hD, hS, lv_sub hl [0, 2, 3, 4, 5] rfl⟩
      · skip
        have c_45 := gB_t c_45
        refine lv_goto (tgt := 148) hx hb dX0_settle_48 (by decide) ?_
        refine lv_iinc (v := nI (i + 1)) (lv' := [(4, .int (nI (i + 1))), (5, .int (gAt 1024 sv (nI i))), (3, .int (nI c)), (2, .int (co ^^^ 1)), (0, .ref (h 0)), (1, .int co)]) hx hb dX0_settle_148 hl (k := 1) rfl (nI_1 i) (by decide) rfl (fun ls hl => ?_)
        refine lv_goto (tgt := 13) hx hb dX0_settle_151 (by decide) ?_
        exact ihi H _ ls (by omega) ⟨sv, k, (by simp only [gSt, ← e_sv, ← e_k]; simp [gSt, c_36, c_45]), (by simp only [gSt, ← e_sv, ← e_k]; simp [gSt, c_36, c_45]), hP, hD, hS, lv_sub hl [0, 2, 3, 4, 5] rfl⟩
set_option maxHeartbeats 4000000 in
set_option maxRecDepth 100000 in
theorem c_X0_listSeatings (l : Launch) (dC : Nat → ClassId) (dI : Nat → Nat → Nat) (h : Nat → Nat) (kc : Nat → ClassId) (f1 : Nat → Int32) (f2 : Nat → Int32) (dr : Nat → Int32) (cl : Nat → Int32) (tr : Nat → Int32) (se : Nat → Int32) (g : Nat) (r : Nat) (inf : Int32) (c : Nat) (sz : Nat) (hg : g ≤ 10) : Met l yX0_listSeatings wsX0_listSeatings ({ frames := 5, cells := 0, slots := 0, locals := 106 }) (gcPM (dC, dI) [.ref (h 0)] (gcW h kc f1 f2 dr cl tr se (nI g) (nI r) inf (nI c)) (gcT kc) sz) (va_Qv (fun (_u : Unit) => True) (fun _u t => va_P (dC, dI) vwCl (gcW h kc f1 f2 dr cl tr ((gLs cl se g g).1) (nI g) (nI r) inf (nI (gLs cl se g g).2)) t.heap ∧ va_D (va_A (gcW h kc f1 f2 dr cl tr se (nI g) (nI r) inf (nI c)) sz) (gcW h kc f1 f2 dr cl tr ((gLs cl se g g).1) (nI g) (nI r) inf (nI (gLs cl se g g).2))) (va_A (gcW h kc f1 f2 dr cl tr se (nI g) (nI r) inf (nI c)) sz)) 0 0 (va_A (gcW h kc f1 f2 dr cl tr se (nI g) (nI r) inf (nI c)) sz) := by
  refine Met.ofW (cc := cX0_listSeatings) (maxL := 2) (ret := none) (by decide) rfl ?_
  intro p e s m args below meth c s₁ B hml hv
  obtain ⟨rfl, hsz, hP, hK, hD0⟩ := hv
  have hx := B.exec
  have hb := B.bytes
  have hr := B.returns
  have hts := atoms_spec (ws := wsX0_listSeatings) B.pre
  have hown : s.vm.findClass RX0 = some m.cls := findClass_of_methodNamed B.named
  have hlocks := B.notSynchronized
  subst hsz
  have hD := hD0.self (sz := s.heap.size)
  generalize hAe : va_A (gcW h kc f1 f2 dr cl tr se (nI g) (nI r) inf (nI c)) s.heap.size = A at hD ⊢
  have hA : ∀ q : Nat, s.heap.size ≤ q → A q := fun q h => by rw [← hAe]; exact Or.inr h
  have hS : va_S A s.heap s.heap [] := va_S.rf
  have hP : va_P (dC, dI) vwCl (gcW h kc f1 f2 dr cl tr se (nI g) (nI r) inf (nI c)) s.heap := hP
  have hin0 : ∀ w ∈ wsX00, w ∈ wsX0_listSeatings := by decide +kernel
  have hl := lv_entry [.ref (h 0)] (n := 2) (Nat.le_of_ble_eq_true rfl)
  rw [lg_entry_eq]
  generalize (lg_sl [.ref (h 0)] ++ List.replicate (2 - (lg_sl [.ref (h 0)]).length) Slot.unset).toArray = ls at hl ⊢
  have hl : lv_has ls 2 [(0, .ref (h 0))] := hl
  refine lv_aload_n hx hb dX0_listSeatings_0 rfl (lv_at hl 0 rfl) ?_
  refine lv_aload_n hx hb dX0_listSeatings_1 rfl (lv_at hl 0 rfl) ?_
  have hPc : va_P (dC, dI) vwCl (gcW h kc f1 f2 dr cl tr se (nI g) (nI r) inf (nI c)) _ := hP.sub [0, 1, 2, 3, 4, 5, 6] rfl
  have hKc : va_K (dC, dI) vwCl (gcT kc) s := hK.sub [0, 1, 2, 3, 4, 5] rfl
  refine va_calli (va_runV (As := []) (rest := [.ref (h 0)]) ⟨hx, hb, hml, hown, hts⟩ (c_X0_fits l dC dI h kc f1 f2 dr cl tr se g r inf c (by first | assumption | omega)) (cwV 0 hts gX0_listSeatings_X0_fits rfl rfl rfl (by decide +kernel) ⟨Nat.le_of_ble_eq_true rfl, Nat.le_of_ble_eq_true rfl⟩) ⟨gcPR_blind, va_recv hK hP (ci := 0) (q0 := 0) rfl rfl, fun U hU hW => ⟨rfl, by rw [hU]; exact hPc, va_K.moved hW.alike hKc⟩⟩ rfl rfl hl.1 rfl (lv_room (Nat.le_of_ble_eq_true rfl)) dX0_listSeatings_2 ⟨Nat.zero_le _, Nat.zero_le _⟩) hS (fun q _ h => h.elim) (fun q h => h.elim) (fun r1 u t H locs ht hvm hw hB hz1 hk1 hS => ?_)
  have hP := gc_keep hP hk1
  have hw : r1 = gB (gFt cl g) := hw
  subst hw
  clear hB hz1 hk1 ht hvm
  clear hPc hKc
  refine va_calli (va_runS (As := [.int (gB (gFt cl g))]) (rest := [.ref (h 0)]) ⟨hx, hb, hml, hown, hts⟩ (c_X0_oneIf l (gFt cl g)) (va_cwS 1 hts gX0_listSeatings_X0_oneIf rfl rfl rfl (by decide +kernel) ⟨Nat.le_of_ble_eq_true rfl, Nat.le_of_ble_eq_true rfl⟩) ⟨fun a U g mk q => q, fun U hU hW => ⟨rfl, trivial⟩⟩ rfl rfl hl.1 rfl (lv_room (Nat.le_of_ble_eq_true rfl)) dX0_listSeatings_5 ⟨Nat.zero_le _, Nat.zero_le _⟩) hS (fun q _ h => h.elim) (fun q h => h.elim) (fun r2 u t H locs ht hvm hw hB hz1 hk1 hS => ?_)
  have hP := gc_keep hP hk1
  have hw : r2 = gB (gFt cl g) := hw
  subst hw
  clear hB hz1 hk1 ht hvm
  refine gc_topi (y := nI (gF0 cl g)) (gF0_eq cl g) ?_
  refine va_put (D := (dC, dI)) (ci := 0) (v := .int (nI (gF0 cl g))) (ty := .int) (C := RX0) (T := TX0) (N := 10) hx hb hts hin0 tyX0 tyX0_ok nmX0 hown hK hP hD hS 0 rfl rfl 9 (by decide) (hts (.fieldLink RX0 115 "GuestChairs" "seatingCount" "I") (by decide +kernel)) (fun _ h9 => h9) rfl (by decide +kernel) rfl rfl (Nat.le_of_ble_eq_true rfl) dX0_listSeatings_8 (fun H locs hP hD hS => ?_)
  have hP : va_P (dC, dI) vwCl (gcW h kc f1 f2 dr cl tr se (nI g) (nI r) inf (nI (gF0 cl g))) H := hP
  have hD : va_D A (gcW h kc f1 f2 dr cl tr se (nI g) (nI r) inf (nI (gF0 cl g))) := hD
  refine lv_aload_n hx hb dX0_listSeatings_11 rfl (lv_at hl 0 rfl) ?_
  refine va_get (D := (dC, dI)) (ci := 0) (v := .ref (h 6)) (C := RX0) (T := TX0) (N := 10) hx hb hts hin0 hown hK hP 0 rfl rfl 5 (by decide) (hts (.fieldLink RX0 25 "GuestChairs" "seated" "[I") (by decide +kernel)) (fun _ h9 => h9) rfl dX0_listSeatings_12 ?_
  refine lv_iconst (v := 0) hx hb dX0_listSeatings_15 (by decide) ?_
  refine lv_iconst (v := 0) hx hb dX0_listSeatings_16 (by decide) ?_
  have hPc : va_P (dC, dI) vwCl ([((h 6), .inl ((kc 6), 1024, .inl se))]) _ := hP.sub [6] rfl
  have hKc : va_K (dC, dI) vwCl ([((kc 6), .int)]) s := hK.sub [5] rfl
  have hDc : va_D A ([((h 6), .inl ((kc 6), 1024, .inl se))]) := hD.sub [6] (by decide) rfl
  have hFc := va_free (wc := ([((h 6), .inl ((kc 6), 1024, .inl se))])) hD hS hA [6] rfl
  refine va_callv (va_runS (As := [.ref (h 6), .int 0, .int 0]) (rest := []) ⟨hx, hb, hml, hown, hts⟩ (c_X0_put l dC dI (h 6) (kc 6) 1024 se 0 0 H.size (by decide)) (va_cwS 3 hts gX0_listSeatings_X0_put rfl rfl rfl (by decide +kernel) ⟨Nat.le_of_ble_eq_true rfl, Nat.le_of_ble_eq_true rfl⟩) ⟨gcPM_blind, fun U hU hW => ⟨rfl, by rw [hU], by rw [hU]; exact hPc, va_K.moved hW.alike hKc, hDc.weaken (fun _ _ _ _ => trivial)⟩⟩ rfl rfl hl.1 rfl (lv_room (Nat.le_of_ble_eq_true rfl)) dX0_listSeatings_17 ⟨Nat.zero_le _, Nat.zero_le _⟩) hS (fun q _ h => hFc q h) hFc (fun u t H locs ht hvm hw hB hz1 hk1 hS => ?_)
  obtain ⟨hP1, hD1⟩ := hB
  rw [ht] at hP1
  obtain ⟨hP, hD⟩ := va_join (wr := [(h 0, .inr (0, [.ref (h 1), .ref (h 2), .ref (h 3), .ref (h 4), .ref (h 5), .ref (h 6), .int (nI g), .int (nI r), .int inf, .int (nI (gF0 cl g))])), (h 1, .inl (kc 1, 30, .inl f1)), (h 2, .inl (kc 2, 30, .inl f2)), (h 3, .inl (kc 3, 20, .inl dr)), (h 4, .inl (kc 4, 20, .inl cl)), (h 5, .inl (kc 5, 20, .inl tr))]) (w1 := ([((h 6), .inl ((kc 6), 1024, .inl (gPut 1024 se 0 0)))])) hP hD [6] [0, 1, 2, 3, 4, 5] rfl rfl (by decide) (by decide) hk1 hFc hP1 hD1
  have hP : va_P (dC, dI) vwCl (gcW h kc f1 f2 dr cl tr (gPut 1024 se 0 0) (nI g) (nI r) inf (nI (gF0 cl g))) H := hP.sub [0, 1, 2, 3, 4, 5, 6] rfl
  have hD : va_D A (gcW h kc f1 f2 dr cl tr (gPut 1024 se 0 0) (nI g) (nI r) inf (nI (gF0 cl g))) := hD.sub [0, 1, 2, 3, 4, 5, 6] (by decide) rfl
  clear hz1 hk1 ht hvm hP1 hD1 hFc hDc
  clear hPc hKc
  refine lv_iconst (v := 0) hx hb dX0_listSeatings_20 (by decide) ?_
  refine lv_istore_n (lv' := [(1, .int 0), (0, .ref (h 0))]) hx hb dX0_listSeatings_21 rfl hl (by decide) rfl (fun ls hl => ?_)
  refine gc_loop (g) (fun (i : Nat) (H : Heap) (locs : List Loc) (ls : Array Slot) => ∃ (sv : Nat → Int32) (k : Nat), sv = (gLs cl se g i).1 ∧ k = (gLs cl se g i).2 ∧ va_P (dC, dI) vwCl (gcW h kc f1 f2 dr cl tr sv (nI g) (nI r) inf (nI k)) H ∧ va_D A (gcW h kc f1 f2 dr cl tr sv (nI g) (nI r) inf (nI k)) ∧ va_S A s.heap H locs ∧ lv_has ls 2 [(1, .int (nI i)), (0, .ref (h 0))]) 0 (Nat.zero_le _) ⟨gPut 1024 se 0 0, (gF0 cl g), (by first | rfl | assumption | omega), (by first | rfl | assumption | omega), hP, hD, hS, lv_sub hl [0, 1] rfl⟩ ?_
  intro i H locs ls hi hI ihi
  obtain ⟨sv, k, e_sv, e_k, hP, hD, hS, hl⟩ := hI
  refine lv_iload_n hx hb dX0_listSeatings_22 rfl (lv_at hl 0 rfl) ?_
  refine lv_aload_n hx hb dX0_listSeatings_23 rfl (lv_at hl 1 rfl) ?_
  refine va_get (D := (dC, dI)) (ci := 0) (v := .int (nI g)) (C := RX0) (T := TX0) (N := 10) hx hb hts hin0 hown hK hP 0 rfl rfl 6 (by decide) (hts (.fieldLink RX0 31 "GuestChairs" "guestCount" "I") (by decide +kernel)) (fun _ h9 => h9) rfl dX0_listSeatings_24 ?_
  refine lv_icmp_ge (tgt := 43) hx hb dX0_listSeatings_27 (by decide) (fun c_27 => ?_) (fun c_27 => ?_)
  · skip
    have hEi : i = g := gc_ge c_27 (by omega) (by omega)
    have hWe : (gcW h kc f1 f2 dr cl tr sv (nI g) (nI r) inf (nI k)) = (gcW h kc f1 f2 dr cl tr ((gLs cl se g g).1) (nI g) (nI r) inf (nI (gLs cl se g g).2)) := by rw [e_sv, e_k, hEi]
    rw [hWe] at hP hD
    exact W.vret hx hb hr (fun t ht hW => ⟨⟨(), rfl, trivial, ⟨by rw [ht]; exact hP, hD⟩⟩, hS.F ht⟩) hS.2.2 dX0_listSeatings_43
  · skip
    have hLi : i < g := gc_lt c_27 (by omega)
    refine lv_aload_n hx hb dX0_listSeatings_30 rfl (lv_at hl 1 rfl) ?_
    refine lv_iconst (v := 2) hx hb dX0_listSeatings_31 (by decide) ?_
    refine lv_iload_n hx hb dX0_listSeatings_32 rfl (lv_at hl 0 rfl) ?_
    refine lv_imul hx hb dX0_listSeatings_33 ?_
    have hPc : va_P (dC, dI) vwCl (gcW h kc f1 f2 dr cl tr sv (nI g) (nI r) inf (nI k)) _ := hP.sub [0, 1, 2, 3, 4, 5, 6] rfl
    have hKc : va_K (dC, dI) vwCl (gcT kc) s := hK.sub [0, 1, 2, 3, 4, 5] rfl
    have hDc : va_D A (gcW h kc f1 f2 dr cl tr sv (nI g) (nI r) inf (nI k)) := hD.sub [0, 1, 2, 3, 4, 5, 6] (by decide) rfl
    have hFc := va_free (wc := (gcW h kc f1 f2 dr cl tr sv (nI g) (nI r) inf (nI k))) hD hS hA [0, 1, 2, 3, 4, 5, 6] rfl
    refine va_callv (va_runV (As := [.int (2 * nI i)]) (rest := []) ⟨hx, hb, hml, hown, hts⟩ (c_X0_settle l dC dI h kc f1 f2 dr cl tr sv g r inf k (2 * nI i) H.size (by rw [e_k]; exact gLs_le' cl se g (by omega))) (cwV 1 hts gX0_listSeatings_X0_settle rfl rfl rfl (by decide +kernel) ⟨Nat.le_of_ble_eq_true rfl, Nat.le_of_ble_eq_true rfl⟩) ⟨gcPM_blind, va_recv hK hP (ci := 0) (q0 := 0) rfl rfl, fun U hU hW => ⟨rfl, by rw [hU], by rw [hU]; exact hPc, va_K.moved hW.alike hKc, hDc.weaken (fun _ _ _ _ => trivial)⟩⟩ rfl rfl hl.1 rfl (lv_room (Nat.le_of_ble_eq_true rfl)) dX0_listSeatings_34 ⟨Nat.zero_le _, Nat.zero_le _⟩) hS (fun q _ h => hFc q h) hFc (fun u t H locs ht hvm hw hB hz1 hk1 hS => ?_)
    obtain ⟨hP1, hD1⟩ := hB
    rw [ht] at hP1
    obtain ⟨hP, hD⟩ := va_join (wr := []) (w1 := (gcW h kc f1 f2 dr cl tr ((gSt cl (2 * nI i) sv k k).1) (nI g) (nI r) inf (nI (gSt cl (2 * nI i) sv k k).2))) hP hD [0, 1, 2, 3, 4, 5, 6] [] rfl rfl (by decide) (by decide) hk1 hFc hP1 hD1
    have hP : va_P (dC, dI) vwCl (gcW h kc f1 f2 dr cl tr ((gSt cl (2 * nI i) sv k k).1) (nI g) (nI r) inf (nI (gSt cl (2 * nI i) sv k k).2)) H := hP.sub [0, 1, 2, 3, 4, 5, 6] rfl
    have hD : va_D A (gcW h kc f1 f2 dr cl tr ((gSt cl (2 * nI i) sv k k).1) (nI g) (nI r) inf (nI (gSt cl (2 * nI i) sv k k).2)) := hD.sub [0, 1, 2, 3, 4, 5, 6] (by decide) rfl
    clear hz1 hk1 ht hvm hP1 hD1 hFc hDc
    clear hPc hKc
    refine lv_iinc (v := nI (i + 1)) (lv' := [(1, .int (nI (i + 1))), (0, .ref (h 0))]) hx hb dX0_listSeatings_37 hl (k := 0) rfl (nI_1 i) (by decide) rfl (fun ls hl => ?_)
    refine lv_goto (tgt := 22) hx hb dX0_listSeatings_40 (by decide) ?_
    exact ihi H _ ls (by omega) ⟨((gSt cl (2 * nI i) sv k k).1), ((gSt cl (2 * nI i) sv k k).2), (by rw [e_sv, e_k]; rfl), (by rw [e_sv, e_k]; rfl), hP, hD, hS, lv_sub hl [0, 1] rfl⟩
set_option maxHeartbeats 4000000 in
set_option maxRecDepth 100000 in
theorem c_X0_fitsWithout (l : Launch) (dC : Nat → ClassId) (dI : Nat → Nat → Nat) (h : Nat → Nat) (kc : Nat → ClassId) (f1 : Nat → Int32) (f2 : Nat → Int32) (dr : Nat → Int32) (cl : Nat → Int32) (tr : Nat → Int32) (se : Nat → Int32) (g : Nat) (r : Nat) (inf : Int32) (c : Nat) (x : Int32) (sz : Nat) (hg : g ≤ 10) (hr30 : r ≤ 30) : Met l yX0_fitsWithout wsX0_fitsWithout ({ frames := 4, cells := 0, slots := 0, locals := 86 }) (gcPM (dC, dI) [.ref (h 0), .int x] (gcW h kc f1 f2 dr cl tr se (nI g) (nI r) inf (nI c)) (gcT kc) sz) (va_Qi (fun (r : Int32) (_u : Unit) => r = gB (gFt (gCl (gLA f1 f2 inf x r tr) 20) g)) (fun _u t => va_P (dC, dI) vwCl (gcW h kc f1 f2 dr cl (gCl (gLA f1 f2 inf x r tr) 20) se (nI g) (nI r) inf (nI c)) t.heap ∧ va_D (va_A (gcW h kc f1 f2 dr cl tr se (nI g) (nI r) inf (nI c)) sz) (gcW h kc f1 f2 dr cl (gCl (gLA f1 f2 inf x r tr) 20) se (nI g) (nI r) inf (nI c))) (va_A (gcW h kc f1 f2 dr cl tr se (nI g) (nI r) inf (nI c)) sz)) 0 0 (va_A (gcW h kc f1 f2 dr cl tr se (nI g) (nI r) inf (nI c)) sz) := by
  refine Met.ofW (cc := cX0_fitsWithout) (maxL := 2) (ret := (some .boolean)) (by decide) rfl ?_
  intro p e s m args below meth c s₁ B hml hv
  obtain ⟨rfl, hsz, hP, hK, hD0⟩ := hv
  have hx := B.exec
  have hb := B.bytes
  have hr := B.returns
  have hts := atoms_spec (ws := wsX0_fitsWithout) B.pre
  have hown : s.vm.findClass RX0 = some m.cls := findClass_of_methodNamed B.named
  have hlocks := B.notSynchronized
  subst hsz
  have hD := hD0.self (sz := s.heap.size)
  generalize hAe : va_A (gcW h kc f1 f2 dr cl tr se (nI g) (nI r) inf (nI c)) s.heap.size = A at hD ⊢
  have hA : ∀ q : Nat, s.heap.size ≤ q → A q := fun q h => by rw [← hAe]; exact Or.inr h
  have hS : va_S A s.heap s.heap [] := va_S.rf
  have hP : va_P (dC, dI) vwCl (gcW h kc f1 f2 dr cl tr se (nI g) (nI r) inf (nI c)) s.heap := hP
  have hin0 : ∀ w ∈ wsX00, w ∈ wsX0_fitsWithout := by decide +kernel
  have hl := lv_entry [.ref (h 0), .int x] (n := 2) (Nat.le_of_ble_eq_true rfl)
  rw [lg_entry_eq]
  generalize (lg_sl [.ref (h 0), .int x] ++ List.replicate (2 - (lg_sl [.ref (h 0), .int x]).length) Slot.unset).toArray = ls at hl ⊢
  have hl : lv_has ls 2 [(0, .ref (h 0)), (1, .int x)] := hl
  refine lv_aload_n hx hb dX0_fitsWithout_0 rfl (lv_at hl 0 rfl) ?_
  refine lv_iload_n hx hb dX0_fitsWithout_1 rfl (lv_at hl 1 rfl) ?_
  refine lv_aload_n hx hb dX0_fitsWithout_2 rfl (lv_at hl 0 rfl) ?_
  refine va_get (D := (dC, dI)) (ci := 0) (v := .ref (h 5)) (C := RX0) (T := TX0) (N := 10) hx hb hts hin0 hown hK hP 0 rfl rfl 4 (by decide) (hts (.fieldLink RX0 22 "GuestChairs" "trial" "[I") (by decide +kernel)) (fun _ h9 => h9) rfl dX0_fitsWithout_3 ?_
  have hPc : va_P (dC, dI) vwCl (gcW h kc f1 f2 dr cl tr se (nI g) (nI r) inf (nI c)) _ := hP.sub [0, 1, 2, 3, 4, 5, 6] rfl
  have hKc : va_K (dC, dI) vwCl (gcT kc) s := hK.sub [0, 1, 2, 3, 4, 5] rfl
  have hDc : va_D A (gcW h kc f1 f2 dr cl tr se (nI g) (nI r) inf (nI c)) := hD.sub [0, 1, 2, 3, 4, 5, 6] (by decide) rfl
  have hFc := va_free (wc := (gcW h kc f1 f2 dr cl tr se (nI g) (nI r) inf (nI c))) hD hS hA [0, 1, 2, 3, 4, 5, 6] rfl
  refine va_callv (va_runV (As := [.int x, .ref (h 5)]) (rest := []) ⟨hx, hb, hml, hown, hts⟩ (c_X0_linkAllBut_tr l dC dI h kc f1 f2 dr cl tr se g r inf c x H.size (by first | assumption | omega)) (cwV 2 hts gX0_fitsWithout_X0_linkAllBut rfl rfl rfl (by decide +kernel) ⟨Nat.le_of_ble_eq_true rfl, Nat.le_of_ble_eq_true rfl⟩) ⟨gcPM_blind, va_recv hK hP (ci := 0) (q0 := 0) rfl rfl, fun U hU hW => ⟨rfl, by rw [hU], by rw [hU]; exact hPc, va_K.moved hW.alike hKc, hDc.weaken (fun _ _ _ _ => trivial)⟩⟩ rfl rfl hl.1 rfl (lv_room (Nat.le_of_ble_eq_true rfl)) dX0_fitsWithout_6 ⟨Nat.zero_le _, Nat.zero_le _⟩) hS (fun q _ h => hFc q h) hFc (fun u t H locs ht hvm hw hB hz1 hk1 hS => ?_)
  obtain ⟨hP1, hD1⟩ := hB
  rw [ht] at hP1
  obtain ⟨hP, hD⟩ := va_join (wr := []) (w1 := (gcW h kc f1 f2 dr cl (gLA f1 f2 inf x r tr) se (nI g) (nI r) inf (nI c))) hP hD [0, 1, 2, 3, 4, 5, 6] [] rfl rfl (by decide) (by decide) hk1 hFc hP1 hD1
  have hP : va_P (dC, dI) vwCl (gcW h kc f1 f2 dr cl (gLA f1 f2 inf x r tr) se (nI g) (nI r) inf (nI c)) H := hP.sub [0, 1, 2, 3, 4, 5, 6] rfl
  have hD : va_D A (gcW h kc f1 f2 dr cl (gLA f1 f2 inf x r tr) se (nI g) (nI r) inf (nI c)) := hD.sub [0, 1, 2, 3, 4, 5, 6] (by decide) rfl
  clear hz1 hk1 ht hvm hP1 hD1 hFc hDc
  clear hPc hKc
  refine lv_aload_n hx hb dX0_fitsWithout_9 rfl (lv_at hl 0 rfl) ?_
  refine va_get (D := (dC, dI)) (ci := 0) (v := .ref (h 5)) (C := RX0) (T := TX0) (N := 10) hx hb hts hin0 hown hK hP 0 rfl rfl 4 (by decide) (hts (.fieldLink RX0 22 "GuestChairs" "trial" "[I") (by decide +kernel)) (fun _ h9 => h9) rfl dX0_fitsWithout_10 ?_
  have hPc : va_P (dC, dI) vwCl ([((h 5), .inl ((kc 5), 20, .inl (gLA f1 f2 inf x r tr)))]) _ := hP.sub [5] rfl
  have hKc : va_K (dC, dI) vwCl ([((kc 5), .int)]) s := hK.sub [4] rfl
  have hDc : va_D A ([((h 5), .inl ((kc 5), 20, .inl (gLA f1 f2 inf x r tr)))]) := hD.sub [5] (by decide) rfl
  have hFc := va_free (wc := ([((h 5), .inl ((kc 5), 20, .inl (gLA f1 f2 inf x r tr)))])) hD hS hA [5] rfl
  refine va_callv (va_runS (As := [.ref (h 5)]) (rest := []) ⟨hx, hb, hml, hown, hts⟩ (c_X0_close l dC dI (h 5) (kc 5) (gLA f1 f2 inf x r tr) H.size) (va_cwS 1 hts gX0_fitsWithout_X0_close rfl rfl rfl (by decide +kernel) ⟨Nat.le_of_ble_eq_true rfl, Nat.le_of_ble_eq_true rfl⟩) ⟨gcPM_blind, fun U hU hW => ⟨rfl, by rw [hU], by rw [hU]; exact hPc, va_K.moved hW.alike hKc, hDc.weaken (fun _ _ _ _ => trivial)⟩⟩ rfl rfl hl.1 rfl (lv_room (Nat.le_of_ble_eq_true rfl)) dX0_fitsWithout_13 ⟨Nat.zero_le _, Nat.zero_le _⟩) hS (fun q _ h => hFc q h) hFc (fun u t H locs ht hvm hw hB hz1 hk1 hS => ?_)
  obtain ⟨hP1, hD1⟩ := hB
  rw [ht] at hP1
  obtain ⟨hP, hD⟩ := va_join (wr := [(h 0, .inr (0, [.ref (h 1), .ref (h 2), .ref (h 3), .ref (h 4), .ref (h 5), .ref (h 6), .int (nI g), .int (nI r), .int inf, .int (nI c)])), (h 1, .inl (kc 1, 30, .inl f1)), (h 2, .inl (kc 2, 30, .inl f2)), (h 3, .inl (kc 3, 20, .inl dr)), (h 4, .inl (kc 4, 20, .inl cl)), (h 6, .inl (kc 6, 1024, .inl se))]) (w1 := ([((h 5), .inl ((kc 5), 20, .inl (gCl (gLA f1 f2 inf x r tr) 20)))])) hP hD [5] [0, 1, 2, 3, 4, 6] rfl rfl (by decide) (by decide) hk1 hFc hP1 hD1
  have hP : va_P (dC, dI) vwCl (gcW h kc f1 f2 dr cl (gCl (gLA f1 f2 inf x r tr) 20) se (nI g) (nI r) inf (nI c)) H := hP.sub [0, 1, 2, 3, 4, 6, 5] rfl
  have hD : va_D A (gcW h kc f1 f2 dr cl (gCl (gLA f1 f2 inf x r tr) 20) se (nI g) (nI r) inf (nI c)) := hD.sub [0, 1, 2, 3, 4, 6, 5] (by decide) rfl
  clear hz1 hk1 ht hvm hP1 hD1 hFc hDc
  clear hPc hKc
  refine lv_aload_n hx hb dX0_fitsWithout_16 rfl (lv_at hl 0 rfl) ?_
  refine lv_aload_n hx hb dX0_fitsWithout_17 rfl (lv_at hl 0 rfl) ?_
  refine va_get (D := (dC, dI)) (ci := 0) (v := .ref (h 5)) (C := RX0) (T := TX0) (N := 10) hx hb hts hin0 hown hK hP 0 rfl rfl 4 (by decide) (hts (.fieldLink RX0 22 "GuestChairs" "trial" "[I") (by decide +kernel)) (fun _ h9 => h9) rfl dX0_fitsWithout_18 ?_
  have hPc : va_P (dC, dI) vwCl (gcW h kc f1 f2 dr cl (gCl (gLA f1 f2 inf x r tr) 20) se (nI g) (nI r) inf (nI c)) _ := hP.sub [0, 1, 2, 3, 4, 5, 6] rfl
  have hKc : va_K (dC, dI) vwCl (gcT kc) s := hK.sub [0, 1, 2, 3, 4, 5] rfl
  refine va_calli (va_runV (As := [.ref (h 5)]) (rest := []) ⟨hx, hb, hml, hown, hts⟩ (c_X0_countTorn_tr l dC dI h kc f1 f2 dr cl (gCl (gLA f1 f2 inf x r tr) 20) se g r inf c (by first | assumption | omega)) (cwV 1 hts gX0_fitsWithout_X0_countTorn rfl rfl rfl (by decide +kernel) ⟨Nat.le_of_ble_eq_true rfl, Nat.le_of_ble_eq_true rfl⟩) ⟨gcPR_blind, va_recv hK hP (ci := 0) (q0 := 0) rfl rfl, fun U hU hW => ⟨rfl, by rw [hU]; exact hPc, va_K.moved hW.alike hKc⟩⟩ rfl rfl hl.1 rfl (lv_room (Nat.le_of_ble_eq_true rfl)) dX0_fitsWithout_21 ⟨Nat.zero_le _, Nat.zero_le _⟩) hS (fun q _ h => h.elim) (fun q h => h.elim) (fun r3 u t H locs ht hvm hw hB hz1 hk1 hS => ?_)
  have hP := gc_keep hP hk1
  have hw : r3 = gCT (gCl (gLA f1 f2 inf x r tr) 20) g := hw
  subst hw
  clear hB hz1 hk1 ht hvm
  clear hPc hKc
  refine lv_if_ne (tgt := 31) hx hb dX0_fitsWithout_24 (by decide) (fun c_24 => ?_) (fun c_24 => ?_)
  · skip
    refine lv_iconst (v := 0) hx hb dX0_fitsWithout_31 (by decide) ?_
    have hpost : 0 = gB (gFt (gCl (gLA f1 f2 inf x 0 tr) 20) g) := by simp [gB, gFt, c_24]
    exact W.zret (ty := .boolean) (v := 0) hx hb hr (by first | rfl | decide | exact gB_nar _) (fun t ht hW => ⟨⟨0, (), rfl, hpost, ⟨by rw [ht]; exact hP, hD⟩⟩, hS.F ht⟩) hS.2.2 dX0_fitsWithout_32
  · skip
    refine lv_iconst (v := 1) hx hb dX0_fitsWithout_27 (by decide) ?_
    refine lv_goto (tgt := 32) hx hb dX0_fitsWithout_28 (by decide) ?_
    have hpost : 1 = gB (gFt (gCl (gLA f1 f2 inf x 1 tr) 20) g) := by simp [gB, gFt, c_24]
    exact W.zret (ty := .boolean) (v := 1) hx hb hr (by first | rfl | decide | exact gB_nar _) (fun t ht hW => ⟨⟨1, (), rfl, hpost, ⟨by rw [ht]; exact hP, hD⟩⟩, hS.F ht⟩) hS.2.2 dX0_fitsWithout_32
set_option maxHeartbeats 4000000 in
set_option maxRecDepth 100000 in
theorem c_X0_refresh (l : Launch) (dC : Nat → ClassId) (dI : Nat → Nat → Nat) (h : Nat → Nat) (kc : Nat → ClassId) (f1 : Nat → Int32) (f2 : Nat → Int32) (dr : Nat → Int32) (cl : Nat → Int32) (tr : Nat → Int32) (se : Nat → Int32) (g : Nat) (r : Nat) (inf : Int32) (c : Nat) (sz : Nat) (hg : g ≤ 10) (hr30 : r ≤ 30) : Met l yX0_refresh wsX0_refresh ({ frames := 6, cells := 0, slots := 0, locals := 127 }) (gcPM (dC, dI) [.ref (h 0)] (gcW h kc f1 f2 dr cl tr se (nI g) (nI r) inf (nI c)) (gcT kc) sz) (va_Qv (fun (_u : Unit) => True) (fun _u t => va_P (dC, dI) vwCl (gcW h kc f1 f2 (gLA f1 f2 inf (-1) r dr) (gCl (gLA f1 f2 inf (-1) r cl) 20) tr ((gLs (gCl (gLA f1 f2 inf (-1) r cl) 20) se g g).1) (nI g) (nI r) inf (nI (gLs (gCl (gLA f1 f2 inf (-1) r cl) 20) se g g).2)) t.heap ∧ va_D (va_A (gcW h kc f1 f2 dr cl tr se (nI g) (nI r) inf (nI c)) sz) (gcW h kc f1 f2 (gLA f1 f2 inf (-1) r dr) (gCl (gLA f1 f2 inf (-1) r cl) 20) tr ((gLs (gCl (gLA f1 f2 inf (-1) r cl) 20) se g g).1) (nI g) (nI r) inf (nI (gLs (gCl (gLA f1 f2 inf (-1) r cl) 20) se g g).2))) (va_A (gcW h kc f1 f2 dr cl tr se (nI g) (nI r) inf (nI c)) sz)) 0 0 (va_A (gcW h kc f1 f2 dr cl tr se (nI g) (nI r) inf (nI c)) sz) := by
  refine Met.ofW (cc := cX0_refresh) (maxL := 1) (ret := none) (by decide) rfl ?_
  intro p e s m args below meth c s₁ B hml hv
  obtain ⟨rfl, hsz, hP, hK, hD0⟩ := hv
  have hx := B.exec
  have hb := B.bytes
  have hr := B.returns
  have hts := atoms_spec (ws := wsX0_refresh) B.pre
  have hown : s.vm.findClass RX0 = some m.cls := findClass_of_methodNamed B.named
  have hlocks := B.notSynchronized
  subst hsz
  have hD := hD0.self (sz := s.heap.size)
  generalize hAe : va_A (gcW h kc f1 f2 dr cl tr se (nI g) (nI r) inf (nI c)) s.heap.size = A at hD ⊢
  have hA : ∀ q : Nat, s.heap.size ≤ q → A q := fun q h => by rw [← hAe]; exact Or.inr h
  have hS : va_S A s.heap s.heap [] := va_S.rf
  have hP : va_P (dC, dI) vwCl (gcW h kc f1 f2 dr cl tr se (nI g) (nI r) inf (nI c)) s.heap := hP
  have hin0 : ∀ w ∈ wsX00, w ∈ wsX0_refresh := by decide +kernel
  have hl := lv_entry [.ref (h 0)] (n := 1) (Nat.le_of_ble_eq_true rfl)
  rw [lg_entry_eq]
  generalize (lg_sl [.ref (h 0)] ++ List.replicate (1 - (lg_sl [.ref (h 0)]).length) Slot.unset).toArray = ls at hl ⊢
  have hl : lv_has ls 1 [(0, .ref (h 0))] := hl
  refine lv_aload_n hx hb dX0_refresh_0 rfl (lv_at hl 0 rfl) ?_
  refine lv_iconst (v := -1) hx hb dX0_refresh_1 (by decide) ?_
  refine lv_aload_n hx hb dX0_refresh_2 rfl (lv_at hl 0 rfl) ?_
  refine va_get (D := (dC, dI)) (ci := 0) (v := .ref (h 3)) (C := RX0) (T := TX0) (N := 10) hx hb hts hin0 hown hK hP 0 rfl rfl 2 (by decide) (hts (.fieldLink RX0 16 "GuestChairs" "direct" "[I") (by decide +kernel)) (fun _ h9 => h9) rfl dX0_refresh_3 ?_
  have hPc : va_P (dC, dI) vwCl (gcW h kc f1 f2 dr cl tr se (nI g) (nI r) inf (nI c)) _ := hP.sub [0, 1, 2, 3, 4, 5, 6] rfl
  have hKc : va_K (dC, dI) vwCl (gcT kc) s := hK.sub [0, 1, 2, 3, 4, 5] rfl
  have hDc : va_D A (gcW h kc f1 f2 dr cl tr se (nI g) (nI r) inf (nI c)) := hD.sub [0, 1, 2, 3, 4, 5, 6] (by decide) rfl
  have hFc := va_free (wc := (gcW h kc f1 f2 dr cl tr se (nI g) (nI r) inf (nI c))) hD hS hA [0, 1, 2, 3, 4, 5, 6] rfl
  refine va_callv (va_runV (As := [.int (-1), .ref (h 3)]) (rest := []) ⟨hx, hb, hml, hown, hts⟩ (c_X0_linkAllBut_dr l dC dI h kc f1 f2 dr cl tr se g r inf c (-1) H.size (by first | assumption | omega)) (cwV 2 hts gX0_refresh_X0_linkAllBut rfl rfl rfl (by decide +kernel) ⟨Nat.le_of_ble_eq_true rfl, Nat.le_of_ble_eq_true rfl⟩) ⟨gcPM_blind, va_recv hK hP (ci := 0) (q0 := 0) rfl rfl, fun U hU hW => ⟨rfl, by rw [hU], by rw [hU]; exact hPc, va_K.moved hW.alike hKc, hDc.weaken (fun _ _ _ _ => trivial)⟩⟩ rfl rfl hl.1 rfl (lv_room (Nat.le_of_ble_eq_true rfl)) dX0_refresh_6 ⟨Nat.zero_le _, Nat.zero_le _⟩) hS (fun q _ h => hFc q h) hFc (fun u t H locs ht hvm hw hB hz1 hk1 hS => ?_)
  obtain ⟨hP1, hD1⟩ := hB
  rw [ht] at hP1
  obtain ⟨hP, hD⟩ := va_join (wr := []) (w1 := (gcW h kc f1 f2 (gLA f1 f2 inf (-1) r dr) cl tr se (nI g) (nI r) inf (nI c))) hP hD [0, 1, 2, 3, 4, 5, 6] [] rfl rfl (by decide) (by decide) hk1 hFc hP1 hD1
  have hP : va_P (dC, dI) vwCl (gcW h kc f1 f2 (gLA f1 f2 inf (-1) r dr) cl tr se (nI g) (nI r) inf (nI c)) H := hP.sub [0, 1, 2, 3, 4, 5, 6] rfl
  have hD : va_D A (gcW h kc f1 f2 (gLA f1 f2 inf (-1) r dr) cl tr se (nI g) (nI r) inf (nI c)) := hD.sub [0, 1, 2, 3, 4, 5, 6] (by decide) rfl
  clear hz1 hk1 ht hvm hP1 hD1 hFc hDc
  clear hPc hKc
  refine lv_aload_n hx hb dX0_refresh_9 rfl (lv_at hl 0 rfl) ?_
  refine lv_iconst (v := -1) hx hb dX0_refresh_10 (by decide) ?_
  refine lv_aload_n hx hb dX0_refresh_11 rfl (lv_at hl 0 rfl) ?_
  refine va_get (D := (dC, dI)) (ci := 0) (v := .ref (h 4)) (C := RX0) (T := TX0) (N := 10) hx hb hts hin0 hown hK hP 0 rfl rfl 3 (by decide) (hts (.fieldLink RX0 19 "GuestChairs" "closed" "[I") (by decide +kernel)) (fun _ h9 => h9) rfl dX0_refresh_12 ?_
  have hPc : va_P (dC, dI) vwCl (gcW h kc f1 f2 (gLA f1 f2 inf (-1) r dr) cl tr se (nI g) (nI r) inf (nI c)) _ := hP.sub [0, 1, 2, 3, 4, 5, 6] rfl
  have hKc : va_K (dC, dI) vwCl (gcT kc) s := hK.sub [0, 1, 2, 3, 4, 5] rfl
  have hDc : va_D A (gcW h kc f1 f2 (gLA f1 f2 inf (-1) r dr) cl tr se (nI g) (nI r) inf (nI c)) := hD.sub [0, 1, 2, 3, 4, 5, 6] (by decide) rfl
  have hFc := va_free (wc := (gcW h kc f1 f2 (gLA f1 f2 inf (-1) r dr) cl tr se (nI g) (nI r) inf (nI c))) hD hS hA [0, 1, 2, 3, 4, 5, 6] rfl
  refine va_callv (va_runV (As := [.int (-1), .ref (h 4)]) (rest := []) ⟨hx, hb, hml, hown, hts⟩ (c_X0_linkAllBut_cl l dC dI h kc f1 f2 (gLA f1 f2 inf (-1) r dr) cl tr se g r inf c (-1) H.size (by first | assumption | omega)) (cwV 2 hts gX0_refresh_X0_linkAllBut rfl rfl rfl (by decide +kernel) ⟨Nat.le_of_ble_eq_true rfl, Nat.le_of_ble_eq_true rfl⟩) ⟨gcPM_blind, va_recv hK hP (ci := 0) (q0 := 0) rfl rfl, fun U hU hW => ⟨rfl, by rw [hU], by rw [hU]; exact hPc, va_K.moved hW.alike hKc, hDc.weaken (fun _ _ _ _ => trivial)⟩⟩ rfl rfl hl.1 rfl (lv_room (Nat.le_of_ble_eq_true rfl)) dX0_refresh_15 ⟨Nat.zero_le _, Nat.zero_le _⟩) hS (fun q _ h => hFc q h) hFc (fun u t H locs ht hvm hw hB hz1 hk1 hS => ?_)
  obtain ⟨hP1, hD1⟩ := hB
  rw [ht] at hP1
  obtain ⟨hP, hD⟩ := va_join (wr := []) (w1 := (gcW h kc f1 f2 (gLA f1 f2 inf (-1) r dr) (gLA f1 f2 inf (-1) r cl) tr se (nI g) (nI r) inf (nI c))) hP hD [0, 1, 2, 3, 4, 5, 6] [] rfl rfl (by decide) (by decide) hk1 hFc hP1 hD1
  have hP : va_P (dC, dI) vwCl (gcW h kc f1 f2 (gLA f1 f2 inf (-1) r dr) (gLA f1 f2 inf (-1) r cl) tr se (nI g) (nI r) inf (nI c)) H := hP.sub [0, 1, 2, 3, 4, 5, 6] rfl
  have hD : va_D A (gcW h kc f1 f2 (gLA f1 f2 inf (-1) r dr) (gLA f1 f2 inf (-1) r cl) tr se (nI g) (nI r) inf (nI c)) := hD.sub [0, 1, 2, 3, 4, 5, 6] (by decide) rfl
  clear hz1 hk1 ht hvm hP1 hD1 hFc hDc
  clear hPc hKc
  refine lv_aload_n hx hb dX0_refresh_18 rfl (lv_at hl 0 rfl) ?_
  refine va_get (D := (dC, dI)) (ci := 0) (v := .ref (h 4)) (C := RX0) (T := TX0) (N := 10) hx hb hts hin0 hown hK hP 0 rfl rfl 3 (by decide) (hts (.fieldLink RX0 19 "GuestChairs" "closed" "[I") (by decide +kernel)) (fun _ h9 => h9) rfl dX0_refresh_19 ?_
  have hPc : va_P (dC, dI) vwCl ([((h 4), .inl ((kc 4), 20, .inl (gLA f1 f2 inf (-1) r cl)))]) _ := hP.sub [4] rfl
  have hKc : va_K (dC, dI) vwCl ([((kc 4), .int)]) s := hK.sub [3] rfl
  have hDc : va_D A ([((h 4), .inl ((kc 4), 20, .inl (gLA f1 f2 inf (-1) r cl)))]) := hD.sub [4] (by decide) rfl
  have hFc := va_free (wc := ([((h 4), .inl ((kc 4), 20, .inl (gLA f1 f2 inf (-1) r cl)))])) hD hS hA [4] rfl
  refine va_callv (va_runS (As := [.ref (h 4)]) (rest := []) ⟨hx, hb, hml, hown, hts⟩ (c_X0_close l dC dI (h 4) (kc 4) (gLA f1 f2 inf (-1) r cl) H.size) (va_cwS 1 hts gX0_refresh_X0_close rfl rfl rfl (by decide +kernel) ⟨Nat.le_of_ble_eq_true rfl, Nat.le_of_ble_eq_true rfl⟩) ⟨gcPM_blind, fun U hU hW => ⟨rfl, by rw [hU], by rw [hU]; exact hPc, va_K.moved hW.alike hKc, hDc.weaken (fun _ _ _ _ => trivial)⟩⟩ rfl rfl hl.1 rfl (lv_room (Nat.le_of_ble_eq_true rfl)) dX0_refresh_22 ⟨Nat.zero_le _, Nat.zero_le _⟩) hS (fun q _ h => hFc q h) hFc (fun u t H locs ht hvm hw hB hz1 hk1 hS => ?_)
  obtain ⟨hP1, hD1⟩ := hB
  rw [ht] at hP1
  obtain ⟨hP, hD⟩ := va_join (wr := [(h 0, .inr (0, [.ref (h 1), .ref (h 2), .ref (h 3), .ref (h 4), .ref (h 5), .ref (h 6), .int (nI g), .int (nI r), .int inf, .int (nI c)])), (h 1, .inl (kc 1, 30, .inl f1)), (h 2, .inl (kc 2, 30, .inl f2)), (h 3, .inl (kc 3, 20, .inl (gLA f1 f2 inf (-1) r dr))), (h 5, .inl (kc 5, 20, .inl tr)), (h 6, .inl (kc 6, 1024, .inl se))]) (w1 := ([((h 4), .inl ((kc 4), 20, .inl (gCl (gLA f1 f2 inf (-1) r cl) 20)))])) hP hD [4] [0, 1, 2, 3, 5, 6] rfl rfl (by decide) (by decide) hk1 hFc hP1 hD1
  have hP : va_P (dC, dI) vwCl (gcW h kc f1 f2 (gLA f1 f2 inf (-1) r dr) (gCl (gLA f1 f2 inf (-1) r cl) 20) tr se (nI g) (nI r) inf (nI c)) H := hP.sub [0, 1, 2, 3, 6, 4, 5] rfl
  have hD : va_D A (gcW h kc f1 f2 (gLA f1 f2 inf (-1) r dr) (gCl (gLA f1 f2 inf (-1) r cl) 20) tr se (nI g) (nI r) inf (nI c)) := hD.sub [0, 1, 2, 3, 6, 4, 5] (by decide) rfl
  clear hz1 hk1 ht hvm hP1 hD1 hFc hDc
  clear hPc hKc
  refine lv_aload_n hx hb dX0_refresh_25 rfl (lv_at hl 0 rfl) ?_
  have hPc : va_P (dC, dI) vwCl (gcW h kc f1 f2 (gLA f1 f2 inf (-1) r dr) (gCl (gLA f1 f2 inf (-1) r cl) 20) tr se (nI g) (nI r) inf (nI c)) _ := hP.sub [0, 1, 2, 3, 4, 5, 6] rfl
  have hKc : va_K (dC, dI) vwCl (gcT kc) s := hK.sub [0, 1, 2, 3, 4, 5] rfl
  have hDc : va_D A (gcW h kc f1 f2 (gLA f1 f2 inf (-1) r dr) (gCl (gLA f1 f2 inf (-1) r cl) 20) tr se (nI g) (nI r) inf (nI c)) := hD.sub [0, 1, 2, 3, 4, 5, 6] (by decide) rfl
  have hFc := va_free (wc := (gcW h kc f1 f2 (gLA f1 f2 inf (-1) r dr) (gCl (gLA f1 f2 inf (-1) r cl) 20) tr se (nI g) (nI r) inf (nI c))) hD hS hA [0, 1, 2, 3, 4, 5, 6] rfl
  refine va_callv (va_runV (As := []) (rest := []) ⟨hx, hb, hml, hown, hts⟩ (c_X0_listSeatings l dC dI h kc f1 f2 (gLA f1 f2 inf (-1) r dr) (gCl (gLA f1 f2 inf (-1) r cl) 20) tr se g r inf c H.size (by first | assumption | omega)) (cwV 0 hts gX0_refresh_X0_listSeatings rfl rfl rfl (by decide +kernel) ⟨Nat.le_of_ble_eq_true rfl, Nat.le_of_ble_eq_true rfl⟩) ⟨gcPM_blind, va_recv hK hP (ci := 0) (q0 := 0) rfl rfl, fun U hU hW => ⟨rfl, by rw [hU], by rw [hU]; exact hPc, va_K.moved hW.alike hKc, hDc.weaken (fun _ _ _ _ => trivial)⟩⟩ rfl rfl hl.1 rfl (lv_room (Nat.le_of_ble_eq_true rfl)) dX0_refresh_26 ⟨Nat.zero_le _, Nat.zero_le _⟩) hS (fun q _ h => hFc q h) hFc (fun u t H locs ht hvm hw hB hz1 hk1 hS => ?_)
  obtain ⟨hP1, hD1⟩ := hB
  rw [ht] at hP1
  obtain ⟨hP, hD⟩ := va_join (wr := []) (w1 := (gcW h kc f1 f2 (gLA f1 f2 inf (-1) r dr) (gCl (gLA f1 f2 inf (-1) r cl) 20) tr ((gLs (gCl (gLA f1 f2 inf (-1) r cl) 20) se g g).1) (nI g) (nI r) inf (nI (gLs (gCl (gLA f1 f2 inf (-1) r cl) 20) se g g).2))) hP hD [0, 1, 2, 3, 4, 5, 6] [] rfl rfl (by decide) (by decide) hk1 hFc hP1 hD1
  have hP : va_P (dC, dI) vwCl (gcW h kc f1 f2 (gLA f1 f2 inf (-1) r dr) (gCl (gLA f1 f2 inf (-1) r cl) 20) tr ((gLs (gCl (gLA f1 f2 inf (-1) r cl) 20) se g g).1) (nI g) (nI r) inf (nI (gLs (gCl (gLA f1 f2 inf (-1) r cl) 20) se g g).2)) H := hP.sub [0, 1, 2, 3, 4, 5, 6] rfl
  have hD : va_D A (gcW h kc f1 f2 (gLA f1 f2 inf (-1) r dr) (gCl (gLA f1 f2 inf (-1) r cl) 20) tr ((gLs (gCl (gLA f1 f2 inf (-1) r cl) 20) se g g).1) (nI g) (nI r) inf (nI (gLs (gCl (gLA f1 f2 inf (-1) r cl) 20) se g g).2)) := hD.sub [0, 1, 2, 3, 4, 5, 6] (by decide) rfl
  clear hz1 hk1 ht hvm hP1 hD1 hFc hDc
  clear hPc hKc
  exact W.vret hx hb hr (fun t ht hW => ⟨⟨(), rfl, trivial, ⟨by rw [ht]; exact hP, hD⟩⟩, hS.F ht⟩) hS.2.2 dX0_refresh_29
set_option maxHeartbeats 4000000 in
set_option maxRecDepth 100000 in
theorem c_X0_seat (l : Launch) (dC : Nat → ClassId) (dI : Nat → Nat → Nat) (h : Nat → Nat) (kc : Nat → ClassId) (f1 : Nat → Int32) (f2 : Nat → Int32) (dr : Nat → Int32) (cl : Nat → Int32) (tr : Nat → Int32) (se : Nat → Int32) (g : Nat) (r : Nat) (inf : Int32) (c : Nat) (hg : g ≤ 10) (hc : c ≤ 1024) : Met l yX0_seat wsX0_seat ({ frames := 2, cells := 0, slots := 0, locals := 44 }) (gcPR (dC, dI) [.ref (h 0)] (gcW h kc f1 f2 dr cl tr se (nI g) (nI r) inf (nI c)) (gcT kc)) (va_Qi (fun (r : Int32) (_u : Unit) => r = (if c = 0 then -1 else gGC (gAt 1024 se 0) g)) (fun _ _ => True) (fun _ => False)) 0 0 (fun _ => False) := by
  refine Met.ofW (cc := cX0_seat) (maxL := 1) (ret := (some .int)) (by decide) rfl ?_
  intro p e s m args below meth c s₁ B hml hv
  obtain ⟨rfl, hP, hK⟩ := hv
  have hx := B.exec
  have hb := B.bytes
  have hr := B.returns
  have hts := atoms_spec (ws := wsX0_seat) B.pre
  have hown : s.vm.findClass RX0 = some m.cls := findClass_of_methodNamed B.named
  have hlocks := B.notSynchronized
  have hS : va_S (fun _ => False) s.heap s.heap [] := va_S.rf
  have hP : va_P (dC, dI) vwCl (gcW h kc f1 f2 dr cl tr se (nI g) (nI r) inf (nI c)) s.heap := hP
  have hin0 : ∀ w ∈ wsX00, w ∈ wsX0_seat := by decide +kernel
  have hl := lv_entry [.ref (h 0)] (n := 1) (Nat.le_of_ble_eq_true rfl)
  rw [lg_entry_eq]
  generalize (lg_sl [.ref (h 0)] ++ List.replicate (1 - (lg_sl [.ref (h 0)]).length) Slot.unset).toArray = ls at hl ⊢
  have hl : lv_has ls 1 [(0, .ref (h 0))] := hl
  refine lv_aload_n hx hb dX0_seat_0 rfl (lv_at hl 0 rfl) ?_
  refine va_get (D := (dC, dI)) (ci := 0) (v := .int (nI c)) (C := RX0) (T := TX0) (N := 10) hx hb hts hin0 hown hK hP 0 rfl rfl 9 (by decide) (hts (.fieldLink RX0 115 "GuestChairs" "seatingCount" "I") (by decide +kernel)) (fun _ h9 => h9) rfl dX0_seat_1 ?_
  refine lv_if_ne (tgt := 11) hx hb dX0_seat_4 (by decide) (fun c_4 => ?_) (fun c_4 => ?_)
  · skip
    have hc0 : ¬ c = 0 := fun e => c_4 (by rw [e]; rfl)
    refine lv_aload_n hx hb dX0_seat_11 rfl (lv_at hl 0 rfl) ?_
    refine lv_aload_n hx hb dX0_seat_12 rfl (lv_at hl 0 rfl) ?_
    refine va_get (D := (dC, dI)) (ci := 0) (v := .ref (h 6)) (C := RX0) (T := TX0) (N := 10) hx hb hts hin0 hown hK hP 0 rfl rfl 5 (by decide) (hts (.fieldLink RX0 25 "GuestChairs" "seated" "[I") (by decide +kernel)) (fun _ h9 => h9) rfl dX0_seat_13 ?_
    refine lv_iconst (v := 0) hx hb dX0_seat_16 (by decide) ?_
    have hPc : va_P (dC, dI) vwCl ([((h 6), .inl ((kc 6), 1024, .inl se))]) _ := hP.sub [6] rfl
    have hKc : va_K (dC, dI) vwCl ([((kc 6), .int)]) s := hK.sub [5] rfl
    refine va_calli (va_runS (As := [.ref (h 6), .int 0]) (rest := [.ref (h 0)]) ⟨hx, hb, hml, hown, hts⟩ (c_X0_at l dC dI (h 6) (kc 6) 1024 se 0 (by decide)) (va_cwS 2 hts gX0_seat_X0_at rfl rfl rfl (by decide +kernel) ⟨Nat.le_of_ble_eq_true rfl, Nat.le_of_ble_eq_true rfl⟩) ⟨gcPR_blind, fun U hU hW => ⟨rfl, by rw [hU]; exact hPc, va_K.moved hW.alike hKc⟩⟩ rfl rfl hl.1 rfl (lv_room (Nat.le_of_ble_eq_true rfl)) dX0_seat_17 ⟨Nat.zero_le _, Nat.zero_le _⟩) hS (fun q _ h => h.elim) (fun q h => h.elim) (fun r1 u t H locs ht hvm hw hB hz1 hk1 hS => ?_)
    have hP := gc_keep hP hk1
    have hw : r1 = gAt 1024 se 0 := hw
    subst hw
    clear hB hz1 hk1 ht hvm
    clear hPc hKc
    have hPc : va_P (dC, dI) vwCl (gcW h kc f1 f2 dr cl tr se (nI g) (nI r) inf (nI c)) _ := hP.sub [0, 1, 2, 3, 4, 5, 6] rfl
    have hKc : va_K (dC, dI) vwCl (gcT kc) s := hK.sub [0, 1, 2, 3, 4, 5] rfl
    refine va_calli (va_runV (As := [.int (gAt 1024 se 0)]) (rest := []) ⟨hx, hb, hml, hown, hts⟩ (c_X0_guestsComing l dC dI h kc f1 f2 dr cl tr se g r inf c (gAt 1024 se 0) (by first | assumption | omega)) (cwV 1 hts gX0_seat_X0_guestsComing rfl rfl rfl (by decide +kernel) ⟨Nat.le_of_ble_eq_true rfl, Nat.le_of_ble_eq_true rfl⟩) ⟨gcPR_blind, va_recv hK hP (ci := 0) (q0 := 0) rfl rfl, fun U hU hW => ⟨rfl, by rw [hU]; exact hPc, va_K.moved hW.alike hKc⟩⟩ rfl rfl hl.1 rfl (lv_room (Nat.le_of_ble_eq_true rfl)) dX0_seat_20 ⟨Nat.zero_le _, Nat.zero_le _⟩) hS (fun q _ h => h.elim) (fun q h => h.elim) (fun r2 u t H locs ht hvm hw hB hz1 hk1 hS => ?_)
    have hP := gc_keep hP hk1
    have hw : r2 = gGC (gAt 1024 se 0) g := hw
    subst hw
    clear hB hz1 hk1 ht hvm
    clear hPc hKc
    have hpost : (gGC (gAt 1024 se 0) g) = (if c = 0 then -1 else gGC (gAt 1024 se 0) g) := by simp [hc0]
    exact W.iret (v := gGC (gAt 1024 se 0) g) hx hb hr (fun t ht hW => ⟨⟨gGC (gAt 1024 se 0) g, (), rfl, hpost, trivial⟩, hS.F ht⟩) hS.2.2 dX0_seat_23
  · skip
    have hc0 : c = 0 := (nI_eq (b := 0) (by omega) (by decide)).mp c_4
    refine lv_iconst (v := -1) hx hb dX0_seat_7 (by decide) ?_
    refine lv_goto (tgt := 23) hx hb dX0_seat_8 (by decide) ?_
    have hpost : (-1) = (if c = 0 then -1 else gGC (gAt 1024 se 0) g) := by simp [hc0]
    exact W.iret (v := (-1)) hx hb hr (fun t ht hW => ⟨⟨(-1), (), rfl, hpost, trivial⟩, hS.F ht⟩) hS.2.2 dX0_seat_23
set_option maxHeartbeats 4000000 in
set_option maxRecDepth 100000 in
theorem c_X0_seatings (l : Launch) (dC : Nat → ClassId) (dI : Nat → Nat → Nat) (h : Nat → Nat) (kc : Nat → ClassId) (f1 : Nat → Int32) (f2 : Nat → Int32) (dr : Nat → Int32) (cl : Nat → Int32) (tr : Nat → Int32) (se : Nat → Int32) (g : Nat) (r : Nat) (inf : Int32) (c : Nat) : Met l yX0_seatings wsX0_seatings ({ frames := 0, cells := 0, slots := 0, locals := 0 }) (gcPR (dC, dI) [.ref (h 0)] (gcW h kc f1 f2 dr cl tr se (nI g) (nI r) inf (nI c)) (gcT kc)) (va_Qi (fun (r : Int32) (_u : Unit) => r = nI c) (fun _ _ => True) (fun _ => False)) 0 0 (fun _ => False) := by
  refine Met.ofW (cc := cX0_seatings) (maxL := 1) (ret := (some .int)) (by decide) rfl ?_
  intro p e s m args below meth c s₁ B hml hv
  obtain ⟨rfl, hP, hK⟩ := hv
  have hx := B.exec
  have hb := B.bytes
  have hr := B.returns
  have hts := atoms_spec (ws := wsX0_seatings) B.pre
  have hown : s.vm.findClass RX0 = some m.cls := findClass_of_methodNamed B.named
  have hlocks := B.notSynchronized
  have hS : va_S (fun _ => False) s.heap s.heap [] := va_S.rf
  have hP : va_P (dC, dI) vwCl (gcW h kc f1 f2 dr cl tr se (nI g) (nI r) inf (nI c)) s.heap := hP
  have hin0 : ∀ w ∈ wsX00, w ∈ wsX0_seatings := by decide +kernel
  have hl := lv_entry [.ref (h 0)] (n := 1) (Nat.le_of_ble_eq_true rfl)
  rw [lg_entry_eq]
  generalize (lg_sl [.ref (h 0)] ++ List.replicate (1 - (lg_sl [.ref (h 0)]).length) Slot.unset).toArray = ls at hl ⊢
  have hl : lv_has ls 1 [(0, .ref (h 0))] := hl
  refine lv_aload_n hx hb dX0_seatings_0 rfl (lv_at hl 0 rfl) ?_
  refine va_get (D := (dC, dI)) (ci := 0) (v := .int (nI c)) (C := RX0) (T := TX0) (N := 10) hx hb hts hin0 hown hK hP 0 rfl rfl 9 (by decide) (hts (.fieldLink RX0 115 "GuestChairs" "seatingCount" "I") (by decide +kernel)) (fun _ h9 => h9) rfl dX0_seatings_1 ?_
  have hpost : (nI c) = nI c := by first | rfl | assumption
  exact W.iret (v := nI c) hx hb hr (fun t ht hW => ⟨⟨nI c, (), rfl, hpost, trivial⟩, hS.F ht⟩) hS.2.2 dX0_seatings_4
set_option maxHeartbeats 4000000 in
set_option maxRecDepth 100000 in
theorem c_X0_fewest (l : Launch) (dC : Nat → ClassId) (dI : Nat → Nat → Nat) (h : Nat → Nat) (kc : Nat → ClassId) (f1 : Nat → Int32) (f2 : Nat → Int32) (dr : Nat → Int32) (cl : Nat → Int32) (tr : Nat → Int32) (se : Nat → Int32) (g : Nat) (r : Nat) (inf : Int32) (c : Nat) (hc : c ≤ 1024) : Met l yX0_fewest wsX0_fewest ({ frames := 2, cells := 0, slots := 0, locals := 40 }) (gcPR (dC, dI) [.ref (h 0)] (gcW h kc f1 f2 dr cl tr se (nI g) (nI r) inf (nI c)) (gcT kc)) (va_Qi (fun (r : Int32) (_u : Unit) => r = gFe se c) (fun _ _ => True) (fun _ => False)) 0 0 (fun _ => False) := by
  refine Met.ofW (cc := cX0_fewest) (maxL := 4) (ret := (some .int)) (by decide) rfl ?_
  intro p e s m args below meth c s₁ B hml hv
  obtain ⟨rfl, hP, hK⟩ := hv
  have hx := B.exec
  have hb := B.bytes
  have hr := B.returns
  have hts := atoms_spec (ws := wsX0_fewest) B.pre
  have hown : s.vm.findClass RX0 = some m.cls := findClass_of_methodNamed B.named
  have hlocks := B.notSynchronized
  have hS : va_S (fun _ => False) s.heap s.heap [] := va_S.rf
  have hP : va_P (dC, dI) vwCl (gcW h kc f1 f2 dr cl tr se (nI g) (nI r) inf (nI c)) s.heap := hP
  have hin0 : ∀ w ∈ wsX00, w ∈ wsX0_fewest := by decide +kernel
  have hl := lv_entry [.ref (h 0)] (n := 4) (Nat.le_of_ble_eq_true rfl)
  rw [lg_entry_eq]
  generalize (lg_sl [.ref (h 0)] ++ List.replicate (4 - (lg_sl [.ref (h 0)]).length) Slot.unset).toArray = ls at hl ⊢
  have hl : lv_has ls 4 [(0, .ref (h 0))] := hl
  refine lv_iconst (v := -1) hx hb dX0_fewest_0 (by decide) ?_
  refine lv_istore_n (lv' := [(1, .int (-1)), (0, .ref (h 0))]) hx hb dX0_fewest_1 rfl hl (by decide) rfl (fun ls hl => ?_)
  refine lv_iconst (v := 0) hx hb dX0_fewest_2 (by decide) ?_
  refine lv_istore_n (lv' := [(2, .int 0), (1, .int (-1)), (0, .ref (h 0))]) hx hb dX0_fewest_3 rfl hl (by decide) rfl (fun ls hl => ?_)
  refine gc_loop (c) (fun (i : Nat) (H : Heap) (locs : List Loc) (ls : Array Slot) => ∃ (x : Int32), x = gFe se i ∧ va_P (dC, dI) vwCl (gcW h kc f1 f2 dr cl tr se (nI g) (nI r) inf (nI c)) H ∧ va_S (fun _ => False) s.heap H locs ∧ lv_has ls 4 [(2, .int (nI i)), (1, .int x), (0, .ref (h 0))]) 0 (Nat.zero_le _) ⟨(-1), (by first | rfl | assumption | omega), hP, hS, lv_sub hl [0, 1, 2] rfl⟩ ?_
  intro i H locs ls hi hI ihi
  obtain ⟨x, e_x, hP, hS, hl⟩ := hI
  refine lv_iload_n hx hb dX0_fewest_4 rfl (lv_at hl 0 rfl) ?_
  refine lv_aload_n hx hb dX0_fewest_5 rfl (lv_at hl 2 rfl) ?_
  refine va_get (D := (dC, dI)) (ci := 0) (v := .int (nI c)) (C := RX0) (T := TX0) (N := 10) hx hb hts hin0 hown hK hP 0 rfl rfl 9 (by decide) (hts (.fieldLink RX0 115 "GuestChairs" "seatingCount" "I") (by decide +kernel)) (fun _ h9 => h9) rfl dX0_fewest_6 ?_
  refine lv_icmp_ge (tgt := 41) hx hb dX0_fewest_9 (by decide) (fun c_9 => ?_) (fun c_9 => ?_)
  · skip
    have hEi : i = c := gc_ge c_9 (by omega) (by omega)
    refine lv_iload_n hx hb dX0_fewest_41 rfl (lv_at hl 1 rfl) ?_
    have hpost : x = gFe se c := by rw [e_x, hEi]
    exact W.iret (v := x) hx hb hr (fun t ht hW => ⟨⟨x, (), rfl, hpost, trivial⟩, hS.F ht⟩) hS.2.2 dX0_fewest_42
  · skip
    have hLi : i < c := gc_lt c_9 (by omega)
    refine lv_aload_n hx hb dX0_fewest_12 rfl (lv_at hl 2 rfl) ?_
    refine va_get (D := (dC, dI)) (ci := 0) (v := .ref (h 6)) (C := RX0) (T := TX0) (N := 10) hx hb hts hin0 hown hK hP 0 rfl rfl 5 (by decide) (hts (.fieldLink RX0 25 "GuestChairs" "seated" "[I") (by decide +kernel)) (fun _ h9 => h9) rfl dX0_fewest_13 ?_
    refine lv_iload_n hx hb dX0_fewest_16 rfl (lv_at hl 0 rfl) ?_
    have hPc : va_P (dC, dI) vwCl ([((h 6), .inl ((kc 6), 1024, .inl se))]) _ := hP.sub [6] rfl
    have hKc : va_K (dC, dI) vwCl ([((kc 6), .int)]) s := hK.sub [5] rfl
    refine va_calli (va_runS (As := [.ref (h 6), .int (nI i)]) (rest := []) ⟨hx, hb, hml, hown, hts⟩ (c_X0_at l dC dI (h 6) (kc 6) 1024 se (nI i) (by decide)) (va_cwS 2 hts gX0_fewest_X0_at rfl rfl rfl (by decide +kernel) ⟨Nat.le_of_ble_eq_true rfl, Nat.le_of_ble_eq_true rfl⟩) ⟨gcPR_blind, fun U hU hW => ⟨rfl, by rw [hU]; exact hPc, va_K.moved hW.alike hKc⟩⟩ rfl rfl hl.1 rfl (lv_room (Nat.le_of_ble_eq_true rfl)) dX0_fewest_17 ⟨Nat.zero_le _, Nat.zero_le _⟩) hS (fun q _ h => h.elim) (fun q h => h.elim) (fun r1 u t H locs ht hvm hw hB hz1 hk1 hS => ?_)
    have hP := gc_keep hP hk1
    have hw : r1 = gAt 1024 se (nI i) := hw
    subst hw
    clear hB hz1 hk1 ht hvm
    clear hPc hKc
    refine va_calli (va_runS (As := [.int (gAt 1024 se (nI i))]) (rest := []) ⟨hx, hb, hml, hown, hts⟩ (c_X0_countComing l (gAt 1024 se (nI i))) (va_cwS 1 hts gX0_fewest_X0_countComing rfl rfl rfl (by decide +kernel) ⟨Nat.le_of_ble_eq_true rfl, Nat.le_of_ble_eq_true rfl⟩) ⟨fun a U g mk q => q, fun U hU hW => ⟨rfl, trivial⟩⟩ rfl rfl hl.1 rfl (lv_room (Nat.le_of_ble_eq_true rfl)) dX0_fewest_20 ⟨Nat.zero_le _, Nat.zero_le _⟩) hS (fun q _ h => h.elim) (fun q h => h.elim) (fun r2 u t H locs ht hvm hw hB hz1 hk1 hS => ?_)
    have hP := gc_keep hP hk1
    have hw : r2 = gBC ((gAt 1024 se (nI i)) &&& 349525) := hw
    subst hw
    clear hB hz1 hk1 ht hvm
    refine lv_istore_n (lv' := [(3, .int (gBC ((gAt 1024 se (nI i)) &&& 349525))), (2, .int (nI i)), (1, .int x), (0, .ref (h 0))]) hx hb dX0_fewest_23 rfl hl (by decide) rfl (fun ls hl => ?_)
    refine lv_iload_n hx hb dX0_fewest_24 rfl (lv_at hl 1 rfl) ?_
    refine lv_if_eq (tgt := 33) hx hb dX0_fewest_25 (by decide) (fun c_25 => ?_) (fun c_25 => ?_)
    · skip
      refine lv_iload_n hx hb dX0_fewest_33 rfl (lv_at hl 0 rfl) ?_
      refine lv_istore_n (lv' := [(1, .int (gBC ((gAt 1024 se (nI i)) &&& 349525))), (3, .int (gBC ((gAt 1024 se (nI i)) &&& 349525))), (2, .int (nI i)), (0, .ref (h 0))]) hx hb dX0_fewest_34 rfl hl (by decide) rfl (fun ls hl => ?_)
      refine lv_iinc (v := nI (i + 1)) (lv' := [(2, .int (nI (i + 1))), (1, .int (gBC ((gAt 1024 se (nI i)) &&& 349525))), (3, .int (gBC ((gAt 1024 se (nI i)) &&& 349525))), (0, .ref (h 0))]) hx hb dX0_fewest_35 hl (k := 2) rfl (nI_1 i) (by decide) rfl (fun ls hl => ?_)
      refine lv_goto (tgt := 4) hx hb dX0_fewest_38 (by decide) ?_
      exact ihi H _ ls (by omega) ⟨(gBC ((gAt 1024 se (nI i)) &&& 349525)), (by simp only [gFe, ← e_x]; simp [gFe, c_25]), hP, hS, lv_sub hl [0, 1, 3] rfl⟩
    · skip
      refine lv_iload_n hx hb dX0_fewest_28 rfl (lv_at hl 0 rfl) ?_
      refine lv_iload_n hx hb dX0_fewest_29 rfl (lv_at hl 2 rfl) ?_
      refine lv_icmp_ge (tgt := 35) hx hb dX0_fewest_30 (by decide) (fun c_30 => ?_) (fun c_30 => ?_)
      · skip
        have c_30 : ¬ gBC (gAt 1024 se (nI i) &&& 349525) < x := fun q => absurd (Int32.lt_of_lt_of_le q c_30) (Int32.lt_irrefl)
        refine lv_iinc (v := nI (i + 1)) (lv' := [(2, .int (nI (i + 1))), (3, .int (gBC ((gAt 1024 se (nI i)) &&& 349525))), (1, .int x), (0, .ref (h 0))]) hx hb dX0_fewest_35 hl (k := 1) rfl (nI_1 i) (by decide) rfl (fun ls hl => ?_)
        refine lv_goto (tgt := 4) hx hb dX0_fewest_38 (by decide) ?_
        exact ihi H _ ls (by omega) ⟨x, (by simp only [gFe, ← e_x]; simp [gFe, c_25, c_30]), hP, hS, lv_sub hl [0, 2, 3] rfl⟩
      · skip
        have c_30 : gBC (gAt 1024 se (nI i) &&& 349525) < x := Int32.not_le.mp c_30
        refine lv_iload_n hx hb dX0_fewest_33 rfl (lv_at hl 0 rfl) ?_
        refine lv_istore_n (lv' := [(1, .int (gBC ((gAt 1024 se (nI i)) &&& 349525))), (3, .int (gBC ((gAt 1024 se (nI i)) &&& 349525))), (2, .int (nI i)), (0, .ref (h 0))]) hx hb dX0_fewest_34 rfl hl (by decide) rfl (fun ls hl => ?_)
        refine lv_iinc (v := nI (i + 1)) (lv' := [(2, .int (nI (i + 1))), (1, .int (gBC ((gAt 1024 se (nI i)) &&& 349525))), (3, .int (gBC ((gAt 1024 se (nI i)) &&& 349525))), (0, .ref (h 0))]) hx hb dX0_fewest_35 hl (k := 2) rfl (nI_1 i) (by decide) rfl (fun ls hl => ?_)
        refine lv_goto (tgt := 4) hx hb dX0_fewest_38 (by decide) ?_
        exact ihi H _ ls (by omega) ⟨(gBC ((gAt 1024 se (nI i)) &&& 349525)), (by simp only [gFe, ← e_x]; simp [gFe, c_25, c_30]), hP, hS, lv_sub hl [0, 1, 3] rfl⟩
set_option maxHeartbeats 4000000 in
set_option maxRecDepth 100000 in
theorem c_X0_most (l : Launch) (dC : Nat → ClassId) (dI : Nat → Nat → Nat) (h : Nat → Nat) (kc : Nat → ClassId) (f1 : Nat → Int32) (f2 : Nat → Int32) (dr : Nat → Int32) (cl : Nat → Int32) (tr : Nat → Int32) (se : Nat → Int32) (g : Nat) (r : Nat) (inf : Int32) (c : Nat) (hc : c ≤ 1024) : Met l yX0_most wsX0_most ({ frames := 2, cells := 0, slots := 0, locals := 40 }) (gcPR (dC, dI) [.ref (h 0)] (gcW h kc f1 f2 dr cl tr se (nI g) (nI r) inf (nI c)) (gcT kc)) (va_Qi (fun (r : Int32) (_u : Unit) => r = gMo se c) (fun _ _ => True) (fun _ => False)) 0 0 (fun _ => False) := by
  refine Met.ofW (cc := cX0_most) (maxL := 3) (ret := (some .int)) (by decide) rfl ?_
  intro p e s m args below meth c s₁ B hml hv
  obtain ⟨rfl, hP, hK⟩ := hv
  have hx := B.exec
  have hb := B.bytes
  have hr := B.returns
  have hts := atoms_spec (ws := wsX0_most) B.pre
  have hown : s.vm.findClass RX0 = some m.cls := findClass_of_methodNamed B.named
  have hlocks := B.notSynchronized
  have hS : va_S (fun _ => False) s.heap s.heap [] := va_S.rf
  have hP : va_P (dC, dI) vwCl (gcW h kc f1 f2 dr cl tr se (nI g) (nI r) inf (nI c)) s.heap := hP
  have hin0 : ∀ w ∈ wsX00, w ∈ wsX0_most := by decide +kernel
  have hl := lv_entry [.ref (h 0)] (n := 3) (Nat.le_of_ble_eq_true rfl)
  rw [lg_entry_eq]
  generalize (lg_sl [.ref (h 0)] ++ List.replicate (3 - (lg_sl [.ref (h 0)]).length) Slot.unset).toArray = ls at hl ⊢
  have hl : lv_has ls 3 [(0, .ref (h 0))] := hl
  refine lv_iconst (v := -1) hx hb dX0_most_0 (by decide) ?_
  refine lv_istore_n (lv' := [(1, .int (-1)), (0, .ref (h 0))]) hx hb dX0_most_1 rfl hl (by decide) rfl (fun ls hl => ?_)
  refine lv_iconst (v := 0) hx hb dX0_most_2 (by decide) ?_
  refine lv_istore_n (lv' := [(2, .int 0), (1, .int (-1)), (0, .ref (h 0))]) hx hb dX0_most_3 rfl hl (by decide) rfl (fun ls hl => ?_)
  refine gc_loop (c) (fun (i : Nat) (H : Heap) (locs : List Loc) (ls : Array Slot) => ∃ (x : Int32), x = gMo se i ∧ va_P (dC, dI) vwCl (gcW h kc f1 f2 dr cl tr se (nI g) (nI r) inf (nI c)) H ∧ va_S (fun _ => False) s.heap H locs ∧ lv_has ls 3 [(2, .int (nI i)), (1, .int x), (0, .ref (h 0))]) 0 (Nat.zero_le _) ⟨(-1), (by first | rfl | assumption | omega), hP, hS, lv_sub hl [0, 1, 2] rfl⟩ ?_
  intro i H locs ls hi hI ihi
  obtain ⟨x, e_x, hP, hS, hl⟩ := hI
  refine lv_iload_n hx hb dX0_most_4 rfl (lv_at hl 0 rfl) ?_
  refine lv_aload_n hx hb dX0_most_5 rfl (lv_at hl 2 rfl) ?_
  refine va_get (D := (dC, dI)) (ci := 0) (v := .int (nI c)) (C := RX0) (T := TX0) (N := 10) hx hb hts hin0 hown hK hP 0 rfl rfl 9 (by decide) (hts (.fieldLink RX0 115 "GuestChairs" "seatingCount" "I") (by decide +kernel)) (fun _ h9 => h9) rfl dX0_most_6 ?_
  refine lv_icmp_ge (tgt := 34) hx hb dX0_most_9 (by decide) (fun c_9 => ?_) (fun c_9 => ?_)
  · skip
    have hEi : i = c := gc_ge c_9 (by omega) (by omega)
    refine lv_iload_n hx hb dX0_most_34 rfl (lv_at hl 1 rfl) ?_
    have hpost : x = gMo se c := by rw [e_x, hEi]
    exact W.iret (v := x) hx hb hr (fun t ht hW => ⟨⟨x, (), rfl, hpost, trivial⟩, hS.F ht⟩) hS.2.2 dX0_most_35
  · skip
    have hLi : i < c := gc_lt c_9 (by omega)
    refine lv_iload_n hx hb dX0_most_12 rfl (lv_at hl 1 rfl) ?_
    refine lv_aload_n hx hb dX0_most_13 rfl (lv_at hl 2 rfl) ?_
    refine va_get (D := (dC, dI)) (ci := 0) (v := .ref (h 6)) (C := RX0) (T := TX0) (N := 10) hx hb hts hin0 hown hK hP 0 rfl rfl 5 (by decide) (hts (.fieldLink RX0 25 "GuestChairs" "seated" "[I") (by decide +kernel)) (fun _ h9 => h9) rfl dX0_most_14 ?_
    refine lv_iload_n hx hb dX0_most_17 rfl (lv_at hl 0 rfl) ?_
    have hPc : va_P (dC, dI) vwCl ([((h 6), .inl ((kc 6), 1024, .inl se))]) _ := hP.sub [6] rfl
    have hKc : va_K (dC, dI) vwCl ([((kc 6), .int)]) s := hK.sub [5] rfl
    refine va_calli (va_runS (As := [.ref (h 6), .int (nI i)]) (rest := [.int x]) ⟨hx, hb, hml, hown, hts⟩ (c_X0_at l dC dI (h 6) (kc 6) 1024 se (nI i) (by decide)) (va_cwS 2 hts gX0_most_X0_at rfl rfl rfl (by decide +kernel) ⟨Nat.le_of_ble_eq_true rfl, Nat.le_of_ble_eq_true rfl⟩) ⟨gcPR_blind, fun U hU hW => ⟨rfl, by rw [hU]; exact hPc, va_K.moved hW.alike hKc⟩⟩ rfl rfl hl.1 rfl (lv_room (Nat.le_of_ble_eq_true rfl)) dX0_most_18 ⟨Nat.zero_le _, Nat.zero_le _⟩) hS (fun q _ h => h.elim) (fun q h => h.elim) (fun r1 u t H locs ht hvm hw hB hz1 hk1 hS => ?_)
    have hP := gc_keep hP hk1
    have hw : r1 = gAt 1024 se (nI i) := hw
    subst hw
    clear hB hz1 hk1 ht hvm
    clear hPc hKc
    refine va_calli (va_runS (As := [.int (gAt 1024 se (nI i))]) (rest := [.int x]) ⟨hx, hb, hml, hown, hts⟩ (c_X0_countComing l (gAt 1024 se (nI i))) (va_cwS 1 hts gX0_most_X0_countComing rfl rfl rfl (by decide +kernel) ⟨Nat.le_of_ble_eq_true rfl, Nat.le_of_ble_eq_true rfl⟩) ⟨fun a U g mk q => q, fun U hU hW => ⟨rfl, trivial⟩⟩ rfl rfl hl.1 rfl (lv_room (Nat.le_of_ble_eq_true rfl)) dX0_most_21 ⟨Nat.zero_le _, Nat.zero_le _⟩) hS (fun q _ h => h.elim) (fun q h => h.elim) (fun r2 u t H locs ht hvm hw hB hz1 hk1 hS => ?_)
    have hP := gc_keep hP hk1
    have hw : r2 = gBC ((gAt 1024 se (nI i)) &&& 349525) := hw
    subst hw
    clear hB hz1 hk1 ht hvm
    refine va_mmax hx hb (hml.trans hl.1.symm) hown (hts (.methodLink RX0 124 Lib.Math.max.name) (by decide +kernel)) (hts (.static Lib.Math.max.name) (by decide +kernel)) (hts (.initialized "java/lang/Math") (by decide +kernel)) (hts (.code Lib.Math.max.name Lib.Math.max.code 2 (some .int)) (by decide +kernel)) (Nat.le_of_ble_eq_true rfl) (Nat.le_of_ble_eq_true rfl) (Nat.zero_le _) (Nat.zero_le _) dX0_most_24 ?_
    refine lv_istore_n (lv' := [(1, .int (if x < gBC ((gAt 1024 se (nI i)) &&& 349525) then gBC ((gAt 1024 se (nI i)) &&& 349525) else x)), (2, .int (nI i)), (0, .ref (h 0))]) hx hb dX0_most_27 rfl hl (by decide) rfl (fun ls hl => ?_)
    refine lv_iinc (v := nI (i + 1)) (lv' := [(2, .int (nI (i + 1))), (1, .int (if x < gBC ((gAt 1024 se (nI i)) &&& 349525) then gBC ((gAt 1024 se (nI i)) &&& 349525) else x)), (0, .ref (h 0))]) hx hb dX0_most_28 hl (k := 1) rfl (nI_1 i) (by decide) rfl (fun ls hl => ?_)
    refine lv_goto (tgt := 4) hx hb dX0_most_31 (by decide) ?_
    exact ihi H _ ls (by omega) ⟨(if x < gBC ((gAt 1024 se (nI i)) &&& 349525) then gBC ((gAt 1024 se (nI i)) &&& 349525) else x), (by rw [e_x]; rfl), hP, hS, lv_sub hl [0, 1, 2] rfl⟩
