/-! THE BOOK'S OWN METHODS, in words of its rows. -/
def gCT (f : Nat → Int32) : Nat → Int32
  | 0 => 0
  | i + 1 => gCT f i + gB (gTorn 20 f (nI i))
def gCV (f : Nat → Int32) : Nat → Int32
  | 0 => 0
  | i + 1 => gCV f i + gB (gVain 20 f (nI i))
def gCP (f : Nat → Int32) : Nat → Int32
  | 0 => 0
  | i + 1 => gCP f i + (gBC (gAt 20 f (nI i)) - 1)
def gOS (dr : Nat → Int32) (x : Int32) : Nat → Int32
  | 0 => x
  | i + 1 => if gHas x (nI i) = true then gOS dr x i ||| gAt 20 dr (nI i) else gOS dr x i
def gGB (cl : Nat → Int32) (x : Int32) : Nat → Int32
  | 0 => 0
  | i + 1 => if gHas (gAt 20 cl x) (nI i) = true ∧ gHas (gAt 20 cl (nI i)) x = true then gGB cl x i ||| ((1 : Int32) <<< ((nI i >>> (1 &&& 31)) &&& 31)) else gGB cl x i
def gGC (x : Int32) : Nat → Int32
  | 0 => 0
  | i + 1 => if gHas x (2 * nI i) = true then gGC x i ||| ((1 : Int32) <<< (nI i &&& 31)) else gGC x i
def gIn (f : Nat → Int32) : Nat → (Nat → Int32)
  | 0 => f
  | i + 1 => upd (gIn f i) i ((1 : Int32) <<< (nI i &&& 31))
def gLk (f1 f2 : Nat → Int32) (inf left : Int32) (f : Nat → Int32) : Nat → (Nat → Int32)
  | 0 => f
  | i + 1 => if nI i = left then gLk f1 f2 inf left f i else if gHas inf (nI i) = true then gLink 20 (gLink 20 (gLk f1 f2 inf left f i) (gAt 30 f1 (nI i)) (gAt 30 f2 (nI i))) (gAt 30 f2 (nI i) ^^^ 1) (gAt 30 f1 (nI i) ^^^ 1) else gLk f1 f2 inf left f i
def gLA (f1 f2 : Nat → Int32) (inf left : Int32) (r : Nat) (f : Nat → Int32) : Nat → Int32 := gLk f1 f2 inf left (gIn f 20) r
def gFt (cl : Nat → Int32) (g : Nat) : Bool := decide (gCT cl g = 0)
def gF0 (cl : Nat → Int32) (g : Nat) : Nat := if gFt cl g = true then 1 else 0
/-- the seatings' row and how many, after i of them were settled for the wish co -/
def gSt (cl : Nat → Int32) (co : Int32) (se : Nat → Int32) (c : Nat) : Nat → (Nat → Int32) × Nat
  | 0 => (se, c)
  | i + 1 =>
    if gHas (gAt 1024 (gSt cl co se c i).1 (nI i)) co = true ∨ gHas (gAt 1024 (gSt cl co se c i).1 (nI i)) (co ^^^ 1) = true then gSt cl co se c i
    else if gVain 20 cl co = true then (gPut 1024 (gSt cl co se c i).1 (nI i) (gAt 1024 (gSt cl co se c i).1 (nI i) ||| gAt 20 cl (co ^^^ 1)), (gSt cl co se c i).2)
    else if gVain 20 cl (co ^^^ 1) = true then (gPut 1024 (gSt cl co se c i).1 (nI i) (gAt 1024 (gSt cl co se c i).1 (nI i) ||| gAt 20 cl co), (gSt cl co se c i).2)
    else (gPut 1024 (gPut 1024 (gSt cl co se c i).1 (nI i) (gAt 1024 (gSt cl co se c i).1 (nI i) ||| gAt 20 cl co)) (nI (gSt cl co se c i).2) (gAt 1024 (gSt cl co se c i).1 (nI i) ||| gAt 20 cl (co ^^^ 1)), (gSt cl co se c i).2 + 1)
def gLs (cl se : Nat → Int32) (g : Nat) : Nat → (Nat → Int32) × Nat
  | 0 => (gPut 1024 se 0 0, gF0 cl g)
  | i + 1 => gSt cl (2 * nI i) (gLs cl se g i).1 (gLs cl se g i).2 (gLs cl se g i).2
theorem gSt_le (cl : Nat → Int32) (co : Int32) (se : Nat → Int32) (c : Nat) : ∀ i, (gSt cl co se c i).2 ≤ c + i
  | 0 => Nat.le_refl _
  | i + 1 => by
    have h := gSt_le cl co se c i
    simp only [gSt]
    split
    · omega
    · split
      · show (gSt cl co se c i).2 ≤ _; omega
      · split
        · show (gSt cl co se c i).2 ≤ _; omega
        · show (gSt cl co se c i).2 + 1 ≤ _; omega
theorem gLs_le (cl se : Nat → Int32) (g : Nat) : ∀ i, (gLs cl se g i).2 ≤ 2 ^ i
  | 0 => by simp only [gLs, gF0]; split <;> omega
  | i + 1 => by
    have h := gLs_le cl se g i
    have h2 := gSt_le cl (2 * nI i) (gLs cl se g i).1 (gLs cl se g i).2 (gLs cl se g i).2
    simp only [gLs]
    rw [Nat.pow_succ]
    omega
theorem gLs_le' (cl se : Nat → Int32) (g : Nat) {i : Nat} (h : i ≤ 10) : (gLs cl se g i).2 ≤ 1024 :=
  Nat.le_trans (gLs_le cl se g i) (Nat.pow_le_pow_right (by decide) h)
theorem gF0_eq (cl : Nat → Int32) (g : Nat) : gB (gFt cl g) = nI (gF0 cl g) := by
  simp only [gB, gF0]; split <;> rfl
def gFe (se : Nat → Int32) : Nat → Int32
  | 0 => -1
  | i + 1 => if nI i = 0 ∨ gBC (gAt 1024 se (nI i) &&& 349525) < gFe se i then gBC (gAt 1024 se (nI i) &&& 349525) else gFe se i
def gMo (se : Nat → Int32) : Nat → Int32
  | 0 => -1
  | i + 1 => if gMo se i < gBC (gAt 1024 se (nI i) &&& 349525) then gBC (gAt 1024 se (nI i) &&& 349525) else gMo se i
def gSu (se : Nat → Int32) : Nat → Int32
  | 0 => 0
  | i + 1 => gSu se i + gBC (gAt 1024 se (nI i) &&& 349525)
def gTi (se : Nat → Int32) (a b : Int32) : Nat → Nat
  | 0 => 0
  | i + 1 => if gHas (gAt 1024 se (nI i)) a = true ∧ gHas (gAt 1024 se (nI i)) b = false then gTi se a b i + 1 else gTi se a b i
/-- the first place below n where p holds, -1 if there is none -/
def gFst (p : Nat → Bool) : Nat → Int32
  | 0 => -1
  | n + 1 => if gFst p n = -1 then (if p n = true then nI n else -1) else gFst p n
theorem gFst_no {p : Nat → Bool} : ∀ {n : Nat}, (∀ j, j < n → p j = false) → gFst p n = -1
  | 0, _ => rfl
  | n + 1, h => by
    have h1 := gFst_no (p := p) (n := n) (fun j hj => h j (by omega))
    simp [gFst, h1, h n (by omega)]
theorem nI_nm1 {n : Nat} (h : n < 2 ^ 31) : ¬ nI n = -1 := by
  intro e
  have h1 := nI_toInt h
  rw [e] at h1
  have h2 : (-1 : Int32).toInt = -1 := by decide
  omega
theorem gFst_hit {p : Nat → Bool} {i : Nat} (hi : i < 2 ^ 31) (hp : p i = true) (h : ∀ j, j < i → p j = false) : ∀ {n : Nat}, i < n → gFst p n = nI i
  | 0, h0 => absurd h0 (Nat.not_lt_zero i)
  | n + 1, h0 => by
    rcases Nat.lt_or_ge i n with q | q
    · have h1 := gFst_hit hi hp h q
      simp [gFst, h1, nI_nm1 hi]
    · have e : i = n := by omega
      subst e
      simp [gFst, gFst_no h, hp]
def gBr (f1 f2 : Nat → Int32) (inf x : Int32) (j : Nat) : Bool := gHas inf (nI j) && gHolds (gAt 30 f1 (nI j)) x && !gHolds (gAt 30 f2 (nI j)) x
set_option maxHeartbeats 4000000 in
set_option maxRecDepth 100000 in
theorem c_X0_wishCount (l : Launch) (dC : Nat → ClassId) (dI : Nat → Nat → Nat) (h : Nat → Nat) (kc : Nat → ClassId) (f1 : Nat → Int32) (f2 : Nat → Int32) (dr : Nat → Int32) (cl : Nat → Int32) (tr : Nat → Int32) (se : Nat → Int32) (g : Nat) (r : Nat) (inf : Int32) (ct : Nat) : Met l yX0_wishCount wsX0_wishCount ({ frames := 0, cells := 0, slots := 0, locals := 0 }) (gcPR (dC, dI) [.ref (h 0)] (gcW h kc f1 f2 dr cl tr se (nI g) (nI r) inf (nI ct)) (gcT kc)) (va_Qi (fun (rv : Int32) (_u : Unit) => rv = nI (2 * g)) (fun _ _ => True) (fun _ => False)) 0 0 (fun _ => False) := by
  refine Met.ofW (cc := cX0_wishCount) (maxL := 1) (ret := (some .int)) (by decide) rfl ?_
  intro p e s m args below meth c s₁ B hml hv
  obtain ⟨rfl, hP, hK⟩ := hv
  have hx := B.exec
  have hb := B.bytes
  have hr := B.returns
  have hts := atoms_spec (ws := wsX0_wishCount) B.pre
  have hown : s.vm.findClass RX0 = some m.cls := findClass_of_methodNamed B.named
  have hlocks := B.notSynchronized
  have hS : va_S (fun _ => False) s.heap s.heap [] := va_S.rf
  have hP : va_P (dC, dI) vwCl (gcW h kc f1 f2 dr cl tr se (nI g) (nI r) inf (nI ct)) s.heap := hP
  have hin0 : ∀ w ∈ wsX00, w ∈ wsX0_wishCount := by decide +kernel
  have hl := lv_entry [.ref (h 0)] (n := 1) (Nat.le_of_ble_eq_true rfl)
  rw [lg_entry_eq]
  generalize (lg_sl [.ref (h 0)] ++ List.replicate (1 - (lg_sl [.ref (h 0)]).length) Slot.unset).toArray = ls at hl ⊢
  have hl : lv_has ls 1 [(0, .ref (h 0))] := hl
  refine lv_iconst (v := 2) hx hb dX0_wishCount_0 (by decide) ?_
  refine lv_aload_n hx hb dX0_wishCount_1 rfl (lv_at hl 0 rfl) ?_
  refine va_get (D := (dC, dI)) (ci := 0) (v := .int (nI g)) (C := RX0) (T := TX0) (N := 10) hx hb hts hin0 hown hK hP 0 rfl rfl 6 (by decide) (hts (.fieldLink RX0 31 "GuestChairs" "guestCount" "I") (by decide +kernel)) (fun _ h9 => h9) rfl dX0_wishCount_2 ?_
  refine lv_imul hx hb dX0_wishCount_5 ?_
  refine gc_topi (y := nI (2 * g)) (pk_mul 2 g) ?_
  have hpost : (nI (2 * g)) = nI (2 * g) := by first | rfl | assumption
  exact W.iret (v := nI (2 * g)) hx hb hr (fun t ht hW => ⟨⟨nI (2 * g), (), rfl, hpost, trivial⟩, hS.F ht⟩) hS.2.2 dX0_wishCount_6
set_option maxHeartbeats 4000000 in
set_option maxRecDepth 100000 in
theorem c_X0_countTorn_cl (l : Launch) (dC : Nat → ClassId) (dI : Nat → Nat → Nat) (h : Nat → Nat) (kc : Nat → ClassId) (f1 : Nat → Int32) (f2 : Nat → Int32) (dr : Nat → Int32) (cl : Nat → Int32) (tr : Nat → Int32) (se : Nat → Int32) (g : Nat) (r : Nat) (inf : Int32) (ct : Nat) (hg : g ≤ 10) : Met l yX0_countTorn wsX0_countTorn ({ frames := 3, cells := 0, slots := 0, locals := 63 }) (gcPR (dC, dI) [.ref (h 0), .ref (h 4)] (gcW h kc f1 f2 dr cl tr se (nI g) (nI r) inf (nI ct)) (gcT kc)) (va_Qi (fun (rv : Int32) (_u : Unit) => rv = gCT cl g) (fun _ _ => True) (fun _ => False)) 0 0 (fun _ => False) := by
  refine Met.ofW (cc := cX0_countTorn) (maxL := 4) (ret := (some .int)) (by decide) rfl ?_
  intro p e s m args below meth c s₁ B hml hv
  obtain ⟨rfl, hP, hK⟩ := hv
  have hx := B.exec
  have hb := B.bytes
  have hr := B.returns
  have hts := atoms_spec (ws := wsX0_countTorn) B.pre
  have hown : s.vm.findClass RX0 = some m.cls := findClass_of_methodNamed B.named
  have hlocks := B.notSynchronized
  have hS : va_S (fun _ => False) s.heap s.heap [] := va_S.rf
  have hP : va_P (dC, dI) vwCl (gcW h kc f1 f2 dr cl tr se (nI g) (nI r) inf (nI ct)) s.heap := hP
  have hin0 : ∀ w ∈ wsX00, w ∈ wsX0_countTorn := by decide +kernel
  have hl := lv_entry [.ref (h 0), .ref (h 4)] (n := 4) (Nat.le_of_ble_eq_true rfl)
  rw [lg_entry_eq]
  generalize (lg_sl [.ref (h 0), .ref (h 4)] ++ List.replicate (4 - (lg_sl [.ref (h 0), .ref (h 4)]).length) Slot.unset).toArray = ls at hl ⊢
  have hl : lv_has ls 4 [(0, .ref (h 0)), (1, .ref (h 4))] := hl
  refine lv_iconst (v := 0) hx hb dX0_countTorn_0 (by decide) ?_
  refine lv_istore_n (lv' := [(2, .int 0), (0, .ref (h 0)), (1, .ref (h 4))]) hx hb dX0_countTorn_1 rfl hl (by decide) rfl (fun ls hl => ?_)
  refine lv_iconst (v := 0) hx hb dX0_countTorn_2 (by decide) ?_
  refine lv_istore_n (lv' := [(3, .int 0), (2, .int 0), (0, .ref (h 0)), (1, .ref (h 4))]) hx hb dX0_countTorn_3 rfl hl (by decide) rfl (fun ls hl => ?_)
  refine gc_loop (g) (fun (i : Nat) (H : Heap) (locs : List Loc) (ls : Array Slot) => ∃ (x : Int32), x = gCT cl i ∧ va_P (dC, dI) vwCl (gcW h kc f1 f2 dr cl tr se (nI g) (nI r) inf (nI ct)) H ∧ va_S (fun _ => False) s.heap H locs ∧ lv_has ls 4 [(3, .int (nI i)), (2, .int x), (0, .ref (h 0)), (1, .ref (h 4))]) 0 (Nat.zero_le _) ⟨0, (by first | rfl | assumption | omega), hP, hS, lv_sub hl [0, 1, 2, 3] rfl⟩ ?_
  intro i H locs ls hi hI ihi
  obtain ⟨x, e_x, hP, hS, hl⟩ := hI
  refine lv_iload_n hx hb dX0_countTorn_4 rfl (lv_at hl 0 rfl) ?_
  refine lv_aload_n hx hb dX0_countTorn_5 rfl (lv_at hl 2 rfl) ?_
  refine va_get (D := (dC, dI)) (ci := 0) (v := .int (nI g)) (C := RX0) (T := TX0) (N := 10) hx hb hts hin0 hown hK hP 0 rfl rfl 6 (by decide) (hts (.fieldLink RX0 31 "GuestChairs" "guestCount" "I") (by decide +kernel)) (fun _ h9 => h9) rfl dX0_countTorn_6 ?_
  refine lv_icmp_ge (tgt := 29) hx hb dX0_countTorn_9 (by decide) (fun c_9 => ?_) (fun c_9 => ?_)
  · skip
    have hEi : i = g := gc_ge c_9 (by omega) (by omega)
    refine lv_iload_n hx hb dX0_countTorn_29 rfl (lv_at hl 1 rfl) ?_
    have hpost : x = gCT cl g := by rw [e_x, hEi]
    exact W.iret (v := x) hx hb hr (fun t ht hW => ⟨⟨x, (), rfl, hpost, trivial⟩, hS.F ht⟩) hS.2.2 dX0_countTorn_30
  · skip
    have hLi : i < g := gc_lt c_9 (by omega) (by omega)
    refine lv_iload_n hx hb dX0_countTorn_12 rfl (lv_at hl 1 rfl) ?_
    refine lv_aload_n hx hb dX0_countTorn_13 rfl (lv_at hl 3 rfl) ?_
    refine lv_iload_n hx hb dX0_countTorn_14 rfl (lv_at hl 0 rfl) ?_
    have hPc : va_P (dC, dI) vwCl ([((h 4), .inl ((kc 4), 20, .inl cl))]) _ := hP.sub [4] rfl
    have hKc : va_K (dC, dI) vwCl ([((kc 4), .int)]) s := hK.sub [3] rfl
    refine va_calli (va_runS (As := [.ref (h 4), .int (nI i)]) (rest := [.int x]) ⟨hx, hb, hml, hown, hts⟩ (c_X0_isTorn l dC dI (h 4) (kc 4) 20 cl (nI i) (by decide)) (va_cwS 2 hts gX0_countTorn_X0_isTorn rfl rfl rfl (by decide +kernel) ⟨Nat.le_of_ble_eq_true rfl, Nat.le_of_ble_eq_true rfl⟩) ⟨gcPR_blind, fun U hU hW => ⟨rfl, by rw [hU]; exact hPc, va_K.moved hW.alike hKc⟩⟩ rfl rfl hl.1 rfl (lv_room (Nat.le_of_ble_eq_true rfl)) dX0_countTorn_15 ⟨Nat.zero_le _, Nat.zero_le _⟩) hS (fun q _ h => h.elim) (fun q h => h.elim) (fun r1 u t H locs ht hvm hw hB hz1 hk1 hS => ?_)
    have hP := gc_keep hP hk1
    have hw : r1 = gB (gTorn 20 cl (nI i)) := hw
    subst hw
    clear hw
    clear hB hz1 hk1 ht hvm
    clear hPc hKc
    refine va_calli (va_runS (As := [.int (gB (gTorn 20 cl (nI i)))]) (rest := [.int x]) ⟨hx, hb, hml, hown, hts⟩ (c_X0_oneIf l (gTorn 20 cl (nI i))) (va_cwS 1 hts gX0_countTorn_X0_oneIf rfl rfl rfl (by decide +kernel) ⟨Nat.le_of_ble_eq_true rfl, Nat.le_of_ble_eq_true rfl⟩) ⟨fun a U g mk q => q, fun U hU hW => ⟨rfl, trivial⟩⟩ rfl rfl hl.1 rfl (lv_room (Nat.le_of_ble_eq_true rfl)) dX0_countTorn_18 ⟨Nat.zero_le _, Nat.zero_le _⟩) hS (fun q _ h => h.elim) (fun q h => h.elim) (fun r2 u t H locs ht hvm hw hB hz1 hk1 hS => ?_)
    have hP := gc_keep hP hk1
    have hw : r2 = gB (gTorn 20 cl (nI i)) := hw
    subst hw
    clear hw
    clear hB hz1 hk1 ht hvm
    refine lv_iadd hx hb dX0_countTorn_21 ?_
    refine lv_istore_n (lv' := [(2, .int (x + gB (gTorn 20 cl (nI i)))), (3, .int (nI i)), (0, .ref (h 0)), (1, .ref (h 4))]) hx hb dX0_countTorn_22 rfl hl (by decide) rfl (fun ls hl => ?_)
    refine lv_iinc (v := nI (i + 1)) (lv' := [(3, .int (nI (i + 1))), (2, .int (x + gB (gTorn 20 cl (nI i)))), (0, .ref (h 0)), (1, .ref (h 4))]) hx hb dX0_countTorn_23 hl (k := 1) rfl (nI_1 i) (by decide) rfl (fun ls hl => ?_)
    refine lv_goto (tgt := 4) hx hb dX0_countTorn_26 (by decide) ?_
    exact ihi H _ ls (by omega) ⟨(x + gB (gTorn 20 cl (nI i))), (by rw [e_x]; rfl), hP, hS, lv_sub hl [0, 1, 2, 3] rfl⟩
set_option maxHeartbeats 4000000 in
set_option maxRecDepth 100000 in
theorem c_X0_countTorn_tr (l : Launch) (dC : Nat → ClassId) (dI : Nat → Nat → Nat) (h : Nat → Nat) (kc : Nat → ClassId) (f1 : Nat → Int32) (f2 : Nat → Int32) (dr : Nat → Int32) (cl : Nat → Int32) (tr : Nat → Int32) (se : Nat → Int32) (g : Nat) (r : Nat) (inf : Int32) (ct : Nat) (hg : g ≤ 10) : Met l yX0_countTorn wsX0_countTorn ({ frames := 3, cells := 0, slots := 0, locals := 63 }) (gcPR (dC, dI) [.ref (h 0), .ref (h 5)] (gcW h kc f1 f2 dr cl tr se (nI g) (nI r) inf (nI ct)) (gcT kc)) (va_Qi (fun (rv : Int32) (_u : Unit) => rv = gCT tr g) (fun _ _ => True) (fun _ => False)) 0 0 (fun _ => False) := by
  refine Met.ofW (cc := cX0_countTorn) (maxL := 4) (ret := (some .int)) (by decide) rfl ?_
  intro p e s m args below meth c s₁ B hml hv
  obtain ⟨rfl, hP, hK⟩ := hv
  have hx := B.exec
  have hb := B.bytes
  have hr := B.returns
  have hts := atoms_spec (ws := wsX0_countTorn) B.pre
  have hown : s.vm.findClass RX0 = some m.cls := findClass_of_methodNamed B.named
  have hlocks := B.notSynchronized
  have hS : va_S (fun _ => False) s.heap s.heap [] := va_S.rf
  have hP : va_P (dC, dI) vwCl (gcW h kc f1 f2 dr cl tr se (nI g) (nI r) inf (nI ct)) s.heap := hP
  have hin0 : ∀ w ∈ wsX00, w ∈ wsX0_countTorn := by decide +kernel
  have hl := lv_entry [.ref (h 0), .ref (h 5)] (n := 4) (Nat.le_of_ble_eq_true rfl)
  rw [lg_entry_eq]
  generalize (lg_sl [.ref (h 0), .ref (h 5)] ++ List.replicate (4 - (lg_sl [.ref (h 0), .ref (h 5)]).length) Slot.unset).toArray = ls at hl ⊢
  have hl : lv_has ls 4 [(0, .ref (h 0)), (1, .ref (h 5))] := hl
  refine lv_iconst (v := 0) hx hb dX0_countTorn_0 (by decide) ?_
  refine lv_istore_n (lv' := [(2, .int 0), (0, .ref (h 0)), (1, .ref (h 5))]) hx hb dX0_countTorn_1 rfl hl (by decide) rfl (fun ls hl => ?_)
  refine lv_iconst (v := 0) hx hb dX0_countTorn_2 (by decide) ?_
  refine lv_istore_n (lv' := [(3, .int 0), (2, .int 0), (0, .ref (h 0)), (1, .ref (h 5))]) hx hb dX0_countTorn_3 rfl hl (by decide) rfl (fun ls hl => ?_)
  refine gc_loop (g) (fun (i : Nat) (H : Heap) (locs : List Loc) (ls : Array Slot) => ∃ (x : Int32), x = gCT tr i ∧ va_P (dC, dI) vwCl (gcW h kc f1 f2 dr cl tr se (nI g) (nI r) inf (nI ct)) H ∧ va_S (fun _ => False) s.heap H locs ∧ lv_has ls 4 [(3, .int (nI i)), (2, .int x), (0, .ref (h 0)), (1, .ref (h 5))]) 0 (Nat.zero_le _) ⟨0, (by first | rfl | assumption | omega), hP, hS, lv_sub hl [0, 1, 2, 3] rfl⟩ ?_
  intro i H locs ls hi hI ihi
  obtain ⟨x, e_x, hP, hS, hl⟩ := hI
  refine lv_iload_n hx hb dX0_countTorn_4 rfl (lv_at hl 0 rfl) ?_
  refine lv_aload_n hx hb dX0_countTorn_5 rfl (lv_at hl 2 rfl) ?_
  refine va_get (D := (dC, dI)) (ci := 0) (v := .int (nI g)) (C := RX0) (T := TX0) (N := 10) hx hb hts hin0 hown hK hP 0 rfl rfl 6 (by decide) (hts (.fieldLink RX0 31 "GuestChairs" "guestCount" "I") (by decide +kernel)) (fun _ h9 => h9) rfl dX0_countTorn_6 ?_
  refine lv_icmp_ge (tgt := 29) hx hb dX0_countTorn_9 (by decide) (fun c_9 => ?_) (fun c_9 => ?_)
  · skip
    have hEi : i = g := gc_ge c_9 (by omega) (by omega)
    refine lv_iload_n hx hb dX0_countTorn_29 rfl (lv_at hl 1 rfl) ?_
    have hpost : x = gCT tr g := by rw [e_x, hEi]
    exact W.iret (v := x) hx hb hr (fun t ht hW => ⟨⟨x, (), rfl, hpost, trivial⟩, hS.F ht⟩) hS.2.2 dX0_countTorn_30
  · skip
    have hLi : i < g := gc_lt c_9 (by omega) (by omega)
    refine lv_iload_n hx hb dX0_countTorn_12 rfl (lv_at hl 1 rfl) ?_
    refine lv_aload_n hx hb dX0_countTorn_13 rfl (lv_at hl 3 rfl) ?_
    refine lv_iload_n hx hb dX0_countTorn_14 rfl (lv_at hl 0 rfl) ?_
    have hPc : va_P (dC, dI) vwCl ([((h 5), .inl ((kc 5), 20, .inl tr))]) _ := hP.sub [5] rfl
    have hKc : va_K (dC, dI) vwCl ([((kc 5), .int)]) s := hK.sub [4] rfl
    refine va_calli (va_runS (As := [.ref (h 5), .int (nI i)]) (rest := [.int x]) ⟨hx, hb, hml, hown, hts⟩ (c_X0_isTorn l dC dI (h 5) (kc 5) 20 tr (nI i) (by decide)) (va_cwS 2 hts gX0_countTorn_X0_isTorn rfl rfl rfl (by decide +kernel) ⟨Nat.le_of_ble_eq_true rfl, Nat.le_of_ble_eq_true rfl⟩) ⟨gcPR_blind, fun U hU hW => ⟨rfl, by rw [hU]; exact hPc, va_K.moved hW.alike hKc⟩⟩ rfl rfl hl.1 rfl (lv_room (Nat.le_of_ble_eq_true rfl)) dX0_countTorn_15 ⟨Nat.zero_le _, Nat.zero_le _⟩) hS (fun q _ h => h.elim) (fun q h => h.elim) (fun r1 u t H locs ht hvm hw hB hz1 hk1 hS => ?_)
    have hP := gc_keep hP hk1
    have hw : r1 = gB (gTorn 20 tr (nI i)) := hw
    subst hw
    clear hw
    clear hB hz1 hk1 ht hvm
    clear hPc hKc
    refine va_calli (va_runS (As := [.int (gB (gTorn 20 tr (nI i)))]) (rest := [.int x]) ⟨hx, hb, hml, hown, hts⟩ (c_X0_oneIf l (gTorn 20 tr (nI i))) (va_cwS 1 hts gX0_countTorn_X0_oneIf rfl rfl rfl (by decide +kernel) ⟨Nat.le_of_ble_eq_true rfl, Nat.le_of_ble_eq_true rfl⟩) ⟨fun a U g mk q => q, fun U hU hW => ⟨rfl, trivial⟩⟩ rfl rfl hl.1 rfl (lv_room (Nat.le_of_ble_eq_true rfl)) dX0_countTorn_18 ⟨Nat.zero_le _, Nat.zero_le _⟩) hS (fun q _ h => h.elim) (fun q h => h.elim) (fun r2 u t H locs ht hvm hw hB hz1 hk1 hS => ?_)
    have hP := gc_keep hP hk1
    have hw : r2 = gB (gTorn 20 tr (nI i)) := hw
    subst hw
    clear hw
    clear hB hz1 hk1 ht hvm
    refine lv_iadd hx hb dX0_countTorn_21 ?_
    refine lv_istore_n (lv' := [(2, .int (x + gB (gTorn 20 tr (nI i)))), (3, .int (nI i)), (0, .ref (h 0)), (1, .ref (h 5))]) hx hb dX0_countTorn_22 rfl hl (by decide) rfl (fun ls hl => ?_)
    refine lv_iinc (v := nI (i + 1)) (lv' := [(3, .int (nI (i + 1))), (2, .int (x + gB (gTorn 20 tr (nI i)))), (0, .ref (h 0)), (1, .ref (h 5))]) hx hb dX0_countTorn_23 hl (k := 1) rfl (nI_1 i) (by decide) rfl (fun ls hl => ?_)
    refine lv_goto (tgt := 4) hx hb dX0_countTorn_26 (by decide) ?_
    exact ihi H _ ls (by omega) ⟨(x + gB (gTorn 20 tr (nI i))), (by rw [e_x]; rfl), hP, hS, lv_sub hl [0, 1, 2, 3] rfl⟩
set_option maxHeartbeats 4000000 in
set_option maxRecDepth 100000 in
theorem c_X0_fits_ct (l : Launch) (dC : Nat → ClassId) (dI : Nat → Nat → Nat) (h : Nat → Nat) (kc : Nat → ClassId) (f1 : Nat → Int32) (f2 : Nat → Int32) (dr : Nat → Int32) (cl : Nat → Int32) (tr : Nat → Int32) (se : Nat → Int32) (g : Nat) (r : Nat) (inf : Int32) (ct : Nat) (hc : ct ≤ 1024) : Met l yX0_fits wsX0_fits ({ frames := 0, cells := 0, slots := 0, locals := 0 }) (gcPR (dC, dI) [.ref (h 0)] (gcW h kc f1 f2 dr cl tr se (nI g) (nI r) inf (nI ct)) (gcT kc)) (va_Qi (fun (rv : Int32) (_u : Unit) => rv = gB (decide (0 < ct))) (fun _ _ => True) (fun _ => False)) 0 0 (fun _ => False) := by
  refine Met.ofW (cc := cX0_fits) (maxL := 1) (ret := (some .boolean)) (by decide) rfl ?_
  intro p e s m args below meth c s₁ B hml hv
  obtain ⟨rfl, hP, hK⟩ := hv
  have hx := B.exec
  have hb := B.bytes
  have hr := B.returns
  have hts := atoms_spec (ws := wsX0_fits) B.pre
  have hown : s.vm.findClass RX0 = some m.cls := findClass_of_methodNamed B.named
  have hlocks := B.notSynchronized
  have hS : va_S (fun _ => False) s.heap s.heap [] := va_S.rf
  have hP : va_P (dC, dI) vwCl (gcW h kc f1 f2 dr cl tr se (nI g) (nI r) inf (nI ct)) s.heap := hP
  have hin0 : ∀ w ∈ wsX00, w ∈ wsX0_fits := by decide +kernel
  have hl := lv_entry [.ref (h 0)] (n := 1) (Nat.le_of_ble_eq_true rfl)
  rw [lg_entry_eq]
  generalize (lg_sl [.ref (h 0)] ++ List.replicate (1 - (lg_sl [.ref (h 0)]).length) Slot.unset).toArray = ls at hl ⊢
  have hl : lv_has ls 1 [(0, .ref (h 0))] := hl
  refine lv_aload_n hx hb dX0_fits_0 rfl (lv_at hl 0 rfl) ?_
  refine va_get (D := (dC, dI)) (ci := 0) (v := .int (nI ct)) (C := RX0) (T := TX0) (N := 10) hx hb hts hin0 hown hK hP 0 rfl rfl 9 (by decide) (hts (.fieldLink RX0 111 "GuestChairs" "seatingCount" "I") (by decide +kernel)) (fun _ h9 => h9) rfl dX0_fits_1 ?_
  refine lv_if_le (tgt := 11) hx hb dX0_fits_4 (by decide) (fun c_4 => ?_) (fun c_4 => ?_)
  · skip
    have hc0 : ¬ 0 < ct := by have q := (nI_leI (a := ct) (b := 0) (by omega) (by decide)).mp c_4; omega
    refine lv_iconst (v := 0) hx hb dX0_fits_11 (by decide) ?_
    have hpost : (0 : Int32) = gB (decide (0 < ct)) := by simp [gB, hc0]
    exact W.zret (ty := .boolean) (v := 0) hx hb hr (by first | rfl | decide | exact gB_nar _) (fun t ht hW => ⟨⟨0, (), rfl, hpost, trivial⟩, hS.F ht⟩) hS.2.2 dX0_fits_12
  · skip
    have hc0 : 0 < ct := Nat.lt_of_not_le (fun q => c_4 ((nI_leI (a := ct) (b := 0) (by omega) (by decide)).mpr q))
    refine lv_iconst (v := 1) hx hb dX0_fits_7 (by decide) ?_
    refine lv_goto (tgt := 12) hx hb dX0_fits_8 (by decide) ?_
    have hpost : (1 : Int32) = gB (decide (0 < ct)) := by simp [gB, hc0]
    exact W.zret (ty := .boolean) (v := 1) hx hb hr (by first | rfl | decide | exact gB_nar _) (fun t ht hW => ⟨⟨1, (), rfl, hpost, trivial⟩, hS.F ht⟩) hS.2.2 dX0_fits_12
set_option maxHeartbeats 4000000 in
set_option maxRecDepth 100000 in
theorem c_X0_fits (l : Launch) (dC : Nat → ClassId) (dI : Nat → Nat → Nat) (h : Nat → Nat) (kc : Nat → ClassId) (f1 : Nat → Int32) (f2 : Nat → Int32) (dr : Nat → Int32) (cl : Nat → Int32) (tr : Nat → Int32) (se : Nat → Int32) (g : Nat) (r : Nat) (inf : Int32) (ct : Nat) (hc : ct ≤ 1024) (hft : gFt cl g = decide (0 < ct)) : Met l yX0_fits wsX0_fits ({ frames := 0, cells := 0, slots := 0, locals := 0 }) (gcPR (dC, dI) [.ref (h 0)] (gcW h kc f1 f2 dr cl tr se (nI g) (nI r) inf (nI ct)) (gcT kc)) (va_Qi (fun (rv : Int32) (_u : Unit) => rv = gB (gFt cl g)) (fun _ _ => True) (fun _ => False)) 0 0 (fun _ => False) := by
  refine Met.ofW (cc := cX0_fits) (maxL := 1) (ret := (some .boolean)) (by decide) rfl ?_
  intro p e s m args below meth c s₁ B hml hv
  obtain ⟨rfl, hP, hK⟩ := hv
  have hx := B.exec
  have hb := B.bytes
  have hr := B.returns
  have hts := atoms_spec (ws := wsX0_fits) B.pre
  have hown : s.vm.findClass RX0 = some m.cls := findClass_of_methodNamed B.named
  have hlocks := B.notSynchronized
  have hS : va_S (fun _ => False) s.heap s.heap [] := va_S.rf
  have hP : va_P (dC, dI) vwCl (gcW h kc f1 f2 dr cl tr se (nI g) (nI r) inf (nI ct)) s.heap := hP
  have hin0 : ∀ w ∈ wsX00, w ∈ wsX0_fits := by decide +kernel
  have hl := lv_entry [.ref (h 0)] (n := 1) (Nat.le_of_ble_eq_true rfl)
  rw [lg_entry_eq]
  generalize (lg_sl [.ref (h 0)] ++ List.replicate (1 - (lg_sl [.ref (h 0)]).length) Slot.unset).toArray = ls at hl ⊢
  have hl : lv_has ls 1 [(0, .ref (h 0))] := hl
  refine lv_aload_n hx hb dX0_fits_0 rfl (lv_at hl 0 rfl) ?_
  refine va_get (D := (dC, dI)) (ci := 0) (v := .int (nI ct)) (C := RX0) (T := TX0) (N := 10) hx hb hts hin0 hown hK hP 0 rfl rfl 9 (by decide) (hts (.fieldLink RX0 111 "GuestChairs" "seatingCount" "I") (by decide +kernel)) (fun _ h9 => h9) rfl dX0_fits_1 ?_
  refine lv_if_le (tgt := 11) hx hb dX0_fits_4 (by decide) (fun c_4 => ?_) (fun c_4 => ?_)
  · skip
    have hc0 : ¬ 0 < ct := by have q := (nI_leI (a := ct) (b := 0) (by omega) (by decide)).mp c_4; omega
    refine lv_iconst (v := 0) hx hb dX0_fits_11 (by decide) ?_
    have hpost : (0 : Int32) = gB (gFt cl g) := by rw [hft]; simp [gB, hc0]
    exact W.zret (ty := .boolean) (v := 0) hx hb hr (by first | rfl | decide | exact gB_nar _) (fun t ht hW => ⟨⟨0, (), rfl, hpost, trivial⟩, hS.F ht⟩) hS.2.2 dX0_fits_12
  · skip
    have hc0 : 0 < ct := Nat.lt_of_not_le (fun q => c_4 ((nI_leI (a := ct) (b := 0) (by omega) (by decide)).mpr q))
    refine lv_iconst (v := 1) hx hb dX0_fits_7 (by decide) ?_
    refine lv_goto (tgt := 12) hx hb dX0_fits_8 (by decide) ?_
    have hpost : (1 : Int32) = gB (gFt cl g) := by rw [hft]; simp [gB, hc0]
    exact W.zret (ty := .boolean) (v := 1) hx hb hr (by first | rfl | decide | exact gB_nar _) (fun t ht hW => ⟨⟨1, (), rfl, hpost, trivial⟩, hS.F ht⟩) hS.2.2 dX0_fits_12
set_option maxHeartbeats 4000000 in
set_option maxRecDepth 100000 in
theorem c_X0_countVain (l : Launch) (dC : Nat → ClassId) (dI : Nat → Nat → Nat) (h : Nat → Nat) (kc : Nat → ClassId) (f1 : Nat → Int32) (f2 : Nat → Int32) (dr : Nat → Int32) (cl : Nat → Int32) (tr : Nat → Int32) (se : Nat → Int32) (g : Nat) (r : Nat) (inf : Int32) (ct : Nat) (hg : g ≤ 10) : Met l yX0_countVain wsX0_countVain ({ frames := 2, cells := 0, slots := 0, locals := 42 }) (gcPR (dC, dI) [.ref (h 0)] (gcW h kc f1 f2 dr cl tr se (nI g) (nI r) inf (nI ct)) (gcT kc)) (va_Qi (fun (rv : Int32) (_u : Unit) => rv = gCV cl (2 * g)) (fun _ _ => True) (fun _ => False)) 0 0 (fun _ => False) := by
  refine Met.ofW (cc := cX0_countVain) (maxL := 3) (ret := (some .int)) (by decide) rfl ?_
  intro p e s m args below meth c s₁ B hml hv
  obtain ⟨rfl, hP, hK⟩ := hv
  have hx := B.exec
  have hb := B.bytes
  have hr := B.returns
  have hts := atoms_spec (ws := wsX0_countVain) B.pre
  have hown : s.vm.findClass RX0 = some m.cls := findClass_of_methodNamed B.named
  have hlocks := B.notSynchronized
  have hS : va_S (fun _ => False) s.heap s.heap [] := va_S.rf
  have hP : va_P (dC, dI) vwCl (gcW h kc f1 f2 dr cl tr se (nI g) (nI r) inf (nI ct)) s.heap := hP
  have hin0 : ∀ w ∈ wsX00, w ∈ wsX0_countVain := by decide +kernel
  have hl := lv_entry [.ref (h 0)] (n := 3) (Nat.le_of_ble_eq_true rfl)
  rw [lg_entry_eq]
  generalize (lg_sl [.ref (h 0)] ++ List.replicate (3 - (lg_sl [.ref (h 0)]).length) Slot.unset).toArray = ls at hl ⊢
  have hl : lv_has ls 3 [(0, .ref (h 0))] := hl
  refine lv_iconst (v := 0) hx hb dX0_countVain_0 (by decide) ?_
  refine lv_istore_n (lv' := [(1, .int 0), (0, .ref (h 0))]) hx hb dX0_countVain_1 rfl hl (by decide) rfl (fun ls hl => ?_)
  refine lv_iconst (v := 0) hx hb dX0_countVain_2 (by decide) ?_
  refine lv_istore_n (lv' := [(2, .int 0), (1, .int 0), (0, .ref (h 0))]) hx hb dX0_countVain_3 rfl hl (by decide) rfl (fun ls hl => ?_)
  refine gc_loop (2 * g) (fun (i : Nat) (H : Heap) (locs : List Loc) (ls : Array Slot) => ∃ (x : Int32), x = gCV cl i ∧ va_P (dC, dI) vwCl (gcW h kc f1 f2 dr cl tr se (nI g) (nI r) inf (nI ct)) H ∧ va_S (fun _ => False) s.heap H locs ∧ lv_has ls 3 [(2, .int (nI i)), (1, .int x), (0, .ref (h 0))]) 0 (Nat.zero_le _) ⟨0, (by first | rfl | assumption | omega), hP, hS, lv_sub hl [0, 1, 2] rfl⟩ ?_
  intro i H locs ls hi hI ihi
  obtain ⟨x, e_x, hP, hS, hl⟩ := hI
  refine lv_iload_n hx hb dX0_countVain_4 rfl (lv_at hl 0 rfl) ?_
  refine lv_aload_n hx hb dX0_countVain_5 rfl (lv_at hl 2 rfl) ?_
  have hPc : va_P (dC, dI) vwCl (gcW h kc f1 f2 dr cl tr se (nI g) (nI r) inf (nI ct)) _ := hP.sub [0, 1, 2, 3, 4, 5, 6] rfl
  have hKc : va_K (dC, dI) vwCl (gcT kc) s := hK.sub [0, 1, 2, 3, 4, 5] rfl
  refine va_calli (va_runV (As := []) (rest := [.int (nI i)]) ⟨hx, hb, hml, hown, hts⟩ (c_X0_wishCount l dC dI h kc f1 f2 dr cl tr se g r inf ct) (cwV 0 hts gX0_countVain_X0_wishCount rfl rfl rfl (by decide +kernel) ⟨Nat.le_of_ble_eq_true rfl, Nat.le_of_ble_eq_true rfl⟩) ⟨gcPR_blind, va_recv hK hP (ci := 0) (q0 := 0) rfl rfl, fun U hU hW => ⟨rfl, by rw [hU]; exact hPc, va_K.moved hW.alike hKc⟩⟩ rfl rfl hl.1 rfl (lv_room (Nat.le_of_ble_eq_true rfl)) dX0_countVain_6 ⟨Nat.zero_le _, Nat.zero_le _⟩) hS (fun q _ h => h.elim) (fun q h => h.elim) (fun r1 u t H locs ht hvm hw hB hz1 hk1 hS => ?_)
  have hP := gc_keep hP hk1
  have hw : r1 = nI (2 * g) := hw
  subst hw
  clear hw
  clear hB hz1 hk1 ht hvm
  clear hPc hKc
  refine lv_icmp_ge (tgt := 32) hx hb dX0_countVain_9 (by decide) (fun c_9 => ?_) (fun c_9 => ?_)
  · skip
    have hEi : i = 2 * g := gc_ge c_9 (by omega) (by omega)
    refine lv_iload_n hx hb dX0_countVain_32 rfl (lv_at hl 1 rfl) ?_
    have hpost : x = gCV cl (2 * g) := by rw [e_x, hEi]
    exact W.iret (v := x) hx hb hr (fun t ht hW => ⟨⟨x, (), rfl, hpost, trivial⟩, hS.F ht⟩) hS.2.2 dX0_countVain_33
  · skip
    have hLi : i < 2 * g := gc_lt c_9 (by omega) (by omega)
    refine lv_iload_n hx hb dX0_countVain_12 rfl (lv_at hl 1 rfl) ?_
    refine lv_aload_n hx hb dX0_countVain_13 rfl (lv_at hl 2 rfl) ?_
    refine va_get (D := (dC, dI)) (ci := 0) (v := .ref (h 4)) (C := RX0) (T := TX0) (N := 10) hx hb hts hin0 hown hK hP 0 rfl rfl 3 (by decide) (hts (.fieldLink RX0 19 "GuestChairs" "closed" "[I") (by decide +kernel)) (fun _ h9 => h9) rfl dX0_countVain_14 ?_
    refine lv_iload_n hx hb dX0_countVain_17 rfl (lv_at hl 0 rfl) ?_
    have hPc : va_P (dC, dI) vwCl ([((h 4), .inl ((kc 4), 20, .inl cl))]) _ := hP.sub [4] rfl
    have hKc : va_K (dC, dI) vwCl ([((kc 4), .int)]) s := hK.sub [3] rfl
    refine va_calli (va_runS (As := [.ref (h 4), .int (nI i)]) (rest := [.int x]) ⟨hx, hb, hml, hown, hts⟩ (c_X0_isVain l dC dI (h 4) (kc 4) 20 cl (nI i) (by decide)) (va_cwS 2 hts gX0_countVain_X0_isVain rfl rfl rfl (by decide +kernel) ⟨Nat.le_of_ble_eq_true rfl, Nat.le_of_ble_eq_true rfl⟩) ⟨gcPR_blind, fun U hU hW => ⟨rfl, by rw [hU]; exact hPc, va_K.moved hW.alike hKc⟩⟩ rfl rfl hl.1 rfl (lv_room (Nat.le_of_ble_eq_true rfl)) dX0_countVain_18 ⟨Nat.zero_le _, Nat.zero_le _⟩) hS (fun q _ h => h.elim) (fun q h => h.elim) (fun r2 u t H locs ht hvm hw hB hz1 hk1 hS => ?_)
    have hP := gc_keep hP hk1
    have hw : r2 = gB (gVain 20 cl (nI i)) := hw
    subst hw
    clear hw
    clear hB hz1 hk1 ht hvm
    clear hPc hKc
    refine va_calli (va_runS (As := [.int (gB (gVain 20 cl (nI i)))]) (rest := [.int x]) ⟨hx, hb, hml, hown, hts⟩ (c_X0_oneIf l (gVain 20 cl (nI i))) (va_cwS 1 hts gX0_countVain_X0_oneIf rfl rfl rfl (by decide +kernel) ⟨Nat.le_of_ble_eq_true rfl, Nat.le_of_ble_eq_true rfl⟩) ⟨fun a U g mk q => q, fun U hU hW => ⟨rfl, trivial⟩⟩ rfl rfl hl.1 rfl (lv_room (Nat.le_of_ble_eq_true rfl)) dX0_countVain_21 ⟨Nat.zero_le _, Nat.zero_le _⟩) hS (fun q _ h => h.elim) (fun q h => h.elim) (fun r3 u t H locs ht hvm hw hB hz1 hk1 hS => ?_)
    have hP := gc_keep hP hk1
    have hw : r3 = gB (gVain 20 cl (nI i)) := hw
    subst hw
    clear hw
    clear hB hz1 hk1 ht hvm
    refine lv_iadd hx hb dX0_countVain_24 ?_
    refine lv_istore_n (lv' := [(1, .int (x + gB (gVain 20 cl (nI i)))), (2, .int (nI i)), (0, .ref (h 0))]) hx hb dX0_countVain_25 rfl hl (by decide) rfl (fun ls hl => ?_)
    refine lv_iinc (v := nI (i + 1)) (lv' := [(2, .int (nI (i + 1))), (1, .int (x + gB (gVain 20 cl (nI i)))), (0, .ref (h 0))]) hx hb dX0_countVain_26 hl (k := 1) rfl (nI_1 i) (by decide) rfl (fun ls hl => ?_)
    refine lv_goto (tgt := 4) hx hb dX0_countVain_29 (by decide) ?_
    exact ihi H _ ls (by omega) ⟨(x + gB (gVain 20 cl (nI i))), (by rw [e_x]; rfl), hP, hS, lv_sub hl [0, 1, 2] rfl⟩
set_option maxHeartbeats 4000000 in
set_option maxRecDepth 100000 in
theorem c_X0_countPairs (l : Launch) (dC : Nat → ClassId) (dI : Nat → Nat → Nat) (h : Nat → Nat) (kc : Nat → ClassId) (f1 : Nat → Int32) (f2 : Nat → Int32) (dr : Nat → Int32) (cl : Nat → Int32) (tr : Nat → Int32) (se : Nat → Int32) (g : Nat) (r : Nat) (inf : Int32) (ct : Nat) (hg : g ≤ 10) : Met l yX0_countPairs wsX0_countPairs ({ frames := 1, cells := 0, slots := 0, locals := 21 }) (gcPR (dC, dI) [.ref (h 0)] (gcW h kc f1 f2 dr cl tr se (nI g) (nI r) inf (nI ct)) (gcT kc)) (va_Qi (fun (rv : Int32) (_u : Unit) => rv = gCP cl (2 * g)) (fun _ _ => True) (fun _ => False)) 0 0 (fun _ => False) := by
  refine Met.ofW (cc := cX0_countPairs) (maxL := 3) (ret := (some .int)) (by decide) rfl ?_
  intro p e s m args below meth c s₁ B hml hv
  obtain ⟨rfl, hP, hK⟩ := hv
  have hx := B.exec
  have hb := B.bytes
  have hr := B.returns
  have hts := atoms_spec (ws := wsX0_countPairs) B.pre
  have hown : s.vm.findClass RX0 = some m.cls := findClass_of_methodNamed B.named
  have hlocks := B.notSynchronized
  have hS : va_S (fun _ => False) s.heap s.heap [] := va_S.rf
  have hP : va_P (dC, dI) vwCl (gcW h kc f1 f2 dr cl tr se (nI g) (nI r) inf (nI ct)) s.heap := hP
  have hin0 : ∀ w ∈ wsX00, w ∈ wsX0_countPairs := by decide +kernel
  have hl := lv_entry [.ref (h 0)] (n := 3) (Nat.le_of_ble_eq_true rfl)
  rw [lg_entry_eq]
  generalize (lg_sl [.ref (h 0)] ++ List.replicate (3 - (lg_sl [.ref (h 0)]).length) Slot.unset).toArray = ls at hl ⊢
  have hl : lv_has ls 3 [(0, .ref (h 0))] := hl
  refine lv_iconst (v := 0) hx hb dX0_countPairs_0 (by decide) ?_
  refine lv_istore_n (lv' := [(1, .int 0), (0, .ref (h 0))]) hx hb dX0_countPairs_1 rfl hl (by decide) rfl (fun ls hl => ?_)
  refine lv_iconst (v := 0) hx hb dX0_countPairs_2 (by decide) ?_
  refine lv_istore_n (lv' := [(2, .int 0), (1, .int 0), (0, .ref (h 0))]) hx hb dX0_countPairs_3 rfl hl (by decide) rfl (fun ls hl => ?_)
  refine gc_loop (2 * g) (fun (i : Nat) (H : Heap) (locs : List Loc) (ls : Array Slot) => ∃ (x : Int32), x = gCP cl i ∧ va_P (dC, dI) vwCl (gcW h kc f1 f2 dr cl tr se (nI g) (nI r) inf (nI ct)) H ∧ va_S (fun _ => False) s.heap H locs ∧ lv_has ls 3 [(2, .int (nI i)), (1, .int x), (0, .ref (h 0))]) 0 (Nat.zero_le _) ⟨0, (by first | rfl | assumption | omega), hP, hS, lv_sub hl [0, 1, 2] rfl⟩ ?_
  intro i H locs ls hi hI ihi
  obtain ⟨x, e_x, hP, hS, hl⟩ := hI
  refine lv_iload_n hx hb dX0_countPairs_4 rfl (lv_at hl 0 rfl) ?_
  refine lv_aload_n hx hb dX0_countPairs_5 rfl (lv_at hl 2 rfl) ?_
  have hPc : va_P (dC, dI) vwCl (gcW h kc f1 f2 dr cl tr se (nI g) (nI r) inf (nI ct)) _ := hP.sub [0, 1, 2, 3, 4, 5, 6] rfl
  have hKc : va_K (dC, dI) vwCl (gcT kc) s := hK.sub [0, 1, 2, 3, 4, 5] rfl
  refine va_calli (va_runV (As := []) (rest := [.int (nI i)]) ⟨hx, hb, hml, hown, hts⟩ (c_X0_wishCount l dC dI h kc f1 f2 dr cl tr se g r inf ct) (cwV 0 hts gX0_countPairs_X0_wishCount rfl rfl rfl (by decide +kernel) ⟨Nat.le_of_ble_eq_true rfl, Nat.le_of_ble_eq_true rfl⟩) ⟨gcPR_blind, va_recv hK hP (ci := 0) (q0 := 0) rfl rfl, fun U hU hW => ⟨rfl, by rw [hU]; exact hPc, va_K.moved hW.alike hKc⟩⟩ rfl rfl hl.1 rfl (lv_room (Nat.le_of_ble_eq_true rfl)) dX0_countPairs_6 ⟨Nat.zero_le _, Nat.zero_le _⟩) hS (fun q _ h => h.elim) (fun q h => h.elim) (fun r1 u t H locs ht hvm hw hB hz1 hk1 hS => ?_)
  have hP := gc_keep hP hk1
  have hw : r1 = nI (2 * g) := hw
  subst hw
  clear hw
  clear hB hz1 hk1 ht hvm
  clear hPc hKc
  refine lv_icmp_ge (tgt := 34) hx hb dX0_countPairs_9 (by decide) (fun c_9 => ?_) (fun c_9 => ?_)
  · skip
    have hEi : i = 2 * g := gc_ge c_9 (by omega) (by omega)
    refine lv_iload_n hx hb dX0_countPairs_34 rfl (lv_at hl 1 rfl) ?_
    have hpost : x = gCP cl (2 * g) := by rw [e_x, hEi]
    exact W.iret (v := x) hx hb hr (fun t ht hW => ⟨⟨x, (), rfl, hpost, trivial⟩, hS.F ht⟩) hS.2.2 dX0_countPairs_35
  · skip
    have hLi : i < 2 * g := gc_lt c_9 (by omega) (by omega)
    refine lv_iload_n hx hb dX0_countPairs_12 rfl (lv_at hl 1 rfl) ?_
    refine lv_aload_n hx hb dX0_countPairs_13 rfl (lv_at hl 2 rfl) ?_
    refine va_get (D := (dC, dI)) (ci := 0) (v := .ref (h 4)) (C := RX0) (T := TX0) (N := 10) hx hb hts hin0 hown hK hP 0 rfl rfl 3 (by decide) (hts (.fieldLink RX0 19 "GuestChairs" "closed" "[I") (by decide +kernel)) (fun _ h9 => h9) rfl dX0_countPairs_14 ?_
    refine lv_iload_n hx hb dX0_countPairs_17 rfl (lv_at hl 0 rfl) ?_
    have hPc : va_P (dC, dI) vwCl ([((h 4), .inl ((kc 4), 20, .inl cl))]) _ := hP.sub [4] rfl
    have hKc : va_K (dC, dI) vwCl ([((kc 4), .int)]) s := hK.sub [3] rfl
    refine va_calli (va_runS (As := [.ref (h 4), .int (nI i)]) (rest := [.int x]) ⟨hx, hb, hml, hown, hts⟩ (c_X0_at l dC dI (h 4) (kc 4) 20 cl (nI i) (by decide)) (va_cwS 2 hts gX0_countPairs_X0_at rfl rfl rfl (by decide +kernel) ⟨Nat.le_of_ble_eq_true rfl, Nat.le_of_ble_eq_true rfl⟩) ⟨gcPR_blind, fun U hU hW => ⟨rfl, by rw [hU]; exact hPc, va_K.moved hW.alike hKc⟩⟩ rfl rfl hl.1 rfl (lv_room (Nat.le_of_ble_eq_true rfl)) dX0_countPairs_18 ⟨Nat.zero_le _, Nat.zero_le _⟩) hS (fun q _ h => h.elim) (fun q h => h.elim) (fun r2 u t H locs ht hvm hw hB hz1 hk1 hS => ?_)
    have hP := gc_keep hP hk1
    have hw : r2 = gAt 20 cl (nI i) := hw
    subst hw
    clear hw
    clear hB hz1 hk1 ht hvm
    clear hPc hKc
    refine va_calli (va_runS (As := [.int (gAt 20 cl (nI i))]) (rest := [.int x]) ⟨hx, hb, hml, hown, hts⟩ (c_J6_bitCount_0f7a4 l (gAt 20 cl (nI i))) (va_cwS 1 hts gX0_countPairs_J6_bitCount_0f7a4 rfl rfl rfl (by decide +kernel) ⟨Nat.le_of_ble_eq_true rfl, Nat.le_of_ble_eq_true rfl⟩) ⟨fun a U g mk q => q, fun U hU hW => ⟨rfl, trivial⟩⟩ rfl rfl hl.1 rfl (lv_room (Nat.le_of_ble_eq_true rfl)) dX0_countPairs_21 ⟨Nat.zero_le _, Nat.zero_le _⟩) hS (fun q _ h => h.elim) (fun q h => h.elim) (fun r3 u t H locs ht hvm hw hB hz1 hk1 hS => ?_)
    have hP := gc_keep hP hk1
    have hw : r3 = gBC (gAt 20 cl (nI i)) := hw
    subst hw
    clear hw
    clear hB hz1 hk1 ht hvm
    refine lv_iconst (v := 1) hx hb dX0_countPairs_24 (by decide) ?_
    refine lv_isub hx hb dX0_countPairs_25 ?_
    refine lv_iadd hx hb dX0_countPairs_26 ?_
    refine lv_istore_n (lv' := [(1, .int (x + (gBC (gAt 20 cl (nI i)) - 1))), (2, .int (nI i)), (0, .ref (h 0))]) hx hb dX0_countPairs_27 rfl hl (by decide) rfl (fun ls hl => ?_)
    refine lv_iinc (v := nI (i + 1)) (lv' := [(2, .int (nI (i + 1))), (1, .int (x + (gBC (gAt 20 cl (nI i)) - 1))), (0, .ref (h 0))]) hx hb dX0_countPairs_28 hl (k := 1) rfl (nI_1 i) (by decide) rfl (fun ls hl => ?_)
    refine lv_goto (tgt := 4) hx hb dX0_countPairs_31 (by decide) ?_
    exact ihi H _ ls (by omega) ⟨(x + (gBC (gAt 20 cl (nI i)) - 1)), (by rw [e_x]; rfl), hP, hS, lv_sub hl [0, 1, 2] rfl⟩
set_option maxHeartbeats 4000000 in
set_option maxRecDepth 100000 in
theorem c_X0_oneStepOn (l : Launch) (dC : Nat → ClassId) (dI : Nat → Nat → Nat) (h : Nat → Nat) (kc : Nat → ClassId) (f1 : Nat → Int32) (f2 : Nat → Int32) (dr : Nat → Int32) (cl : Nat → Int32) (tr : Nat → Int32) (se : Nat → Int32) (g : Nat) (r : Nat) (inf : Int32) (ct : Nat) (w : Int32) (hg : g ≤ 10) : Met l yX0_oneStepOn wsX0_oneStepOn ({ frames := 1, cells := 0, slots := 0, locals := 21 }) (gcPR (dC, dI) [.ref (h 0), .int w] (gcW h kc f1 f2 dr cl tr se (nI g) (nI r) inf (nI ct)) (gcT kc)) (va_Qi (fun (rv : Int32) (_u : Unit) => rv = gOS dr w (2 * g)) (fun _ _ => True) (fun _ => False)) 0 0 (fun _ => False) := by
  refine Met.ofW (cc := cX0_oneStepOn) (maxL := 4) (ret := (some .int)) (by decide) rfl ?_
  intro p e s m args below meth c s₁ B hml hv
  obtain ⟨rfl, hP, hK⟩ := hv
  have hx := B.exec
  have hb := B.bytes
  have hr := B.returns
  have hts := atoms_spec (ws := wsX0_oneStepOn) B.pre
  have hown : s.vm.findClass RX0 = some m.cls := findClass_of_methodNamed B.named
  have hlocks := B.notSynchronized
  have hS : va_S (fun _ => False) s.heap s.heap [] := va_S.rf
  have hP : va_P (dC, dI) vwCl (gcW h kc f1 f2 dr cl tr se (nI g) (nI r) inf (nI ct)) s.heap := hP
  have hin0 : ∀ w ∈ wsX00, w ∈ wsX0_oneStepOn := by decide +kernel
  have hl := lv_entry [.ref (h 0), .int w] (n := 4) (Nat.le_of_ble_eq_true rfl)
  rw [lg_entry_eq]
  generalize (lg_sl [.ref (h 0), .int w] ++ List.replicate (4 - (lg_sl [.ref (h 0), .int w]).length) Slot.unset).toArray = ls at hl ⊢
  have hl : lv_has ls 4 [(0, .ref (h 0)), (1, .int w)] := hl
  refine lv_iload_n hx hb dX0_oneStepOn_0 rfl (lv_at hl 1 rfl) ?_
  refine lv_istore_n (lv' := [(2, .int w), (0, .ref (h 0)), (1, .int w)]) hx hb dX0_oneStepOn_1 rfl hl (by decide) rfl (fun ls hl => ?_)
  refine lv_iconst (v := 0) hx hb dX0_oneStepOn_2 (by decide) ?_
  refine lv_istore_n (lv' := [(3, .int 0), (2, .int w), (0, .ref (h 0)), (1, .int w)]) hx hb dX0_oneStepOn_3 rfl hl (by decide) rfl (fun ls hl => ?_)
  refine gc_loop (2 * g) (fun (i : Nat) (H : Heap) (locs : List Loc) (ls : Array Slot) => ∃ (x : Int32), x = gOS dr w i ∧ va_P (dC, dI) vwCl (gcW h kc f1 f2 dr cl tr se (nI g) (nI r) inf (nI ct)) H ∧ va_S (fun _ => False) s.heap H locs ∧ lv_has ls 4 [(3, .int (nI i)), (2, .int x), (0, .ref (h 0)), (1, .int w)]) 0 (Nat.zero_le _) ⟨w, (by first | rfl | assumption | omega), hP, hS, lv_sub hl [0, 1, 2, 3] rfl⟩ ?_
  intro i H locs ls hi hI ihi
  obtain ⟨x, e_x, hP, hS, hl⟩ := hI
  refine lv_iload_n hx hb dX0_oneStepOn_4 rfl (lv_at hl 0 rfl) ?_
  refine lv_aload_n hx hb dX0_oneStepOn_5 rfl (lv_at hl 2 rfl) ?_
  have hPc : va_P (dC, dI) vwCl (gcW h kc f1 f2 dr cl tr se (nI g) (nI r) inf (nI ct)) _ := hP.sub [0, 1, 2, 3, 4, 5, 6] rfl
  have hKc : va_K (dC, dI) vwCl (gcT kc) s := hK.sub [0, 1, 2, 3, 4, 5] rfl
  refine va_calli (va_runV (As := []) (rest := [.int (nI i)]) ⟨hx, hb, hml, hown, hts⟩ (c_X0_wishCount l dC dI h kc f1 f2 dr cl tr se g r inf ct) (cwV 0 hts gX0_oneStepOn_X0_wishCount rfl rfl rfl (by decide +kernel) ⟨Nat.le_of_ble_eq_true rfl, Nat.le_of_ble_eq_true rfl⟩) ⟨gcPR_blind, va_recv hK hP (ci := 0) (q0 := 0) rfl rfl, fun U hU hW => ⟨rfl, by rw [hU]; exact hPc, va_K.moved hW.alike hKc⟩⟩ rfl rfl hl.1 rfl (lv_room (Nat.le_of_ble_eq_true rfl)) dX0_oneStepOn_6 ⟨Nat.zero_le _, Nat.zero_le _⟩) hS (fun q _ h => h.elim) (fun q h => h.elim) (fun r1 u t H locs ht hvm hw hB hz1 hk1 hS => ?_)
  have hP := gc_keep hP hk1
  have hw : r1 = nI (2 * g) := hw
  subst hw
  clear hw
  clear hB hz1 hk1 ht hvm
  clear hPc hKc
  refine lv_icmp_ge (tgt := 37) hx hb dX0_oneStepOn_9 (by decide) (fun c_9 => ?_) (fun c_9 => ?_)
  · skip
    have hEi : i = 2 * g := gc_ge c_9 (by omega) (by omega)
    refine lv_iload_n hx hb dX0_oneStepOn_37 rfl (lv_at hl 1 rfl) ?_
    have hpost : x = gOS dr w (2 * g) := by rw [e_x, hEi]
    exact W.iret (v := x) hx hb hr (fun t ht hW => ⟨⟨x, (), rfl, hpost, trivial⟩, hS.F ht⟩) hS.2.2 dX0_oneStepOn_38
  · skip
    have hLi : i < 2 * g := gc_lt c_9 (by omega) (by omega)
    refine lv_iload_n hx hb dX0_oneStepOn_12 rfl (lv_at hl 3 rfl) ?_
    refine lv_iload_n hx hb dX0_oneStepOn_13 rfl (lv_at hl 0 rfl) ?_
    refine va_calli (va_runS (As := [.int w, .int (nI i)]) (rest := []) ⟨hx, hb, hml, hown, hts⟩ (c_X0_has l w (nI i)) (va_cwS 2 hts gX0_oneStepOn_X0_has rfl rfl rfl (by decide +kernel) ⟨Nat.le_of_ble_eq_true rfl, Nat.le_of_ble_eq_true rfl⟩) ⟨fun a U g mk q => q, fun U hU hW => ⟨rfl, trivial⟩⟩ rfl rfl hl.1 rfl (lv_room (Nat.le_of_ble_eq_true rfl)) dX0_oneStepOn_14 ⟨Nat.zero_le _, Nat.zero_le _⟩) hS (fun q _ h => h.elim) (fun q h => h.elim) (fun r2 u t H locs ht hvm hw hB hz1 hk1 hS => ?_)
    have hP := gc_keep hP hk1
    have hw : r2 = gB (gHas w (nI i)) := hw
    subst hw
    clear hw
    clear hB hz1 hk1 ht hvm
    refine lv_if_eq (tgt := 31) hx hb dX0_oneStepOn_17 (by decide) (fun c_17 => ?_) (fun c_17 => ?_)
    · skip
      have c_17 := gB_f c_17
      refine lv_iinc (v := nI (i + 1)) (lv' := [(3, .int (nI (i + 1))), (2, .int x), (0, .ref (h 0)), (1, .int w)]) hx hb dX0_oneStepOn_31 hl (k := 0) rfl (nI_1 i) (by decide) rfl (fun ls hl => ?_)
      refine lv_goto (tgt := 4) hx hb dX0_oneStepOn_34 (by decide) ?_
      exact ihi H _ ls (by omega) ⟨x, (by simp only [gOS, ← e_x]; simp [gOS, c_17]), hP, hS, lv_sub hl [0, 1, 2, 3] rfl⟩
    · skip
      have c_17 := gB_t c_17
      refine lv_iload_n hx hb dX0_oneStepOn_20 rfl (lv_at hl 1 rfl) ?_
      refine lv_aload_n hx hb dX0_oneStepOn_21 rfl (lv_at hl 2 rfl) ?_
      refine va_get (D := (dC, dI)) (ci := 0) (v := .ref (h 3)) (C := RX0) (T := TX0) (N := 10) hx hb hts hin0 hown hK hP 0 rfl rfl 2 (by decide) (hts (.fieldLink RX0 16 "GuestChairs" "direct" "[I") (by decide +kernel)) (fun _ h9 => h9) rfl dX0_oneStepOn_22 ?_
      refine lv_iload_n hx hb dX0_oneStepOn_25 rfl (lv_at hl 0 rfl) ?_
      have hPc : va_P (dC, dI) vwCl ([((h 3), .inl ((kc 3), 20, .inl dr))]) _ := hP.sub [3] rfl
      have hKc : va_K (dC, dI) vwCl ([((kc 3), .int)]) s := hK.sub [2] rfl
      refine va_calli (va_runS (As := [.ref (h 3), .int (nI i)]) (rest := [.int x]) ⟨hx, hb, hml, hown, hts⟩ (c_X0_at l dC dI (h 3) (kc 3) 20 dr (nI i) (by decide)) (va_cwS 2 hts gX0_oneStepOn_X0_at rfl rfl rfl (by decide +kernel) ⟨Nat.le_of_ble_eq_true rfl, Nat.le_of_ble_eq_true rfl⟩) ⟨gcPR_blind, fun U hU hW => ⟨rfl, by rw [hU]; exact hPc, va_K.moved hW.alike hKc⟩⟩ rfl rfl hl.1 rfl (lv_room (Nat.le_of_ble_eq_true rfl)) dX0_oneStepOn_26 ⟨Nat.zero_le _, Nat.zero_le _⟩) hS (fun q _ h => h.elim) (fun q h => h.elim) (fun r3 u t H locs ht hvm hw hB hz1 hk1 hS => ?_)
      have hP := gc_keep hP hk1
      have hw : r3 = gAt 20 dr (nI i) := hw
      subst hw
      clear hw
      clear hB hz1 hk1 ht hvm
      clear hPc hKc
      refine lv_ior hx hb dX0_oneStepOn_29 ?_
      refine lv_istore_n (lv' := [(2, .int (x ||| gAt 20 dr (nI i))), (3, .int (nI i)), (0, .ref (h 0)), (1, .int w)]) hx hb dX0_oneStepOn_30 rfl hl (by decide) rfl (fun ls hl => ?_)
      refine lv_iinc (v := nI (i + 1)) (lv' := [(3, .int (nI (i + 1))), (2, .int (x ||| gAt 20 dr (nI i))), (0, .ref (h 0)), (1, .int w)]) hx hb dX0_oneStepOn_31 hl (k := 1) rfl (nI_1 i) (by decide) rfl (fun ls hl => ?_)
      refine lv_goto (tgt := 4) hx hb dX0_oneStepOn_34 (by decide) ?_
      exact ihi H _ ls (by omega) ⟨(x ||| gAt 20 dr (nI i)), (by simp only [gOS, ← e_x]; simp [gOS, c_17]), hP, hS, lv_sub hl [0, 1, 2, 3] rfl⟩
set_option maxHeartbeats 4000000 in
set_option maxRecDepth 100000 in
theorem c_X0_guestsBoundTo (l : Launch) (dC : Nat → ClassId) (dI : Nat → Nat → Nat) (h : Nat → Nat) (kc : Nat → ClassId) (f1 : Nat → Int32) (f2 : Nat → Int32) (dr : Nat → Int32) (cl : Nat → Int32) (tr : Nat → Int32) (se : Nat → Int32) (g : Nat) (r : Nat) (inf : Int32) (ct : Nat) (w : Int32) (hg : g ≤ 10) : Met l yX0_guestsBoundTo wsX0_guestsBoundTo ({ frames := 1, cells := 0, slots := 0, locals := 21 }) (gcPR (dC, dI) [.ref (h 0), .int w] (gcW h kc f1 f2 dr cl tr se (nI g) (nI r) inf (nI ct)) (gcT kc)) (va_Qi (fun (rv : Int32) (_u : Unit) => rv = gGB cl w (2 * g)) (fun _ _ => True) (fun _ => False)) 0 0 (fun _ => False) := by
  refine Met.ofW (cc := cX0_guestsBoundTo) (maxL := 4) (ret := (some .int)) (by decide) rfl ?_
  intro p e s m args below meth c s₁ B hml hv
  obtain ⟨rfl, hP, hK⟩ := hv
  have hx := B.exec
  have hb := B.bytes
  have hr := B.returns
  have hts := atoms_spec (ws := wsX0_guestsBoundTo) B.pre
  have hown : s.vm.findClass RX0 = some m.cls := findClass_of_methodNamed B.named
  have hlocks := B.notSynchronized
  have hS : va_S (fun _ => False) s.heap s.heap [] := va_S.rf
  have hP : va_P (dC, dI) vwCl (gcW h kc f1 f2 dr cl tr se (nI g) (nI r) inf (nI ct)) s.heap := hP
  have hin0 : ∀ w ∈ wsX00, w ∈ wsX0_guestsBoundTo := by decide +kernel
  have hl := lv_entry [.ref (h 0), .int w] (n := 4) (Nat.le_of_ble_eq_true rfl)
  rw [lg_entry_eq]
  generalize (lg_sl [.ref (h 0), .int w] ++ List.replicate (4 - (lg_sl [.ref (h 0), .int w]).length) Slot.unset).toArray = ls at hl ⊢
  have hl : lv_has ls 4 [(0, .ref (h 0)), (1, .int w)] := hl
  refine lv_iconst (v := 0) hx hb dX0_guestsBoundTo_0 (by decide) ?_
  refine lv_istore_n (lv' := [(2, .int 0), (0, .ref (h 0)), (1, .int w)]) hx hb dX0_guestsBoundTo_1 rfl hl (by decide) rfl (fun ls hl => ?_)
  refine lv_iconst (v := 0) hx hb dX0_guestsBoundTo_2 (by decide) ?_
  refine lv_istore_n (lv' := [(3, .int 0), (2, .int 0), (0, .ref (h 0)), (1, .int w)]) hx hb dX0_guestsBoundTo_3 rfl hl (by decide) rfl (fun ls hl => ?_)
  refine gc_loop (2 * g) (fun (i : Nat) (H : Heap) (locs : List Loc) (ls : Array Slot) => ∃ (x : Int32), x = gGB cl w i ∧ va_P (dC, dI) vwCl (gcW h kc f1 f2 dr cl tr se (nI g) (nI r) inf (nI ct)) H ∧ va_S (fun _ => False) s.heap H locs ∧ lv_has ls 4 [(3, .int (nI i)), (2, .int x), (0, .ref (h 0)), (1, .int w)]) 0 (Nat.zero_le _) ⟨0, (by first | rfl | assumption | omega), hP, hS, lv_sub hl [0, 1, 2, 3] rfl⟩ ?_
  intro i H locs ls hi hI ihi
  obtain ⟨x, e_x, hP, hS, hl⟩ := hI
  refine lv_iload_n hx hb dX0_guestsBoundTo_4 rfl (lv_at hl 0 rfl) ?_
  refine lv_aload_n hx hb dX0_guestsBoundTo_5 rfl (lv_at hl 2 rfl) ?_
  have hPc : va_P (dC, dI) vwCl (gcW h kc f1 f2 dr cl tr se (nI g) (nI r) inf (nI ct)) _ := hP.sub [0, 1, 2, 3, 4, 5, 6] rfl
  have hKc : va_K (dC, dI) vwCl (gcT kc) s := hK.sub [0, 1, 2, 3, 4, 5] rfl
  refine va_calli (va_runV (As := []) (rest := [.int (nI i)]) ⟨hx, hb, hml, hown, hts⟩ (c_X0_wishCount l dC dI h kc f1 f2 dr cl tr se g r inf ct) (cwV 0 hts gX0_guestsBoundTo_X0_wishCount rfl rfl rfl (by decide +kernel) ⟨Nat.le_of_ble_eq_true rfl, Nat.le_of_ble_eq_true rfl⟩) ⟨gcPR_blind, va_recv hK hP (ci := 0) (q0 := 0) rfl rfl, fun U hU hW => ⟨rfl, by rw [hU]; exact hPc, va_K.moved hW.alike hKc⟩⟩ rfl rfl hl.1 rfl (lv_room (Nat.le_of_ble_eq_true rfl)) dX0_guestsBoundTo_6 ⟨Nat.zero_le _, Nat.zero_le _⟩) hS (fun q _ h => h.elim) (fun q h => h.elim) (fun r1 u t H locs ht hvm hw hB hz1 hk1 hS => ?_)
  have hP := gc_keep hP hk1
  have hw : r1 = nI (2 * g) := hw
  subst hw
  clear hw
  clear hB hz1 hk1 ht hvm
  clear hPc hKc
  refine lv_icmp_ge (tgt := 56) hx hb dX0_guestsBoundTo_9 (by decide) (fun c_9 => ?_) (fun c_9 => ?_)
  · skip
    have hEi : i = 2 * g := gc_ge c_9 (by omega) (by omega)
    refine lv_iload_n hx hb dX0_guestsBoundTo_56 rfl (lv_at hl 1 rfl) ?_
    have hpost : x = gGB cl w (2 * g) := by rw [e_x, hEi]
    exact W.iret (v := x) hx hb hr (fun t ht hW => ⟨⟨x, (), rfl, hpost, trivial⟩, hS.F ht⟩) hS.2.2 dX0_guestsBoundTo_57
  · skip
    have hLi : i < 2 * g := gc_lt c_9 (by omega) (by omega)
    refine lv_aload_n hx hb dX0_guestsBoundTo_12 rfl (lv_at hl 2 rfl) ?_
    refine va_get (D := (dC, dI)) (ci := 0) (v := .ref (h 4)) (C := RX0) (T := TX0) (N := 10) hx hb hts hin0 hown hK hP 0 rfl rfl 3 (by decide) (hts (.fieldLink RX0 19 "GuestChairs" "closed" "[I") (by decide +kernel)) (fun _ h9 => h9) rfl dX0_guestsBoundTo_13 ?_
    refine lv_iload_n hx hb dX0_guestsBoundTo_16 rfl (lv_at hl 3 rfl) ?_
    have hPc : va_P (dC, dI) vwCl ([((h 4), .inl ((kc 4), 20, .inl cl))]) _ := hP.sub [4] rfl
    have hKc : va_K (dC, dI) vwCl ([((kc 4), .int)]) s := hK.sub [3] rfl
    refine va_calli (va_runS (As := [.ref (h 4), .int w]) (rest := []) ⟨hx, hb, hml, hown, hts⟩ (c_X0_at l dC dI (h 4) (kc 4) 20 cl w (by decide)) (va_cwS 2 hts gX0_guestsBoundTo_X0_at rfl rfl rfl (by decide +kernel) ⟨Nat.le_of_ble_eq_true rfl, Nat.le_of_ble_eq_true rfl⟩) ⟨gcPR_blind, fun U hU hW => ⟨rfl, by rw [hU]; exact hPc, va_K.moved hW.alike hKc⟩⟩ rfl rfl hl.1 rfl (lv_room (Nat.le_of_ble_eq_true rfl)) dX0_guestsBoundTo_17 ⟨Nat.zero_le _, Nat.zero_le _⟩) hS (fun q _ h => h.elim) (fun q h => h.elim) (fun r2 u t H locs ht hvm hw hB hz1 hk1 hS => ?_)
    have hP := gc_keep hP hk1
    have hw : r2 = gAt 20 cl w := hw
    subst hw
    clear hw
    clear hB hz1 hk1 ht hvm
    clear hPc hKc
    refine lv_iload_n hx hb dX0_guestsBoundTo_20 rfl (lv_at hl 0 rfl) ?_
    refine va_calli (va_runS (As := [.int (gAt 20 cl w), .int (nI i)]) (rest := []) ⟨hx, hb, hml, hown, hts⟩ (c_X0_has l (gAt 20 cl w) (nI i)) (va_cwS 2 hts gX0_guestsBoundTo_X0_has rfl rfl rfl (by decide +kernel) ⟨Nat.le_of_ble_eq_true rfl, Nat.le_of_ble_eq_true rfl⟩) ⟨fun a U g mk q => q, fun U hU hW => ⟨rfl, trivial⟩⟩ rfl rfl hl.1 rfl (lv_room (Nat.le_of_ble_eq_true rfl)) dX0_guestsBoundTo_21 ⟨Nat.zero_le _, Nat.zero_le _⟩) hS (fun q _ h => h.elim) (fun q h => h.elim) (fun r3 u t H locs ht hvm hw hB hz1 hk1 hS => ?_)
    have hP := gc_keep hP hk1
    have hw : r3 = gB (gHas (gAt 20 cl w) (nI i)) := hw
    subst hw
    clear hw
    clear hB hz1 hk1 ht hvm
    refine lv_if_eq (tgt := 50) hx hb dX0_guestsBoundTo_24 (by decide) (fun c_24 => ?_) (fun c_24 => ?_)
    · skip
      have c_24 := gB_f c_24
      refine lv_iinc (v := nI (i + 1)) (lv' := [(3, .int (nI (i + 1))), (2, .int x), (0, .ref (h 0)), (1, .int w)]) hx hb dX0_guestsBoundTo_50 hl (k := 0) rfl (nI_1 i) (by decide) rfl (fun ls hl => ?_)
      refine lv_goto (tgt := 4) hx hb dX0_guestsBoundTo_53 (by decide) ?_
      exact ihi H _ ls (by omega) ⟨x, (by simp only [gGB, ← e_x]; simp [gGB, c_24]), hP, hS, lv_sub hl [0, 1, 2, 3] rfl⟩
    · skip
      have c_24 := gB_t c_24
      refine lv_aload_n hx hb dX0_guestsBoundTo_27 rfl (lv_at hl 2 rfl) ?_
      refine va_get (D := (dC, dI)) (ci := 0) (v := .ref (h 4)) (C := RX0) (T := TX0) (N := 10) hx hb hts hin0 hown hK hP 0 rfl rfl 3 (by decide) (hts (.fieldLink RX0 19 "GuestChairs" "closed" "[I") (by decide +kernel)) (fun _ h9 => h9) rfl dX0_guestsBoundTo_28 ?_
      refine lv_iload_n hx hb dX0_guestsBoundTo_31 rfl (lv_at hl 0 rfl) ?_
      have hPc : va_P (dC, dI) vwCl ([((h 4), .inl ((kc 4), 20, .inl cl))]) _ := hP.sub [4] rfl
      have hKc : va_K (dC, dI) vwCl ([((kc 4), .int)]) s := hK.sub [3] rfl
      refine va_calli (va_runS (As := [.ref (h 4), .int (nI i)]) (rest := []) ⟨hx, hb, hml, hown, hts⟩ (c_X0_at l dC dI (h 4) (kc 4) 20 cl (nI i) (by decide)) (va_cwS 2 hts gX0_guestsBoundTo_X0_at rfl rfl rfl (by decide +kernel) ⟨Nat.le_of_ble_eq_true rfl, Nat.le_of_ble_eq_true rfl⟩) ⟨gcPR_blind, fun U hU hW => ⟨rfl, by rw [hU]; exact hPc, va_K.moved hW.alike hKc⟩⟩ rfl rfl hl.1 rfl (lv_room (Nat.le_of_ble_eq_true rfl)) dX0_guestsBoundTo_32 ⟨Nat.zero_le _, Nat.zero_le _⟩) hS (fun q _ h => h.elim) (fun q h => h.elim) (fun r4 u t H locs ht hvm hw hB hz1 hk1 hS => ?_)
      have hP := gc_keep hP hk1
      have hw : r4 = gAt 20 cl (nI i) := hw
      subst hw
      clear hw
      clear hB hz1 hk1 ht hvm
      clear hPc hKc
      refine lv_iload_n hx hb dX0_guestsBoundTo_35 rfl (lv_at hl 3 rfl) ?_
      refine va_calli (va_runS (As := [.int (gAt 20 cl (nI i)), .int w]) (rest := []) ⟨hx, hb, hml, hown, hts⟩ (c_X0_has l (gAt 20 cl (nI i)) w) (va_cwS 2 hts gX0_guestsBoundTo_X0_has rfl rfl rfl (by decide +kernel) ⟨Nat.le_of_ble_eq_true rfl, Nat.le_of_ble_eq_true rfl⟩) ⟨fun a U g mk q => q, fun U hU hW => ⟨rfl, trivial⟩⟩ rfl rfl hl.1 rfl (lv_room (Nat.le_of_ble_eq_true rfl)) dX0_guestsBoundTo_36 ⟨Nat.zero_le _, Nat.zero_le _⟩) hS (fun q _ h => h.elim) (fun q h => h.elim) (fun r5 u t H locs ht hvm hw hB hz1 hk1 hS => ?_)
      have hP := gc_keep hP hk1
      have hw : r5 = gB (gHas (gAt 20 cl (nI i)) w) := hw
      subst hw
      clear hw
      clear hB hz1 hk1 ht hvm
      refine lv_if_eq (tgt := 50) hx hb dX0_guestsBoundTo_39 (by decide) (fun c_39 => ?_) (fun c_39 => ?_)
      · skip
        have c_39 := gB_f c_39
        refine lv_iinc (v := nI (i + 1)) (lv' := [(3, .int (nI (i + 1))), (2, .int x), (0, .ref (h 0)), (1, .int w)]) hx hb dX0_guestsBoundTo_50 hl (k := 0) rfl (nI_1 i) (by decide) rfl (fun ls hl => ?_)
        refine lv_goto (tgt := 4) hx hb dX0_guestsBoundTo_53 (by decide) ?_
        exact ihi H _ ls (by omega) ⟨x, (by simp only [gGB, ← e_x]; simp [gGB, c_24, c_39]), hP, hS, lv_sub hl [0, 1, 2, 3] rfl⟩
      · skip
        have c_39 := gB_t c_39
        refine lv_iload_n hx hb dX0_guestsBoundTo_42 rfl (lv_at hl 1 rfl) ?_
        refine lv_iconst (v := 1) hx hb dX0_guestsBoundTo_43 (by decide) ?_
        refine lv_iload_n hx hb dX0_guestsBoundTo_44 rfl (lv_at hl 0 rfl) ?_
        refine lv_iconst (v := 1) hx hb dX0_guestsBoundTo_45 (by decide) ?_
        refine lv_ishr hx hb dX0_guestsBoundTo_46 ?_
        refine lv_ishl hx hb dX0_guestsBoundTo_47 ?_
        refine lv_ior hx hb dX0_guestsBoundTo_48 ?_
        refine lv_istore_n (lv' := [(2, .int (x ||| ((1 : Int32) <<< ((nI i >>> (1 &&& 31)) &&& 31)))), (3, .int (nI i)), (0, .ref (h 0)), (1, .int w)]) hx hb dX0_guestsBoundTo_49 rfl hl (by decide) rfl (fun ls hl => ?_)
        refine lv_iinc (v := nI (i + 1)) (lv' := [(3, .int (nI (i + 1))), (2, .int (x ||| ((1 : Int32) <<< ((nI i >>> (1 &&& 31)) &&& 31)))), (0, .ref (h 0)), (1, .int w)]) hx hb dX0_guestsBoundTo_50 hl (k := 1) rfl (nI_1 i) (by decide) rfl (fun ls hl => ?_)
        refine lv_goto (tgt := 4) hx hb dX0_guestsBoundTo_53 (by decide) ?_
        exact ihi H _ ls (by omega) ⟨(x ||| ((1 : Int32) <<< ((nI i >>> (1 &&& 31)) &&& 31))), (by simp only [gGB, ← e_x]; simp [gGB, c_24, c_39]), hP, hS, lv_sub hl [0, 1, 2, 3] rfl⟩
set_option maxHeartbeats 4000000 in
set_option maxRecDepth 100000 in
theorem c_X0_guestsComing (l : Launch) (dC : Nat → ClassId) (dI : Nat → Nat → Nat) (h : Nat → Nat) (kc : Nat → ClassId) (f1 : Nat → Int32) (f2 : Nat → Int32) (dr : Nat → Int32) (cl : Nat → Int32) (tr : Nat → Int32) (se : Nat → Int32) (g : Nat) (r : Nat) (inf : Int32) (ct : Nat) (w : Int32) (hg : g ≤ 10) : Met l yX0_guestsComing wsX0_guestsComing ({ frames := 1, cells := 0, slots := 0, locals := 21 }) (gcPR (dC, dI) [.ref (h 0), .int w] (gcW h kc f1 f2 dr cl tr se (nI g) (nI r) inf (nI ct)) (gcT kc)) (va_Qi (fun (rv : Int32) (_u : Unit) => rv = gGC w g) (fun _ _ => True) (fun _ => False)) 0 0 (fun _ => False) := by
  refine Met.ofW (cc := cX0_guestsComing) (maxL := 4) (ret := (some .int)) (by decide) rfl ?_
  intro p e s m args below meth c s₁ B hml hv
  obtain ⟨rfl, hP, hK⟩ := hv
  have hx := B.exec
  have hb := B.bytes
  have hr := B.returns
  have hts := atoms_spec (ws := wsX0_guestsComing) B.pre
  have hown : s.vm.findClass RX0 = some m.cls := findClass_of_methodNamed B.named
  have hlocks := B.notSynchronized
  have hS : va_S (fun _ => False) s.heap s.heap [] := va_S.rf
  have hP : va_P (dC, dI) vwCl (gcW h kc f1 f2 dr cl tr se (nI g) (nI r) inf (nI ct)) s.heap := hP
  have hin0 : ∀ w ∈ wsX00, w ∈ wsX0_guestsComing := by decide +kernel
  have hl := lv_entry [.ref (h 0), .int w] (n := 4) (Nat.le_of_ble_eq_true rfl)
  rw [lg_entry_eq]
  generalize (lg_sl [.ref (h 0), .int w] ++ List.replicate (4 - (lg_sl [.ref (h 0), .int w]).length) Slot.unset).toArray = ls at hl ⊢
  have hl : lv_has ls 4 [(0, .ref (h 0)), (1, .int w)] := hl
  refine lv_iconst (v := 0) hx hb dX0_guestsComing_0 (by decide) ?_
  refine lv_istore_n (lv' := [(2, .int 0), (0, .ref (h 0)), (1, .int w)]) hx hb dX0_guestsComing_1 rfl hl (by decide) rfl (fun ls hl => ?_)
  refine lv_iconst (v := 0) hx hb dX0_guestsComing_2 (by decide) ?_
  refine lv_istore_n (lv' := [(3, .int 0), (2, .int 0), (0, .ref (h 0)), (1, .int w)]) hx hb dX0_guestsComing_3 rfl hl (by decide) rfl (fun ls hl => ?_)
  refine gc_loop (g) (fun (i : Nat) (H : Heap) (locs : List Loc) (ls : Array Slot) => ∃ (x : Int32), x = gGC w i ∧ va_P (dC, dI) vwCl (gcW h kc f1 f2 dr cl tr se (nI g) (nI r) inf (nI ct)) H ∧ va_S (fun _ => False) s.heap H locs ∧ lv_has ls 4 [(3, .int (nI i)), (2, .int x), (0, .ref (h 0)), (1, .int w)]) 0 (Nat.zero_le _) ⟨0, (by first | rfl | assumption | omega), hP, hS, lv_sub hl [0, 1, 2, 3] rfl⟩ ?_
  intro i H locs ls hi hI ihi
  obtain ⟨x, e_x, hP, hS, hl⟩ := hI
  refine lv_iload_n hx hb dX0_guestsComing_4 rfl (lv_at hl 0 rfl) ?_
  refine lv_aload_n hx hb dX0_guestsComing_5 rfl (lv_at hl 2 rfl) ?_
  refine va_get (D := (dC, dI)) (ci := 0) (v := .int (nI g)) (C := RX0) (T := TX0) (N := 10) hx hb hts hin0 hown hK hP 0 rfl rfl 6 (by decide) (hts (.fieldLink RX0 31 "GuestChairs" "guestCount" "I") (by decide +kernel)) (fun _ h9 => h9) rfl dX0_guestsComing_6 ?_
  refine lv_icmp_ge (tgt := 34) hx hb dX0_guestsComing_9 (by decide) (fun c_9 => ?_) (fun c_9 => ?_)
  · skip
    have hEi : i = g := gc_ge c_9 (by omega) (by omega)
    refine lv_iload_n hx hb dX0_guestsComing_34 rfl (lv_at hl 1 rfl) ?_
    have hpost : x = gGC w g := by rw [e_x, hEi]
    exact W.iret (v := x) hx hb hr (fun t ht hW => ⟨⟨x, (), rfl, hpost, trivial⟩, hS.F ht⟩) hS.2.2 dX0_guestsComing_35
  · skip
    have hLi : i < g := gc_lt c_9 (by omega) (by omega)
    refine lv_iload_n hx hb dX0_guestsComing_12 rfl (lv_at hl 3 rfl) ?_
    refine lv_iconst (v := 2) hx hb dX0_guestsComing_13 (by decide) ?_
    refine lv_iload_n hx hb dX0_guestsComing_14 rfl (lv_at hl 0 rfl) ?_
    refine lv_imul hx hb dX0_guestsComing_15 ?_
    refine va_calli (va_runS (As := [.int w, .int (2 * nI i)]) (rest := []) ⟨hx, hb, hml, hown, hts⟩ (c_X0_has l w (2 * nI i)) (va_cwS 2 hts gX0_guestsComing_X0_has rfl rfl rfl (by decide +kernel) ⟨Nat.le_of_ble_eq_true rfl, Nat.le_of_ble_eq_true rfl⟩) ⟨fun a U g mk q => q, fun U hU hW => ⟨rfl, trivial⟩⟩ rfl rfl hl.1 rfl (lv_room (Nat.le_of_ble_eq_true rfl)) dX0_guestsComing_16 ⟨Nat.zero_le _, Nat.zero_le _⟩) hS (fun q _ h => h.elim) (fun q h => h.elim) (fun r1 u t H locs ht hvm hw hB hz1 hk1 hS => ?_)
    have hP := gc_keep hP hk1
    have hw : r1 = gB (gHas w (2 * nI i)) := hw
    subst hw
    clear hw
    clear hB hz1 hk1 ht hvm
    refine lv_if_eq (tgt := 28) hx hb dX0_guestsComing_19 (by decide) (fun c_19 => ?_) (fun c_19 => ?_)
    · skip
      have c_19 := gB_f c_19
      refine lv_iinc (v := nI (i + 1)) (lv' := [(3, .int (nI (i + 1))), (2, .int x), (0, .ref (h 0)), (1, .int w)]) hx hb dX0_guestsComing_28 hl (k := 0) rfl (nI_1 i) (by decide) rfl (fun ls hl => ?_)
      refine lv_goto (tgt := 4) hx hb dX0_guestsComing_31 (by decide) ?_
      exact ihi H _ ls (by omega) ⟨x, (by simp only [gGC, ← e_x]; simp [gGC, c_19]), hP, hS, lv_sub hl [0, 1, 2, 3] rfl⟩
    · skip
      have c_19 := gB_t c_19
      refine lv_iload_n hx hb dX0_guestsComing_22 rfl (lv_at hl 1 rfl) ?_
      refine lv_iconst (v := 1) hx hb dX0_guestsComing_23 (by decide) ?_
      refine lv_iload_n hx hb dX0_guestsComing_24 rfl (lv_at hl 0 rfl) ?_
      refine lv_ishl hx hb dX0_guestsComing_25 ?_
      refine lv_ior hx hb dX0_guestsComing_26 ?_
      refine lv_istore_n (lv' := [(2, .int (x ||| ((1 : Int32) <<< (nI i &&& 31)))), (3, .int (nI i)), (0, .ref (h 0)), (1, .int w)]) hx hb dX0_guestsComing_27 rfl hl (by decide) rfl (fun ls hl => ?_)
      refine lv_iinc (v := nI (i + 1)) (lv' := [(3, .int (nI (i + 1))), (2, .int (x ||| ((1 : Int32) <<< (nI i &&& 31)))), (0, .ref (h 0)), (1, .int w)]) hx hb dX0_guestsComing_28 hl (k := 1) rfl (nI_1 i) (by decide) rfl (fun ls hl => ?_)
      refine lv_goto (tgt := 4) hx hb dX0_guestsComing_31 (by decide) ?_
      exact ihi H _ ls (by omega) ⟨(x ||| ((1 : Int32) <<< (nI i &&& 31))), (by simp only [gGC, ← e_x]; simp [gGC, c_19]), hP, hS, lv_sub hl [0, 1, 2, 3] rfl⟩
