/-! THE REFERENCE'S SEATINGS AND COUNTS. -/
def mHo (w v : Int32) : Bool := decide (((v >>> ((w / 2) &&& 31)) &&& 1) = (1 - (w - w / 2 * 2)))
def mP (K : Bk) (v : Int32) (j : Nat) : Bool := K.2.2.2 j && mHo (nI (K.2.1 j)) v && !mHo (nI (K.2.2.1 j)) v
def mBB (K : Bk) (x1 x2 v : Int32) : Int32 := if gFst (mP K v) K.1 = -1 then (if ¬ x1 = -1 ∧ mHo x1 v = true ∧ mHo x2 v = false then 30 else -1) else gFst (mP K v) K.1
def mSW (K : Bk) (x1 x2 v fi : Int32) : Nat → Int32
  | 0 => 0
  | i + 1 => mSW K x1 x2 v fi i + (if (nI i &&& (((1 : Int32) <<< (fi &&& 31)) - 1)) = v ∧ mBB K x1 x2 (nI i) = -1 then 1 else 0)
def mAll (K : Bk) (x1 x2 : Int32) (g : Nat) : Int32 := mSW K x1 x2 0 0 (2 ^ g)
def mPo (x : Int32) : Bool := decide (¬ x ≤ 0)
def gmA (p : Nat → Bool) : Nat → Bool
  | 0 => true
  | i + 1 => gmA p i && p i
theorem gmA_le {p : Nat → Bool} {i : Nat} (h : gmA p i = false) : ∀ {n : Nat}, i ≤ n → gmA p n = false
  | 0, hn => by rw [show i = 0 by omega] at h; exact h
  | n + 1, hn => by
    rcases Nat.lt_or_ge n i with q | q
    · rw [show n + 1 = i by omega]; exact h
    · simp [gmA, gmA_le h q]
theorem mFo_stop {P : Bool} {p : Nat → Bool} {i n : Nat} (h : (P && gmA p i) = false) (hi : i ≤ n) : (P && gmA p n) = false := by
  cases P
  · rfl
  · simp only [Bool.true_and] at h ⊢; exact gmA_le h hi
def mFp (K : Bk) (x1 x2 w : Int32) (i : Nat) : Bool := decide (¬ mBB K x1 x2 (nI i) = -1) || mHo w (nI i)
def mFo (K : Bk) (x1 x2 w : Int32) (g : Nat) : Bool := mPo (mAll K x1 x2 g) && gmA (mFp K x1 x2 w) (2 ^ g)
noncomputable def mTo (K : Bk) (x : Nat) : Bool := fo K (2 * x) ((2 * x) ^^^ 1) && fo K (2 * x + 1) ((2 * x + 1) ^^^ 1)
noncomputable def mRe (K : Bk) (a : Nat) : Nat → Int32
  | 0 => 0
  | i + 1 => mRe K a i ||| (if fo K a i = true then (1 : Int32) <<< (nI i &&& 31) else 0)
noncomputable def mGo (K : Bk) (x y : Nat) : Nat → Bool
  | 0 => false
  | k + 1 => mGo K x y k || (fo K (2 * x + k / 2) (2 * y + k % 2) && fo K (2 * y + k % 2) (2 * x + k / 2))
noncomputable def mGs (K : Bk) (x : Nat) : Nat → Int32
  | 0 => 0
  | i + 1 => mGs K x i + gB (mGo K x i 4)
noncomputable def mGu (K : Bk) (x1 x2 : Int32) (g x w : Nat) : Int32 := if w < 2 then gB (mFo K x1 x2 (nI (2 * x + w)) g) else if w = 2 then gB (mTo K x) else mGs K x g
def mCi (K : Bk) : Nat → Int32
  | 0 => 0
  | i + 1 => mCi K i + gB (K.2.2.2 i)
noncomputable def mCt (K : Bk) : Nat → Int32
  | 0 => 0
  | i + 1 => mCt K i + gB (mTo K i)
noncomputable def mCv (K : Bk) : Nat → Int32
  | 0 => 0
  | i + 1 => mCv K i + gB (fo K i (i ^^^ 1))
noncomputable def mCp (K : Bk) : Nat → Int32
  | 0 => 0
  | i + 1 => mCp K i + (nI (fb_ct (fun v => fo K i v) 20) - 1)
noncomputable def mCo (K : Bk) (g r : Nat) : Nat → Int32
  | 0 => nI g
  | 1 => nI r
  | 2 => mCi K r
  | 3 => mCt K g
  | 4 => mCv K (2 * g)
  | _ => mCp K (2 * g)
def mSg (K : Bk) (x1 x2 : Int32) (g : Nat) : Nat → Int32
  | 0 => 0
  | i + 1 => if ¬ mSW K x1 x2 (mSg K x1 x2 g i ||| ((1 : Int32) <<< (nI i &&& 31))) (nI i + 1) (2 ^ g) ≤ 0 then mSg K x1 x2 g i ||| ((1 : Int32) <<< (nI i &&& 31)) else mSg K x1 x2 g i
def mSe (K : Bk) (x1 x2 : Int32) (g : Nat) : Int32 := if mAll K x1 x2 g = 0 then -1 else mSg K x1 x2 g g
def mSz (v : Int32) : Nat → Int32
  | 0 => 0
  | i + 1 => mSz v i + ((v >>> (nI i &&& 31)) &&& 1)
def mFe (K : Bk) (x1 x2 : Int32) : Nat → Int32
  | 0 => -1
  | i + 1 => if mBB K x1 x2 (nI i) = -1 ∧ (mFe K x1 x2 i = -1 ∨ mSz (nI i) 10 < mFe K x1 x2 i) then mSz (nI i) 10 else mFe K x1 x2 i
def mMo (K : Bk) (x1 x2 : Int32) : Nat → Int32
  | 0 => -1
  | i + 1 => if mBB K x1 x2 (nI i) = -1 then (if mMo K x1 x2 i < mSz (nI i) 10 then mSz (nI i) 10 else mMo K x1 x2 i) else mMo K x1 x2 i
def mSu (K : Bk) (x1 x2 : Int32) : Nat → Int32
  | 0 => 0
  | i + 1 => mSu K x1 x2 i + (if mBB K x1 x2 (nI i) = -1 then mSz (nI i) 10 else 0)
def mTd (K : Bk) (x : Nat) : Nat → Int32
  | 0 => nI (K.2.1 x)
  | 1 => nI (K.2.2.1 x)
  | _ => gB (K.2.2.2 x)
/-- the book without rule j -/
def mKo (K : Bk) (j : Nat) : Bk := (K.1, K.2.1, K.2.2.1, fun i => if i = j then false else K.2.2.2 i)
theorem mOK_off {K : Bk} {g r : Nat} {f1 f2 of : Nat → Int32} (h : mOK K g r f1 f2 of) (j : Nat) : mOK (mKo K j) g r f1 f2 (upd of j 1) := by
  refine ⟨h.1, fun i hi => ?_⟩
  obtain ⟨h1, h2, h3, h4, h5⟩ := h.2 i hi
  refine ⟨h1, h2, h3, h4, ?_⟩
  by_cases c : i = j
  · simp [upd, mKo, c, gB]
  · simp [upd, mKo, c, h5]
theorem mOf_back {K : Bk} {g r : Nat} {f1 f2 of : Nat → Int32} (h : mOK K g r f1 f2 of) {j : Nat} (hj : j < r) (ho : K.2.2.2 j = true) : upd (upd of j 1) j 0 = of := by
  funext i
  by_cases c : i = j
  · have h5 := (h.2 j hj).2.2.2.2
    rw [ho] at h5
    simp only [upd, c, if_true]
    rw [h5]; rfl
  · simp [upd, c]
def mBp (K : Bk) (x1 x2 : Int32) (g j : Nat) : Bool := K.2.2.2 j && mPo (mAll (mKo K j) x1 x2 g)
def mBl (K : Bk) (x1 x2 : Int32) (g r : Nat) : Int32 := if mPo (mAll K x1 x2 g) = true then -1 else gFst (mBp K x1 x2 g) r
theorem fo_yes {K : Bk} {a v : Nat} {x : Int32} (hx : x = di K a v) (q : (fo K a v = true ∧ ∃ n, n < 20 ∧ di K a v = nI n ∧ rk K n a v) ∨ (fo K a v = false ∧ di K a v = -1)) (c : ¬ x = -1) : fo K a v = true := by
  rcases q with ⟨q, -⟩ | ⟨-, q⟩
  · exact q
  · exact absurd (hx.trans q) c
theorem fo_no {K : Bk} {a v : Nat} {x : Int32} (hx : x = di K a v) (q : (fo K a v = true ∧ ∃ n, n < 20 ∧ di K a v = nI n ∧ rk K n a v) ∨ (fo K a v = false ∧ di K a v = -1)) (c : x = -1) : fo K a v = false := by
  rcases q with ⟨-, n, hn, q, -⟩ | ⟨q, -⟩
  · exact absurd ((hx.trans q).symm.trans c) (nI_ne1 (by omega))
  · exact q
set_option maxHeartbeats 4000000 in
set_option maxRecDepth 100000 in
theorem c_X1_holds (l : Launch) (w : Int32) (v : Int32) : Met l yX1_holds wsX1_holds ({ frames := 0, cells := 0, slots := 0, locals := 0 }) (va_Pc [.int w, .int v] (fun _ => True)) (va_Qi (fun (rv : Int32) (_u : Unit) => rv = gB (mHo w v)) (fun _ _ => True) (fun _ => False)) 0 0 (fun _ => False) := by
  refine Met.ofW (cc := cX1_holds) (maxL := 2) (ret := (some .boolean)) (by decide) rfl ?_
  intro p e s m args below meth c s₁ B hml hv
  obtain ⟨rfl, -⟩ := hv
  have hx := B.exec
  have hb := B.bytes
  have hr := B.returns
  have hts := atoms_spec (ws := wsX1_holds) B.pre
  have hown : s.vm.findClass RX1 = some m.cls := findClass_of_methodNamed B.named
  have hlocks := B.notSynchronized
  have hS : va_S (fun _ => False) s.heap s.heap [] := va_S.rf
  have hl := lv_entry [.int w, .int v] (n := 2) (Nat.le_of_ble_eq_true rfl)
  rw [lg_entry_eq]
  generalize (lg_sl [.int w, .int v] ++ List.replicate (2 - (lg_sl [.int w, .int v]).length) Slot.unset).toArray = ls at hl ⊢
  have hl : lv_has ls 2 [(0, .int w), (1, .int v)] := hl
  refine lv_iload_n hx hb dX1_holds_0 rfl (lv_at hl 1 rfl) ?_
  refine lv_iload_n hx hb dX1_holds_1 rfl (lv_at hl 0 rfl) ?_
  refine lv_iconst (v := 2) hx hb dX1_holds_2 (by decide) ?_
  refine lv_idiv hx hb dX1_holds_3 (by decide) ?_
  refine lv_ishr hx hb dX1_holds_4 ?_
  refine lv_iconst (v := 1) hx hb dX1_holds_5 (by decide) ?_
  refine lv_iand hx hb dX1_holds_6 ?_
  refine lv_iconst (v := 1) hx hb dX1_holds_7 (by decide) ?_
  refine lv_iload_n hx hb dX1_holds_8 rfl (lv_at hl 0 rfl) ?_
  refine lv_iconst (v := 2) hx hb dX1_holds_9 (by decide) ?_
  refine lv_irem hx hb dX1_holds_10 (by decide) ?_
  refine lv_isub hx hb dX1_holds_11 ?_
  refine lv_icmp_ne (tgt := 19) hx hb dX1_holds_12 (by decide) (fun c_12 => ?_) (fun c_12 => ?_)
  · skip
    refine lv_iconst (v := 0) hx hb dX1_holds_19 (by decide) ?_
    have hpost : (0 : Int32) = gB (mHo w v) := by simp [gB, mHo, c_12]
    exact W.zret (ty := .boolean) (v := 0) hx hb hr (by first | rfl | decide | exact gB_nar _) (fun t ht hW => ⟨⟨0, (), rfl, hpost, trivial⟩, hS.F ht⟩) hS.2.2 dX1_holds_20
  · skip
    refine lv_iconst (v := 1) hx hb dX1_holds_15 (by decide) ?_
    refine lv_goto (tgt := 20) hx hb dX1_holds_16 (by decide) ?_
    have hpost : (1 : Int32) = gB (mHo w v) := by simp [gB, mHo, c_12]
    exact W.zret (ty := .boolean) (v := 1) hx hb hr (by first | rfl | decide | exact gB_nar _) (fun t ht hW => ⟨⟨1, (), rfl, hpost, trivial⟩, hS.F ht⟩) hS.2.2 dX1_holds_20
set_option maxHeartbeats 4000000 in
set_option maxRecDepth 100000 in
theorem c_X1_size (l : Launch) (v : Int32) : Met l yX1_size wsX1_size ({ frames := 0, cells := 0, slots := 0, locals := 0 }) (va_Pc [.int v] (fun _ => True)) (va_Qi (fun (rv : Int32) (_u : Unit) => rv = mSz v 10) (fun _ _ => True) (fun _ => False)) 0 0 (fun _ => False) := by
  refine Met.ofW (cc := cX1_size) (maxL := 3) (ret := (some .int)) (by decide) rfl ?_
  intro p e s m args below meth c s₁ B hml hv
  obtain ⟨rfl, -⟩ := hv
  have hx := B.exec
  have hb := B.bytes
  have hr := B.returns
  have hts := atoms_spec (ws := wsX1_size) B.pre
  have hown : s.vm.findClass RX1 = some m.cls := findClass_of_methodNamed B.named
  have hlocks := B.notSynchronized
  have hS : va_S (fun _ => False) s.heap s.heap [] := va_S.rf
  have hl := lv_entry [.int v] (n := 3) (Nat.le_of_ble_eq_true rfl)
  rw [lg_entry_eq]
  generalize (lg_sl [.int v] ++ List.replicate (3 - (lg_sl [.int v]).length) Slot.unset).toArray = ls at hl ⊢
  have hl : lv_has ls 3 [(0, .int v)] := hl
  refine lv_iconst (v := 0) hx hb dX1_size_0 (by decide) ?_
  refine lv_istore_n (lv' := [(1, .int 0), (0, .int v)]) hx hb dX1_size_1 rfl hl (by decide) rfl (fun ls hl => ?_)
  refine lv_iconst (v := 0) hx hb dX1_size_2 (by decide) ?_
  refine lv_istore_n (lv' := [(2, .int 0), (1, .int 0), (0, .int v)]) hx hb dX1_size_3 rfl hl (by decide) rfl (fun ls hl => ?_)
  refine gc_loop (10) (fun (i : Nat) (H : Heap) (locs : List Loc) (ls : Array Slot) => ∃ (x : Int32), x = mSz v i ∧ va_S (fun _ => False) s.heap H locs ∧ lv_has ls 3 [(2, .int (nI i)), (1, .int x), (0, .int v)]) 0 (Nat.zero_le _) ⟨0, (by first | rfl | assumption | omega), hS, lv_sub hl [0, 1, 2] rfl⟩ ?_
  intro i H locs ls hi hI ihi
  obtain ⟨x, e_x, hS, hl⟩ := hI
  refine lv_iload_n hx hb dX1_size_4 rfl (lv_at hl 0 rfl) ?_
  refine lv_bipush (v := 10) hx hb dX1_size_5 (by decide) ?_
  refine lv_icmp_ge (tgt := 24) hx hb dX1_size_7 (by decide) (fun c_7 => ?_) (fun c_7 => ?_)
  · skip
    have hEi : i = 10 := gc_ge c_7 (by omega) (by omega)
    refine lv_iload_n hx hb dX1_size_24 rfl (lv_at hl 1 rfl) ?_
    have hpost : x = mSz v 10 := by rw [e_x, hEi]
    exact W.iret (v := x) hx hb hr (fun t ht hW => ⟨⟨x, (), rfl, hpost, trivial⟩, hS.F ht⟩) hS.2.2 dX1_size_25
  · skip
    have hLi : i < 10 := gc_lt c_7 (by omega) (by omega)
    refine lv_iload_n hx hb dX1_size_10 rfl (lv_at hl 1 rfl) ?_
    refine lv_iload_n hx hb dX1_size_11 rfl (lv_at hl 2 rfl) ?_
    refine lv_iload_n hx hb dX1_size_12 rfl (lv_at hl 0 rfl) ?_
    refine lv_ishr hx hb dX1_size_13 ?_
    refine lv_iconst (v := 1) hx hb dX1_size_14 (by decide) ?_
    refine lv_iand hx hb dX1_size_15 ?_
    refine lv_iadd hx hb dX1_size_16 ?_
    refine lv_istore_n (lv' := [(1, .int (x + ((v >>> (nI i &&& 31)) &&& 1))), (2, .int (nI i)), (0, .int v)]) hx hb dX1_size_17 rfl hl (by decide) rfl (fun ls hl => ?_)
    refine lv_iinc (v := nI (i + 1)) (lv' := [(2, .int (nI (i + 1))), (1, .int (x + ((v >>> (nI i &&& 31)) &&& 1))), (0, .int v)]) hx hb dX1_size_18 hl (k := 1) rfl (nI_1 i) (by decide) rfl (fun ls hl => ?_)
    refine lv_goto (tgt := 4) hx hb dX1_size_21 (by decide) ?_
    exact ihi H _ ls (by omega) ⟨(x + ((v >>> (nI i &&& 31)) &&& 1)), (by rw [e_x]; rfl), hS, lv_sub hl [0, 1, 2] rfl⟩
set_option maxHeartbeats 4000000 in
set_option maxRecDepth 100000 in
theorem c_X1_brokenBy (l : Launch) (dC : Nat → ClassId) (dI : Nat → Nat → Nat) (h : Nat → Nat) (kc : Nat → ClassId) (f1 : Nat → Int32) (f2 : Nat → Int32) (of : Nat → Int32) (ro : Nat → Int32) (fa : Nat → Int32) (th : Int32) (g : Nat) (r : Nat) (x1 : Int32) (x2 : Int32) (K : Bk) (v : Int32) (hBk : mOK K g r f1 f2 of) (hg : g ≤ 10) (hr30 : r ≤ 30) : Met l yX1_brokenBy wsX1_brokenBy ({ frames := 1, cells := 0, slots := 0, locals := 21 }) (gcPR (dC, dI) [.ref (h 0), .int v] (gmW h kc f1 f2 of ro fa th (nI g) (nI r) x1 x2) (gmT kc)) (va_Qi (fun (rv : Int32) (_u : Unit) => rv = mBB K x1 x2 v) (fun _ _ => True) (fun _ => False)) 0 0 (fun _ => False) := by
  refine Met.ofW (cc := cX1_brokenBy) (maxL := 3) (ret := (some .int)) (by decide) rfl ?_
  intro p e s m args below meth c s₁ B hml hv
  obtain ⟨rfl, hP, hK⟩ := hv
  have hx := B.exec
  have hb := B.bytes
  have hr := B.returns
  have hts := atoms_spec (ws := wsX1_brokenBy) B.pre
  have hown : s.vm.findClass RX1 = some m.cls := findClass_of_methodNamed B.named
  have hlocks := B.notSynchronized
  have hS : va_S (fun _ => False) s.heap s.heap [] := va_S.rf
  have hP : va_P (dC, dI) vwCl (gmW h kc f1 f2 of ro fa th (nI g) (nI r) x1 x2) s.heap := hP
  have hin1 : ∀ w ∈ wsX10, w ∈ wsX1_brokenBy := by decide +kernel
  have hl := lv_entry [.ref (h 0), .int v] (n := 3) (Nat.le_of_ble_eq_true rfl)
  rw [lg_entry_eq]
  generalize (lg_sl [.ref (h 0), .int v] ++ List.replicate (3 - (lg_sl [.ref (h 0), .int v]).length) Slot.unset).toArray = ls at hl ⊢
  have hl : lv_has ls 3 [(0, .ref (h 0)), (1, .int v)] := hl
  refine lv_iconst (v := 0) hx hb dX1_brokenBy_0 (by decide) ?_
  refine lv_istore_n (lv' := [(2, .int 0), (0, .ref (h 0)), (1, .int v)]) hx hb dX1_brokenBy_1 rfl hl (by decide) rfl (fun ls hl => ?_)
  refine gc_loop (r) (fun (i : Nat) (H : Heap) (locs : List Loc) (ls : Array Slot) => (∀ j : Nat, j < i → mP K v j = false) ∧ va_P (dC, dI) vwCl (gmW h kc f1 f2 of ro fa th (nI g) (nI r) x1 x2) H ∧ va_S (fun _ => False) s.heap H locs ∧ lv_has ls 3 [(2, .int (nI i)), (0, .ref (h 0)), (1, .int v)]) 0 (Nat.zero_le _) ⟨(fun j hj => absurd hj (Nat.not_lt_zero j)), hP, hS, lv_sub hl [0, 1, 2] rfl⟩ ?_
  intro i H locs ls hi hI ihi
  obtain ⟨hno, hP, hS, hl⟩ := hI
  refine lv_iload_n hx hb dX1_brokenBy_2 rfl (lv_at hl 0 rfl) ?_
  refine lv_aload_n hx hb dX1_brokenBy_3 rfl (lv_at hl 1 rfl) ?_
  refine va_get (D := (dC, dI)) (ci := 1) (v := .int (nI r)) (C := RX1) (T := TX1) (N := 10) hx hb hts hin1 hown hK hP 0 rfl rfl 2 (by decide) (hts (.fieldLink RX1 51 "GuestChairsModel" "rules" "I") (by decide +kernel)) (fun _ h9 => h9) rfl dX1_brokenBy_4 ?_
  refine lv_icmp_ge (tgt := 53) hx hb dX1_brokenBy_7 (by decide) (fun c_7 => ?_) (fun c_7 => ?_)
  · skip
    have hEi : i = r := gc_ge c_7 (by omega) (by omega)
    have hno2 := gFst_no (p := mP K v) (n := K.1) (by rw [hBk.1, ← hEi]; exact hno)
    refine lv_aload_n hx hb dX1_brokenBy_53 rfl (lv_at hl 1 rfl) ?_
    refine va_get (D := (dC, dI)) (ci := 1) (v := .int x1) (C := RX1) (T := TX1) (N := 10) hx hb hts hin1 hown hK hP 0 rfl rfl 6 (by decide) (hts (.fieldLink RX1 20 "GuestChairsModel" "asIfFirst" "I") (by decide +kernel)) (fun _ h9 => h9) rfl dX1_brokenBy_54 ?_
    refine lv_iconst (v := -1) hx hb dX1_brokenBy_57 (by decide) ?_
    refine lv_icmp_eq (tgt := 88) hx hb dX1_brokenBy_58 (by decide) (fun c_58 => ?_) (fun c_58 => ?_)
    · skip
      refine lv_iconst (v := -1) hx hb dX1_brokenBy_88 (by decide) ?_
      have hpost : ((-1) : Int32) = mBB K x1 x2 v := by simp [mBB, hno2, c_58]
      exact W.iret (v := (-1)) hx hb hr (fun t ht hW => ⟨⟨(-1), (), rfl, hpost, trivial⟩, hS.F ht⟩) hS.2.2 dX1_brokenBy_89
    · skip
      refine lv_aload_n hx hb dX1_brokenBy_61 rfl (lv_at hl 1 rfl) ?_
      refine va_get (D := (dC, dI)) (ci := 1) (v := .int x1) (C := RX1) (T := TX1) (N := 10) hx hb hts hin1 hown hK hP 0 rfl rfl 6 (by decide) (hts (.fieldLink RX1 20 "GuestChairsModel" "asIfFirst" "I") (by decide +kernel)) (fun _ h9 => h9) rfl dX1_brokenBy_62 ?_
      refine lv_iload_n hx hb dX1_brokenBy_65 rfl (lv_at hl 2 rfl) ?_
      refine va_calli (va_runS (As := [.int x1, .int v]) (rest := []) ⟨hx, hb, hml, hown, hts⟩ (c_X1_holds l x1 v) (va_cwS 2 hts gX1_brokenBy_X1_holds rfl rfl rfl (by decide +kernel) ⟨Nat.le_of_ble_eq_true rfl, Nat.le_of_ble_eq_true rfl⟩) ⟨fun a U g mk q => q, fun U hU hW => ⟨rfl, trivial⟩⟩ rfl rfl hl.1 rfl (lv_room (Nat.le_of_ble_eq_true rfl)) dX1_brokenBy_66 ⟨Nat.zero_le _, Nat.zero_le _⟩) hS (fun q _ h => h.elim) (fun q h => h.elim) (fun r1 u t H locs ht hvm hw hB hz1 hk1 hS => ?_)
      have hP := gc_keep hP hk1
      have hw : r1 = gB (mHo x1 v) := hw
      subst hw
      clear hw
      clear hB hz1 hk1 ht hvm
      refine lv_if_eq (tgt := 88) hx hb dX1_brokenBy_69 (by decide) (fun c_69 => ?_) (fun c_69 => ?_)
      · skip
        have c_69 := gB_f c_69
        refine lv_iconst (v := -1) hx hb dX1_brokenBy_88 (by decide) ?_
        have hpost : ((-1) : Int32) = mBB K x1 x2 v := by simp [mBB, hno2, c_58, c_69]
        exact W.iret (v := (-1)) hx hb hr (fun t ht hW => ⟨⟨(-1), (), rfl, hpost, trivial⟩, hS.F ht⟩) hS.2.2 dX1_brokenBy_89
      · skip
        have c_69 := gB_t c_69
        refine lv_aload_n hx hb dX1_brokenBy_72 rfl (lv_at hl 1 rfl) ?_
        refine va_get (D := (dC, dI)) (ci := 1) (v := .int x2) (C := RX1) (T := TX1) (N := 10) hx hb hts hin1 hown hK hP 0 rfl rfl 7 (by decide) (hts (.fieldLink RX1 24 "GuestChairsModel" "asIfSecond" "I") (by decide +kernel)) (fun _ h9 => h9) rfl dX1_brokenBy_73 ?_
        refine lv_iload_n hx hb dX1_brokenBy_76 rfl (lv_at hl 2 rfl) ?_
        refine va_calli (va_runS (As := [.int x2, .int v]) (rest := []) ⟨hx, hb, hml, hown, hts⟩ (c_X1_holds l x2 v) (va_cwS 2 hts gX1_brokenBy_X1_holds rfl rfl rfl (by decide +kernel) ⟨Nat.le_of_ble_eq_true rfl, Nat.le_of_ble_eq_true rfl⟩) ⟨fun a U g mk q => q, fun U hU hW => ⟨rfl, trivial⟩⟩ rfl rfl hl.1 rfl (lv_room (Nat.le_of_ble_eq_true rfl)) dX1_brokenBy_77 ⟨Nat.zero_le _, Nat.zero_le _⟩) hS (fun q _ h => h.elim) (fun q h => h.elim) (fun r2 u t H locs ht hvm hw hB hz1 hk1 hS => ?_)
        have hP := gc_keep hP hk1
        have hw : r2 = gB (mHo x2 v) := hw
        subst hw
        clear hw
        clear hB hz1 hk1 ht hvm
        refine lv_if_ne (tgt := 88) hx hb dX1_brokenBy_80 (by decide) (fun c_80 => ?_) (fun c_80 => ?_)
        · skip
          have c_80 := gB_t c_80
          refine lv_iconst (v := -1) hx hb dX1_brokenBy_88 (by decide) ?_
          have hpost : ((-1) : Int32) = mBB K x1 x2 v := by simp [mBB, hno2, c_58, c_69, c_80]
          exact W.iret (v := (-1)) hx hb hr (fun t ht hW => ⟨⟨(-1), (), rfl, hpost, trivial⟩, hS.F ht⟩) hS.2.2 dX1_brokenBy_89
        · skip
          have c_80 := gB_f c_80
          refine lv_bipush (v := 30) hx hb dX1_brokenBy_83 (by decide) ?_
          refine lv_goto (tgt := 89) hx hb dX1_brokenBy_85 (by decide) ?_
          have hpost : (30 : Int32) = mBB K x1 x2 v := by simp [mBB, hno2, c_58, c_69, c_80]
          exact W.iret (v := 30) hx hb hr (fun t ht hW => ⟨⟨30, (), rfl, hpost, trivial⟩, hS.F ht⟩) hS.2.2 dX1_brokenBy_89
  · skip
    have hLi : i < r := gc_lt c_7 (by omega) (by omega)
    refine lv_aload_n hx hb dX1_brokenBy_10 rfl (lv_at hl 1 rfl) ?_
    refine va_get (D := (dC, dI)) (ci := 1) (v := .ref (h 3)) (C := RX1) (T := TX1) (N := 10) hx hb hts hin1 hown hK hP 0 rfl rfl 5 (by decide) (hts (.fieldLink RX1 16 "GuestChairsModel" "off" "[Z") (by decide +kernel)) (fun _ h9 => h9) rfl dX1_brokenBy_11 ?_
    refine lv_iload_n hx hb dX1_brokenBy_14 rfl (lv_at hl 0 rfl) ?_
    refine va_zald hx hb hK hP 3 2 rfl rfl (vp_in_nI (n := i) (by omega) (by decide)) dX1_brokenBy_15 ?_
    rw [nI_clamp (n := i) (by omega)]
    refine gc_topi (y := gB (!K.2.2.2 i)) ((hBk.2 i hLi).2.2.2.2) ?_
    refine lv_if_ne (tgt := 47) hx hb dX1_brokenBy_16 (by decide) (fun c_16 => ?_) (fun c_16 => ?_)
    · skip
      have c_16 := gB_t c_16
      have hon : K.2.2.2 i = false := by simpa using c_16
      refine lv_iinc (v := nI (i + 1)) (lv' := [(2, .int (nI (i + 1))), (0, .ref (h 0)), (1, .int v)]) hx hb dX1_brokenBy_47 hl (k := 0) rfl (nI_1 i) (by decide) rfl (fun ls hl => ?_)
      refine lv_goto (tgt := 2) hx hb dX1_brokenBy_50 (by decide) ?_
      exact ihi H _ ls (by omega) ⟨(lt_s hno (by simp [mP, c_16, hon])), hP, hS, lv_sub hl [0, 1, 2] rfl⟩
    · skip
      have c_16 := gB_f c_16
      have hon : K.2.2.2 i = true := by simpa using c_16
      refine lv_aload_n hx hb dX1_brokenBy_19 rfl (lv_at hl 1 rfl) ?_
      refine va_get (D := (dC, dI)) (ci := 1) (v := .ref (h 1)) (C := RX1) (T := TX1) (N := 10) hx hb hts hin1 hown hK hP 0 rfl rfl 3 (by decide) (hts (.fieldLink RX1 9 "GuestChairsModel" "firsts" "[I") (by decide +kernel)) (fun _ h9 => h9) rfl dX1_brokenBy_20 ?_
      refine lv_iload_n hx hb dX1_brokenBy_23 rfl (lv_at hl 0 rfl) ?_
      refine va_iald hx hb hK hP 1 0 rfl rfl (vp_in_nI (n := i) (by omega) (by decide)) dX1_brokenBy_24 ?_
      rw [nI_clamp (n := i) (by omega)]
      refine gc_topi (y := nI (K.2.1 i)) ((hBk.2 i hLi).1) ?_
      refine lv_iload_n hx hb dX1_brokenBy_25 rfl (lv_at hl 2 rfl) ?_
      refine va_calli (va_runS (As := [.int (nI (K.2.1 i)), .int v]) (rest := []) ⟨hx, hb, hml, hown, hts⟩ (c_X1_holds l (nI (K.2.1 i)) v) (va_cwS 2 hts gX1_brokenBy_X1_holds rfl rfl rfl (by decide +kernel) ⟨Nat.le_of_ble_eq_true rfl, Nat.le_of_ble_eq_true rfl⟩) ⟨fun a U g mk q => q, fun U hU hW => ⟨rfl, trivial⟩⟩ rfl rfl hl.1 rfl (lv_room (Nat.le_of_ble_eq_true rfl)) dX1_brokenBy_26 ⟨Nat.zero_le _, Nat.zero_le _⟩) hS (fun q _ h => h.elim) (fun q h => h.elim) (fun r3 u t H locs ht hvm hw hB hz1 hk1 hS => ?_)
      have hP := gc_keep hP hk1
      have hw : r3 = gB (mHo (nI (K.2.1 i)) v) := hw
      subst hw
      clear hw
      clear hB hz1 hk1 ht hvm
      refine lv_if_eq (tgt := 47) hx hb dX1_brokenBy_29 (by decide) (fun c_29 => ?_) (fun c_29 => ?_)
      · skip
        have c_29 := gB_f c_29
        refine lv_iinc (v := nI (i + 1)) (lv' := [(2, .int (nI (i + 1))), (0, .ref (h 0)), (1, .int v)]) hx hb dX1_brokenBy_47 hl (k := 0) rfl (nI_1 i) (by decide) rfl (fun ls hl => ?_)
        refine lv_goto (tgt := 2) hx hb dX1_brokenBy_50 (by decide) ?_
        exact ihi H _ ls (by omega) ⟨(lt_s hno (by simp [mP, c_16, c_29, hon])), hP, hS, lv_sub hl [0, 1, 2] rfl⟩
      · skip
        have c_29 := gB_t c_29
        refine lv_aload_n hx hb dX1_brokenBy_32 rfl (lv_at hl 1 rfl) ?_
        refine va_get (D := (dC, dI)) (ci := 1) (v := .ref (h 2)) (C := RX1) (T := TX1) (N := 10) hx hb hts hin1 hown hK hP 0 rfl rfl 4 (by decide) (hts (.fieldLink RX1 13 "GuestChairsModel" "seconds" "[I") (by decide +kernel)) (fun _ h9 => h9) rfl dX1_brokenBy_33 ?_
        refine lv_iload_n hx hb dX1_brokenBy_36 rfl (lv_at hl 0 rfl) ?_
        refine va_iald hx hb hK hP 2 1 rfl rfl (vp_in_nI (n := i) (by omega) (by decide)) dX1_brokenBy_37 ?_
        rw [nI_clamp (n := i) (by omega)]
        refine gc_topi (y := nI (K.2.2.1 i)) ((hBk.2 i hLi).2.1) ?_
        refine lv_iload_n hx hb dX1_brokenBy_38 rfl (lv_at hl 2 rfl) ?_
        refine va_calli (va_runS (As := [.int (nI (K.2.2.1 i)), .int v]) (rest := []) ⟨hx, hb, hml, hown, hts⟩ (c_X1_holds l (nI (K.2.2.1 i)) v) (va_cwS 2 hts gX1_brokenBy_X1_holds rfl rfl rfl (by decide +kernel) ⟨Nat.le_of_ble_eq_true rfl, Nat.le_of_ble_eq_true rfl⟩) ⟨fun a U g mk q => q, fun U hU hW => ⟨rfl, trivial⟩⟩ rfl rfl hl.1 rfl (lv_room (Nat.le_of_ble_eq_true rfl)) dX1_brokenBy_39 ⟨Nat.zero_le _, Nat.zero_le _⟩) hS (fun q _ h => h.elim) (fun q h => h.elim) (fun r4 u t H locs ht hvm hw hB hz1 hk1 hS => ?_)
        have hP := gc_keep hP hk1
        have hw : r4 = gB (mHo (nI (K.2.2.1 i)) v) := hw
        subst hw
        clear hw
        clear hB hz1 hk1 ht hvm
        refine lv_if_ne (tgt := 47) hx hb dX1_brokenBy_42 (by decide) (fun c_42 => ?_) (fun c_42 => ?_)
        · skip
          have c_42 := gB_t c_42
          refine lv_iinc (v := nI (i + 1)) (lv' := [(2, .int (nI (i + 1))), (0, .ref (h 0)), (1, .int v)]) hx hb dX1_brokenBy_47 hl (k := 0) rfl (nI_1 i) (by decide) rfl (fun ls hl => ?_)
          refine lv_goto (tgt := 2) hx hb dX1_brokenBy_50 (by decide) ?_
          exact ihi H _ ls (by omega) ⟨(lt_s hno (by simp [mP, c_16, c_29, c_42, hon])), hP, hS, lv_sub hl [0, 1, 2] rfl⟩
        · skip
          have c_42 := gB_f c_42
          refine lv_iload_n hx hb dX1_brokenBy_45 rfl (lv_at hl 0 rfl) ?_
          have hpost : (nI i) = mBB K x1 x2 v := by have q := gFst_hit (p := mP K v) (n := K.1) (by omega) (by simp [mP, c_16, c_29, c_42, hon]) hno (by rw [hBk.1]; exact hLi); rw [mBB, q, if_neg (nI_nm1 (by omega))]
          exact W.iret (v := nI i) hx hb hr (fun t ht hW => ⟨⟨nI i, (), rfl, hpost, trivial⟩, hS.F ht⟩) hS.2.2 dX1_brokenBy_46
set_option maxHeartbeats 4000000 in
set_option maxRecDepth 100000 in
theorem c_X1_seatingsWith (l : Launch) (dC : Nat → ClassId) (dI : Nat → Nat → Nat) (h : Nat → Nat) (kc : Nat → ClassId) (f1 : Nat → Int32) (f2 : Nat → Int32) (of : Nat → Int32) (ro : Nat → Int32) (fa : Nat → Int32) (th : Int32) (g : Nat) (r : Nat) (x1 : Int32) (x2 : Int32) (K : Bk) (v : Int32) (fi : Int32) (hBk : mOK K g r f1 f2 of) (hg : g ≤ 10) (hr30 : r ≤ 30) : Met l yX1_seatingsWith wsX1_seatingsWith ({ frames := 2, cells := 0, slots := 0, locals := 43 }) (gcPR (dC, dI) [.ref (h 0), .int v, .int fi] (gmW h kc f1 f2 of ro fa th (nI g) (nI r) x1 x2) (gmT kc)) (va_Qi (fun (rv : Int32) (_u : Unit) => rv = mSW K x1 x2 v fi (2 ^ g)) (fun _ _ => True) (fun _ => False)) 0 0 (fun _ => False) := by
  refine Met.ofW (cc := cX1_seatingsWith) (maxL := 5) (ret := (some .int)) (by decide) rfl ?_
  intro p e s m args below meth c s₁ B hml hv
  obtain ⟨rfl, hP, hK⟩ := hv
  have hx := B.exec
  have hb := B.bytes
  have hr := B.returns
  have hts := atoms_spec (ws := wsX1_seatingsWith) B.pre
  have hown : s.vm.findClass RX1 = some m.cls := findClass_of_methodNamed B.named
  have hlocks := B.notSynchronized
  have hS : va_S (fun _ => False) s.heap s.heap [] := va_S.rf
  have hP : va_P (dC, dI) vwCl (gmW h kc f1 f2 of ro fa th (nI g) (nI r) x1 x2) s.heap := hP
  have hin1 : ∀ w ∈ wsX10, w ∈ wsX1_seatingsWith := by decide +kernel
  have hl := lv_entry [.ref (h 0), .int v, .int fi] (n := 5) (Nat.le_of_ble_eq_true rfl)
  rw [lg_entry_eq]
  generalize (lg_sl [.ref (h 0), .int v, .int fi] ++ List.replicate (5 - (lg_sl [.ref (h 0), .int v, .int fi]).length) Slot.unset).toArray = ls at hl ⊢
  have hl : lv_has ls 5 [(0, .ref (h 0)), (1, .int v), (2, .int fi)] := hl
  have hg2 : 2 ^ g ≤ 1024 := Nat.pow_le_pow_right (n := 2) (by decide) hg
  refine lv_iconst (v := 0) hx hb dX1_seatingsWith_0 (by decide) ?_
  refine lv_istore_n (lv' := [(3, .int 0), (0, .ref (h 0)), (1, .int v), (2, .int fi)]) hx hb dX1_seatingsWith_1 rfl hl (by decide) rfl (fun ls hl => ?_)
  refine lv_iconst (v := 0) hx hb dX1_seatingsWith_2 (by decide) ?_
  refine lv_istore (lv' := [(4, .int 0), (3, .int 0), (0, .ref (h 0)), (1, .int v), (2, .int fi)]) hx hb dX1_seatingsWith_3 hl (by decide) rfl (fun ls hl => ?_)
  refine gc_loop (2 ^ g) (fun (i : Nat) (H : Heap) (locs : List Loc) (ls : Array Slot) => ∃ (x : Int32), x = mSW K x1 x2 v fi i ∧ va_P (dC, dI) vwCl (gmW h kc f1 f2 of ro fa th (nI g) (nI r) x1 x2) H ∧ va_S (fun _ => False) s.heap H locs ∧ lv_has ls 5 [(4, .int (nI i)), (3, .int x), (0, .ref (h 0)), (1, .int v), (2, .int fi)]) 0 (Nat.zero_le _) ⟨0, (by first | rfl | assumption | omega), hP, hS, lv_sub hl [0, 1, 2, 3, 4] rfl⟩ ?_
  intro i H locs ls hi hI ihi
  obtain ⟨x, e_x, hP, hS, hl⟩ := hI
  refine lv_iload hx hb dX1_seatingsWith_5 (lv_at hl 0 rfl) ?_
  refine lv_iconst (v := 1) hx hb dX1_seatingsWith_7 (by decide) ?_
  refine lv_aload_n hx hb dX1_seatingsWith_8 rfl (lv_at hl 2 rfl) ?_
  refine va_get (D := (dC, dI)) (ci := 1) (v := .int (nI g)) (C := RX1) (T := TX1) (N := 10) hx hb hts hin1 hown hK hP 0 rfl rfl 1 (by decide) (hts (.fieldLink RX1 36 "GuestChairsModel" "guests" "I") (by decide +kernel)) (fun _ h9 => h9) rfl dX1_seatingsWith_9 ?_
  refine lv_ishl hx hb dX1_seatingsWith_12 ?_
  refine gc_topi (y := nI (2 ^ g)) (gc_shl1 hg) ?_
  refine lv_icmp_ge (tgt := 52) hx hb dX1_seatingsWith_13 (by decide) (fun c_13 => ?_) (fun c_13 => ?_)
  · skip
    have hEi : i = 2 ^ g := gc_ge c_13 (by omega) (by omega)
    refine lv_iload_n hx hb dX1_seatingsWith_52 rfl (lv_at hl 1 rfl) ?_
    have hpost : x = mSW K x1 x2 v fi (2 ^ g) := by rw [e_x, hEi]
    exact W.iret (v := x) hx hb hr (fun t ht hW => ⟨⟨x, (), rfl, hpost, trivial⟩, hS.F ht⟩) hS.2.2 dX1_seatingsWith_53
  · skip
    have hLi : i < 2 ^ g := gc_lt c_13 (by omega) (by omega)
    refine lv_iload_n hx hb dX1_seatingsWith_16 rfl (lv_at hl 1 rfl) ?_
    refine lv_iload hx hb dX1_seatingsWith_17 (lv_at hl 0 rfl) ?_
    refine lv_iconst (v := 1) hx hb dX1_seatingsWith_19 (by decide) ?_
    refine lv_iload_n hx hb dX1_seatingsWith_20 rfl (lv_at hl 4 rfl) ?_
    refine lv_ishl hx hb dX1_seatingsWith_21 ?_
    refine lv_iconst (v := 1) hx hb dX1_seatingsWith_22 (by decide) ?_
    refine lv_isub hx hb dX1_seatingsWith_23 ?_
    refine lv_iand hx hb dX1_seatingsWith_24 ?_
    refine lv_iload_n hx hb dX1_seatingsWith_25 rfl (lv_at hl 3 rfl) ?_
    refine lv_icmp_ne (tgt := 43) hx hb dX1_seatingsWith_26 (by decide) (fun c_26 => ?_) (fun c_26 => ?_)
    · skip
      refine lv_iconst (v := 0) hx hb dX1_seatingsWith_43 (by decide) ?_
      refine lv_iadd hx hb dX1_seatingsWith_44 ?_
      refine lv_istore_n (lv' := [(3, .int (x + 0)), (4, .int (nI i)), (0, .ref (h 0)), (1, .int v), (2, .int fi)]) hx hb dX1_seatingsWith_45 rfl hl (by decide) rfl (fun ls hl => ?_)
      refine lv_iinc (v := nI (i + 1)) (lv' := [(4, .int (nI (i + 1))), (3, .int (x + 0)), (0, .ref (h 0)), (1, .int v), (2, .int fi)]) hx hb dX1_seatingsWith_46 hl (k := 1) rfl (nI_1 i) (by decide) rfl (fun ls hl => ?_)
      refine lv_goto (tgt := 5) hx hb dX1_seatingsWith_49 (by decide) ?_
      exact ihi H _ ls (by omega) ⟨(x + 0), (by rw [mSW, ← e_x]; rw [if_neg (fun q => c_26 q.1)]), hP, hS, lv_sub hl [0, 1, 2, 3, 4] rfl⟩
    · skip
      refine lv_aload_n hx hb dX1_seatingsWith_29 rfl (lv_at hl 2 rfl) ?_
      refine lv_iload hx hb dX1_seatingsWith_30 (lv_at hl 0 rfl) ?_
      have hPc : va_P (dC, dI) vwCl (gmW h kc f1 f2 of ro fa th (nI g) (nI r) x1 x2) _ := hP.sub [0, 1, 2, 3, 4, 5] rfl
      have hKc : va_K (dC, dI) vwCl (gmT kc) s := hK.sub [0, 1, 2, 3, 4] rfl
      refine va_calli (va_runV (As := [.int (nI i)]) (rest := [.int x]) ⟨hx, hb, hml, hown, hts⟩ (c_X1_brokenBy l dC dI h kc f1 f2 of ro fa th g r x1 x2 K (nI i) (by first | assumption | omega) (by first | assumption | omega) (by first | assumption | omega)) (cwV 1 hts gX1_seatingsWith_X1_brokenBy rfl rfl rfl (by decide +kernel) ⟨Nat.le_of_ble_eq_true rfl, Nat.le_of_ble_eq_true rfl⟩) ⟨gcPR_blind, va_recv hK hP (ci := 1) (q0 := 0) rfl rfl, fun U hU hW => ⟨rfl, by rw [hU]; exact hPc, va_K.moved hW.alike hKc⟩⟩ rfl rfl hl.1 rfl (lv_room (Nat.le_of_ble_eq_true rfl)) dX1_seatingsWith_32 ⟨Nat.zero_le _, Nat.zero_le _⟩) hS (fun q _ h => h.elim) (fun q h => h.elim) (fun r1 u t H locs ht hvm hw hB hz1 hk1 hS => ?_)
      have hP := gc_keep hP hk1
      have hw : r1 = mBB K x1 x2 (nI i) := hw
      subst hw
      clear hw
      clear hB hz1 hk1 ht hvm
      clear hPc hKc
      refine lv_iconst (v := -1) hx hb dX1_seatingsWith_35 (by decide) ?_
      refine lv_icmp_ne (tgt := 43) hx hb dX1_seatingsWith_36 (by decide) (fun c_36 => ?_) (fun c_36 => ?_)
      · skip
        refine lv_iconst (v := 0) hx hb dX1_seatingsWith_43 (by decide) ?_
        refine lv_iadd hx hb dX1_seatingsWith_44 ?_
        refine lv_istore_n (lv' := [(3, .int (x + 0)), (4, .int (nI i)), (0, .ref (h 0)), (1, .int v), (2, .int fi)]) hx hb dX1_seatingsWith_45 rfl hl (by decide) rfl (fun ls hl => ?_)
        refine lv_iinc (v := nI (i + 1)) (lv' := [(4, .int (nI (i + 1))), (3, .int (x + 0)), (0, .ref (h 0)), (1, .int v), (2, .int fi)]) hx hb dX1_seatingsWith_46 hl (k := 1) rfl (nI_1 i) (by decide) rfl (fun ls hl => ?_)
        refine lv_goto (tgt := 5) hx hb dX1_seatingsWith_49 (by decide) ?_
        exact ihi H _ ls (by omega) ⟨(x + 0), (by rw [mSW, ← e_x]; rw [if_neg (fun q => c_36 q.2)]), hP, hS, lv_sub hl [0, 1, 2, 3, 4] rfl⟩
      · skip
        refine lv_iconst (v := 1) hx hb dX1_seatingsWith_39 (by decide) ?_
        refine lv_goto (tgt := 44) hx hb dX1_seatingsWith_40 (by decide) ?_
        refine lv_iadd hx hb dX1_seatingsWith_44 ?_
        refine lv_istore_n (lv' := [(3, .int (x + 1)), (4, .int (nI i)), (0, .ref (h 0)), (1, .int v), (2, .int fi)]) hx hb dX1_seatingsWith_45 rfl hl (by decide) rfl (fun ls hl => ?_)
        refine lv_iinc (v := nI (i + 1)) (lv' := [(4, .int (nI (i + 1))), (3, .int (x + 1)), (0, .ref (h 0)), (1, .int v), (2, .int fi)]) hx hb dX1_seatingsWith_46 hl (k := 1) rfl (nI_1 i) (by decide) rfl (fun ls hl => ?_)
        refine lv_goto (tgt := 5) hx hb dX1_seatingsWith_49 (by decide) ?_
        exact ihi H _ ls (by omega) ⟨(x + 1), (by rw [mSW, ← e_x]; rw [if_pos ⟨c_26, c_36⟩]), hP, hS, lv_sub hl [0, 1, 2, 3, 4] rfl⟩
set_option maxHeartbeats 4000000 in
set_option maxRecDepth 100000 in
theorem c_X1_all (l : Launch) (dC : Nat → ClassId) (dI : Nat → Nat → Nat) (h : Nat → Nat) (kc : Nat → ClassId) (f1 : Nat → Int32) (f2 : Nat → Int32) (of : Nat → Int32) (ro : Nat → Int32) (fa : Nat → Int32) (th : Int32) (g : Nat) (r : Nat) (x1 : Int32) (x2 : Int32) (K : Bk) (hBk : mOK K g r f1 f2 of) (hg : g ≤ 10) (hr30 : r ≤ 30) : Met l yX1_all wsX1_all ({ frames := 3, cells := 0, slots := 0, locals := 67 }) (gcPR (dC, dI) [.ref (h 0)] (gmW h kc f1 f2 of ro fa th (nI g) (nI r) x1 x2) (gmT kc)) (va_Qi (fun (rv : Int32) (_u : Unit) => rv = mAll K x1 x2 g) (fun _ _ => True) (fun _ => False)) 0 0 (fun _ => False) := by
  refine Met.ofW (cc := cX1_all) (maxL := 1) (ret := (some .int)) (by decide) rfl ?_
  intro p e s m args below meth c s₁ B hml hv
  obtain ⟨rfl, hP, hK⟩ := hv
  have hx := B.exec
  have hb := B.bytes
  have hr := B.returns
  have hts := atoms_spec (ws := wsX1_all) B.pre
  have hown : s.vm.findClass RX1 = some m.cls := findClass_of_methodNamed B.named
  have hlocks := B.notSynchronized
  have hS : va_S (fun _ => False) s.heap s.heap [] := va_S.rf
  have hP : va_P (dC, dI) vwCl (gmW h kc f1 f2 of ro fa th (nI g) (nI r) x1 x2) s.heap := hP
  have hin1 : ∀ w ∈ wsX10, w ∈ wsX1_all := by decide +kernel
  have hl := lv_entry [.ref (h 0)] (n := 1) (Nat.le_of_ble_eq_true rfl)
  rw [lg_entry_eq]
  generalize (lg_sl [.ref (h 0)] ++ List.replicate (1 - (lg_sl [.ref (h 0)]).length) Slot.unset).toArray = ls at hl ⊢
  have hl : lv_has ls 1 [(0, .ref (h 0))] := hl
  refine lv_aload_n hx hb dX1_all_0 rfl (lv_at hl 0 rfl) ?_
  refine lv_iconst (v := 0) hx hb dX1_all_1 (by decide) ?_
  refine lv_iconst (v := 0) hx hb dX1_all_2 (by decide) ?_
  have hPc : va_P (dC, dI) vwCl (gmW h kc f1 f2 of ro fa th (nI g) (nI r) x1 x2) _ := hP.sub [0, 1, 2, 3, 4, 5] rfl
  have hKc : va_K (dC, dI) vwCl (gmT kc) s := hK.sub [0, 1, 2, 3, 4] rfl
  refine va_calli (va_runV (As := [.int 0, .int 0]) (rest := []) ⟨hx, hb, hml, hown, hts⟩ (c_X1_seatingsWith l dC dI h kc f1 f2 of ro fa th g r x1 x2 K 0 0 (by first | assumption | omega) (by first | assumption | omega) (by first | assumption | omega)) (cwV 2 hts gX1_all_X1_seatingsWith rfl rfl rfl (by decide +kernel) ⟨Nat.le_of_ble_eq_true rfl, Nat.le_of_ble_eq_true rfl⟩) ⟨gcPR_blind, va_recv hK hP (ci := 1) (q0 := 0) rfl rfl, fun U hU hW => ⟨rfl, by rw [hU]; exact hPc, va_K.moved hW.alike hKc⟩⟩ rfl rfl hl.1 rfl (lv_room (Nat.le_of_ble_eq_true rfl)) dX1_all_3 ⟨Nat.zero_le _, Nat.zero_le _⟩) hS (fun q _ h => h.elim) (fun q h => h.elim) (fun r1 u t H locs ht hvm hw hB hz1 hk1 hS => ?_)
  have hP := gc_keep hP hk1
  have hw : r1 = mSW K x1 x2 0 0 (2 ^ g) := hw
  subst hw
  clear hw
  clear hB hz1 hk1 ht hvm
  clear hPc hKc
  have hpost : (mSW K x1 x2 0 0 (2 ^ g)) = mAll K x1 x2 g := by first | rfl | assumption
  exact W.iret (v := mSW K x1 x2 0 0 (2 ^ g)) hx hb hr (fun t ht hW => ⟨⟨mSW K x1 x2 0 0 (2 ^ g), (), rfl, hpost, trivial⟩, hS.F ht⟩) hS.2.2 dX1_all_6
set_option maxHeartbeats 4000000 in
set_option maxRecDepth 100000 in
theorem c_X1_isForced (l : Launch) (dC : Nat → ClassId) (dI : Nat → Nat → Nat) (h : Nat → Nat) (kc : Nat → ClassId) (f1 : Nat → Int32) (f2 : Nat → Int32) (of : Nat → Int32) (ro : Nat → Int32) (fa : Nat → Int32) (th : Int32) (g : Nat) (r : Nat) (x1 : Int32) (x2 : Int32) (K : Bk) (w : Int32) (hBk : mOK K g r f1 f2 of) (hg : g ≤ 10) (hr30 : r ≤ 30) : Met l yX1_isForced wsX1_isForced ({ frames := 4, cells := 0, slots := 0, locals := 87 }) (gcPR (dC, dI) [.ref (h 0), .int w] (gmW h kc f1 f2 of ro fa th (nI g) (nI r) x1 x2) (gmT kc)) (va_Qi (fun (rv : Int32) (_u : Unit) => rv = gB (mFo K x1 x2 w g)) (fun _ _ => True) (fun _ => False)) 0 0 (fun _ => False) := by
  refine Met.ofW (cc := cX1_isForced) (maxL := 4) (ret := (some .boolean)) (by decide) rfl ?_
  intro p e s m args below meth c s₁ B hml hv
  obtain ⟨rfl, hP, hK⟩ := hv
  have hx := B.exec
  have hb := B.bytes
  have hr := B.returns
  have hts := atoms_spec (ws := wsX1_isForced) B.pre
  have hown : s.vm.findClass RX1 = some m.cls := findClass_of_methodNamed B.named
  have hlocks := B.notSynchronized
  have hS : va_S (fun _ => False) s.heap s.heap [] := va_S.rf
  have hP : va_P (dC, dI) vwCl (gmW h kc f1 f2 of ro fa th (nI g) (nI r) x1 x2) s.heap := hP
  have hin1 : ∀ w ∈ wsX10, w ∈ wsX1_isForced := by decide +kernel
  have hl := lv_entry [.ref (h 0), .int w] (n := 4) (Nat.le_of_ble_eq_true rfl)
  rw [lg_entry_eq]
  generalize (lg_sl [.ref (h 0), .int w] ++ List.replicate (4 - (lg_sl [.ref (h 0), .int w]).length) Slot.unset).toArray = ls at hl ⊢
  have hl : lv_has ls 4 [(0, .ref (h 0)), (1, .int w)] := hl
  have hg2 : 2 ^ g ≤ 1024 := Nat.pow_le_pow_right (n := 2) (by decide) hg
  refine lv_aload_n hx hb dX1_isForced_0 rfl (lv_at hl 0 rfl) ?_
  have hPc : va_P (dC, dI) vwCl (gmW h kc f1 f2 of ro fa th (nI g) (nI r) x1 x2) _ := hP.sub [0, 1, 2, 3, 4, 5] rfl
  have hKc : va_K (dC, dI) vwCl (gmT kc) s := hK.sub [0, 1, 2, 3, 4] rfl
  refine va_calli (va_runV (As := []) (rest := []) ⟨hx, hb, hml, hown, hts⟩ (c_X1_all l dC dI h kc f1 f2 of ro fa th g r x1 x2 K (by first | assumption | omega) (by first | assumption | omega) (by first | assumption | omega)) (cwV 0 hts gX1_isForced_X1_all rfl rfl rfl (by decide +kernel) ⟨Nat.le_of_ble_eq_true rfl, Nat.le_of_ble_eq_true rfl⟩) ⟨gcPR_blind, va_recv hK hP (ci := 1) (q0 := 0) rfl rfl, fun U hU hW => ⟨rfl, by rw [hU]; exact hPc, va_K.moved hW.alike hKc⟩⟩ rfl rfl hl.1 rfl (lv_room (Nat.le_of_ble_eq_true rfl)) dX1_isForced_1 ⟨Nat.zero_le _, Nat.zero_le _⟩) hS (fun q _ h => h.elim) (fun q h => h.elim) (fun r1 u t H locs ht hvm hw hB hz1 hk1 hS => ?_)
  have hP := gc_keep hP hk1
  have hw : r1 = mAll K x1 x2 g := hw
  subst hw
  clear hw
  clear hB hz1 hk1 ht hvm
  clear hPc hKc
  refine lv_if_le (tgt := 11) hx hb dX1_isForced_4 (by decide) (fun c_4 => ?_) (fun c_4 => ?_)
  · skip
    refine lv_iconst (v := 0) hx hb dX1_isForced_11 (by decide) ?_
    refine lv_istore_n (lv' := [(2, .int 0), (0, .ref (h 0)), (1, .int w)]) hx hb dX1_isForced_12 rfl hl (by decide) rfl (fun ls hl => ?_)
    refine lv_iconst (v := 0) hx hb dX1_isForced_13 (by decide) ?_
    refine lv_istore_n (lv' := [(3, .int 0), (2, .int 0), (0, .ref (h 0)), (1, .int w)]) hx hb dX1_isForced_14 rfl hl (by decide) rfl (fun ls hl => ?_)
    refine gc_loop (2 ^ g) (fun (i : Nat) (H : Heap) (locs : List Loc) (ls : Array Slot) => ∃ (b : Bool), b = (mPo (mAll K x1 x2 g) && gmA (mFp K x1 x2 w) i) ∧ va_P (dC, dI) vwCl (gmW h kc f1 f2 of ro fa th (nI g) (nI r) x1 x2) H ∧ va_S (fun _ => False) s.heap H locs ∧ lv_has ls 4 [(3, .int (nI i)), (2, .int (gB b)), (0, .ref (h 0)), (1, .int w)]) 0 (Nat.zero_le _) ⟨false, (by simp [mPo, gmA, c_4]), hP, hS, lv_sub hl [0, 1, 2, 3] rfl⟩ ?_
    intro i H locs ls hi hI ihi
    obtain ⟨b, e_b, hP, hS, hl⟩ := hI
    refine lv_iload_n hx hb dX1_isForced_15 rfl (lv_at hl 0 rfl) ?_
    refine lv_iconst (v := 1) hx hb dX1_isForced_16 (by decide) ?_
    refine lv_aload_n hx hb dX1_isForced_17 rfl (lv_at hl 2 rfl) ?_
    refine va_get (D := (dC, dI)) (ci := 1) (v := .int (nI g)) (C := RX1) (T := TX1) (N := 10) hx hb hts hin1 hown hK hP 0 rfl rfl 1 (by decide) (hts (.fieldLink RX1 36 "GuestChairsModel" "guests" "I") (by decide +kernel)) (fun _ h9 => h9) rfl dX1_isForced_18 ?_
    refine lv_ishl hx hb dX1_isForced_21 ?_
    refine gc_topi (y := nI (2 ^ g)) (gc_shl1 hg) ?_
    refine lv_icmp_ge (tgt := 58) hx hb dX1_isForced_22 (by decide) (fun c_22 => ?_) (fun c_22 => ?_)
    · skip
      have hEi : i = 2 ^ g := gc_ge c_22 (by omega) (by omega)
      refine lv_iload_n hx hb dX1_isForced_58 rfl (lv_at hl 1 rfl) ?_
      have hpost : (gB b) = gB (mFo K x1 x2 w g) := by first | rw [e_b, hEi, mFo] | rw [mFo, mFo_stop (by rw [← e_b]; exact c_26) hi, c_26]
      exact W.zret (ty := .boolean) (v := gB b) hx hb hr (by first | rfl | decide | exact gB_nar _) (fun t ht hW => ⟨⟨gB b, (), rfl, hpost, trivial⟩, hS.F ht⟩) hS.2.2 dX1_isForced_59
    · skip
      have hLi : i < 2 ^ g := gc_lt c_22 (by omega) (by omega)
      refine lv_iload_n hx hb dX1_isForced_25 rfl (lv_at hl 1 rfl) ?_
      refine lv_if_eq (tgt := 58) hx hb dX1_isForced_26 (by decide) (fun c_26 => ?_) (fun c_26 => ?_)
      · skip
        have c_26 := gB_f c_26
        refine lv_iload_n hx hb dX1_isForced_58 rfl (lv_at hl 1 rfl) ?_
        have hpost : (gB b) = gB (mFo K x1 x2 w g) := by first | rw [e_b, hEi, mFo] | rw [mFo, mFo_stop (by rw [← e_b]; exact c_26) hi, c_26]
        exact W.zret (ty := .boolean) (v := gB b) hx hb hr (by first | rfl | decide | exact gB_nar _) (fun t ht hW => ⟨⟨gB b, (), rfl, hpost, trivial⟩, hS.F ht⟩) hS.2.2 dX1_isForced_59
      · skip
        have c_26 := gB_t c_26
        refine lv_aload_n hx hb dX1_isForced_29 rfl (lv_at hl 2 rfl) ?_
        refine lv_iload_n hx hb dX1_isForced_30 rfl (lv_at hl 0 rfl) ?_
        have hPc : va_P (dC, dI) vwCl (gmW h kc f1 f2 of ro fa th (nI g) (nI r) x1 x2) _ := hP.sub [0, 1, 2, 3, 4, 5] rfl
        have hKc : va_K (dC, dI) vwCl (gmT kc) s := hK.sub [0, 1, 2, 3, 4] rfl
        refine va_calli (va_runV (As := [.int (nI i)]) (rest := []) ⟨hx, hb, hml, hown, hts⟩ (c_X1_brokenBy l dC dI h kc f1 f2 of ro fa th g r x1 x2 K (nI i) (by first | assumption | omega) (by first | assumption | omega) (by first | assumption | omega)) (cwV 1 hts gX1_isForced_X1_brokenBy rfl rfl rfl (by decide +kernel) ⟨Nat.le_of_ble_eq_true rfl, Nat.le_of_ble_eq_true rfl⟩) ⟨gcPR_blind, va_recv hK hP (ci := 1) (q0 := 0) rfl rfl, fun U hU hW => ⟨rfl, by rw [hU]; exact hPc, va_K.moved hW.alike hKc⟩⟩ rfl rfl hl.1 rfl (lv_room (Nat.le_of_ble_eq_true rfl)) dX1_isForced_31 ⟨Nat.zero_le _, Nat.zero_le _⟩) hS (fun q _ h => h.elim) (fun q h => h.elim) (fun r2 u t H locs ht hvm hw hB hz1 hk1 hS => ?_)
        have hP := gc_keep hP hk1
        have hw : r2 = mBB K x1 x2 (nI i) := hw
        subst hw
        clear hw
        clear hB hz1 hk1 ht hvm
        clear hPc hKc
        refine lv_iconst (v := -1) hx hb dX1_isForced_34 (by decide) ?_
        refine lv_icmp_ne (tgt := 46) hx hb dX1_isForced_35 (by decide) (fun c_35 => ?_) (fun c_35 => ?_)
        · skip
          refine lv_iconst (v := 1) hx hb dX1_isForced_46 (by decide) ?_
          refine lv_goto (tgt := 51) hx hb dX1_isForced_47 (by decide) ?_
          refine lv_istore_n (lv' := [(2, .int 1), (3, .int (nI i)), (0, .ref (h 0)), (1, .int w)]) hx hb dX1_isForced_51 rfl hl (by decide) rfl (fun ls hl => ?_)
          refine lv_iinc (v := nI (i + 1)) (lv' := [(3, .int (nI (i + 1))), (2, .int 1), (0, .ref (h 0)), (1, .int w)]) hx hb dX1_isForced_52 hl (k := 1) rfl (nI_1 i) (by decide) rfl (fun ls hl => ?_)
          refine lv_goto (tgt := 15) hx hb dX1_isForced_55 (by decide) ?_
          exact ihi H _ ls (by omega) ⟨true, (by rw [gmA, ← Bool.and_assoc, ← e_b, c_26]; simp [mFp, c_4, c_26, c_35]), hP, hS, lv_sub hl [0, 1, 2, 3] rfl⟩
        · skip
          refine lv_iload_n hx hb dX1_isForced_38 rfl (lv_at hl 3 rfl) ?_
          refine lv_iload_n hx hb dX1_isForced_39 rfl (lv_at hl 0 rfl) ?_
          refine va_calli (va_runS (As := [.int w, .int (nI i)]) (rest := []) ⟨hx, hb, hml, hown, hts⟩ (c_X1_holds l w (nI i)) (va_cwS 2 hts gX1_isForced_X1_holds rfl rfl rfl (by decide +kernel) ⟨Nat.le_of_ble_eq_true rfl, Nat.le_of_ble_eq_true rfl⟩) ⟨fun a U g mk q => q, fun U hU hW => ⟨rfl, trivial⟩⟩ rfl rfl hl.1 rfl (lv_room (Nat.le_of_ble_eq_true rfl)) dX1_isForced_40 ⟨Nat.zero_le _, Nat.zero_le _⟩) hS (fun q _ h => h.elim) (fun q h => h.elim) (fun r3 u t H locs ht hvm hw hB hz1 hk1 hS => ?_)
          have hP := gc_keep hP hk1
          have hw : r3 = gB (mHo w (nI i)) := hw
          subst hw
          clear hw
          clear hB hz1 hk1 ht hvm
          refine lv_if_eq (tgt := 50) hx hb dX1_isForced_43 (by decide) (fun c_43 => ?_) (fun c_43 => ?_)
          · skip
            have c_43 := gB_f c_43
            refine lv_iconst (v := 0) hx hb dX1_isForced_50 (by decide) ?_
            refine lv_istore_n (lv' := [(2, .int 0), (3, .int (nI i)), (0, .ref (h 0)), (1, .int w)]) hx hb dX1_isForced_51 rfl hl (by decide) rfl (fun ls hl => ?_)
            refine lv_iinc (v := nI (i + 1)) (lv' := [(3, .int (nI (i + 1))), (2, .int 0), (0, .ref (h 0)), (1, .int w)]) hx hb dX1_isForced_52 hl (k := 1) rfl (nI_1 i) (by decide) rfl (fun ls hl => ?_)
            refine lv_goto (tgt := 15) hx hb dX1_isForced_55 (by decide) ?_
            exact ihi H _ ls (by omega) ⟨false, (by rw [gmA, ← Bool.and_assoc, ← e_b, c_26]; simp [mFp, c_4, c_26, c_35, c_43]), hP, hS, lv_sub hl [0, 1, 2, 3] rfl⟩
          · skip
            have c_43 := gB_t c_43
            refine lv_iconst (v := 1) hx hb dX1_isForced_46 (by decide) ?_
            refine lv_goto (tgt := 51) hx hb dX1_isForced_47 (by decide) ?_
            refine lv_istore_n (lv' := [(2, .int 1), (3, .int (nI i)), (0, .ref (h 0)), (1, .int w)]) hx hb dX1_isForced_51 rfl hl (by decide) rfl (fun ls hl => ?_)
            refine lv_iinc (v := nI (i + 1)) (lv' := [(3, .int (nI (i + 1))), (2, .int 1), (0, .ref (h 0)), (1, .int w)]) hx hb dX1_isForced_52 hl (k := 1) rfl (nI_1 i) (by decide) rfl (fun ls hl => ?_)
            refine lv_goto (tgt := 15) hx hb dX1_isForced_55 (by decide) ?_
            exact ihi H _ ls (by omega) ⟨true, (by rw [gmA, ← Bool.and_assoc, ← e_b, c_26]; simp [mFp, c_4, c_26, c_35, c_43]), hP, hS, lv_sub hl [0, 1, 2, 3] rfl⟩
  · skip
    refine lv_iconst (v := 1) hx hb dX1_isForced_7 (by decide) ?_
    refine lv_goto (tgt := 12) hx hb dX1_isForced_8 (by decide) ?_
    refine lv_istore_n (lv' := [(2, .int 1), (0, .ref (h 0)), (1, .int w)]) hx hb dX1_isForced_12 rfl hl (by decide) rfl (fun ls hl => ?_)
    refine lv_iconst (v := 0) hx hb dX1_isForced_13 (by decide) ?_
    refine lv_istore_n (lv' := [(3, .int 0), (2, .int 1), (0, .ref (h 0)), (1, .int w)]) hx hb dX1_isForced_14 rfl hl (by decide) rfl (fun ls hl => ?_)
    refine gc_loop (2 ^ g) (fun (i : Nat) (H : Heap) (locs : List Loc) (ls : Array Slot) => ∃ (b : Bool), b = (mPo (mAll K x1 x2 g) && gmA (mFp K x1 x2 w) i) ∧ va_P (dC, dI) vwCl (gmW h kc f1 f2 of ro fa th (nI g) (nI r) x1 x2) H ∧ va_S (fun _ => False) s.heap H locs ∧ lv_has ls 4 [(3, .int (nI i)), (2, .int (gB b)), (0, .ref (h 0)), (1, .int w)]) 0 (Nat.zero_le _) ⟨true, (by simp [mPo, gmA, c_4]), hP, hS, lv_sub hl [0, 1, 2, 3] rfl⟩ ?_
    intro i H locs ls hi hI ihi
    obtain ⟨b, e_b, hP, hS, hl⟩ := hI
    refine lv_iload_n hx hb dX1_isForced_15 rfl (lv_at hl 0 rfl) ?_
    refine lv_iconst (v := 1) hx hb dX1_isForced_16 (by decide) ?_
    refine lv_aload_n hx hb dX1_isForced_17 rfl (lv_at hl 2 rfl) ?_
    refine va_get (D := (dC, dI)) (ci := 1) (v := .int (nI g)) (C := RX1) (T := TX1) (N := 10) hx hb hts hin1 hown hK hP 0 rfl rfl 1 (by decide) (hts (.fieldLink RX1 36 "GuestChairsModel" "guests" "I") (by decide +kernel)) (fun _ h9 => h9) rfl dX1_isForced_18 ?_
    refine lv_ishl hx hb dX1_isForced_21 ?_
    refine gc_topi (y := nI (2 ^ g)) (gc_shl1 hg) ?_
    refine lv_icmp_ge (tgt := 58) hx hb dX1_isForced_22 (by decide) (fun c_22 => ?_) (fun c_22 => ?_)
    · skip
      have hEi : i = 2 ^ g := gc_ge c_22 (by omega) (by omega)
      refine lv_iload_n hx hb dX1_isForced_58 rfl (lv_at hl 1 rfl) ?_
      have hpost : (gB b) = gB (mFo K x1 x2 w g) := by first | rw [e_b, hEi, mFo] | rw [mFo, mFo_stop (by rw [← e_b]; exact c_26) hi, c_26]
      exact W.zret (ty := .boolean) (v := gB b) hx hb hr (by first | rfl | decide | exact gB_nar _) (fun t ht hW => ⟨⟨gB b, (), rfl, hpost, trivial⟩, hS.F ht⟩) hS.2.2 dX1_isForced_59
    · skip
      have hLi : i < 2 ^ g := gc_lt c_22 (by omega) (by omega)
      refine lv_iload_n hx hb dX1_isForced_25 rfl (lv_at hl 1 rfl) ?_
      refine lv_if_eq (tgt := 58) hx hb dX1_isForced_26 (by decide) (fun c_26 => ?_) (fun c_26 => ?_)
      · skip
        have c_26 := gB_f c_26
        refine lv_iload_n hx hb dX1_isForced_58 rfl (lv_at hl 1 rfl) ?_
        have hpost : (gB b) = gB (mFo K x1 x2 w g) := by first | rw [e_b, hEi, mFo] | rw [mFo, mFo_stop (by rw [← e_b]; exact c_26) hi, c_26]
        exact W.zret (ty := .boolean) (v := gB b) hx hb hr (by first | rfl | decide | exact gB_nar _) (fun t ht hW => ⟨⟨gB b, (), rfl, hpost, trivial⟩, hS.F ht⟩) hS.2.2 dX1_isForced_59
      · skip
        have c_26 := gB_t c_26
        refine lv_aload_n hx hb dX1_isForced_29 rfl (lv_at hl 2 rfl) ?_
        refine lv_iload_n hx hb dX1_isForced_30 rfl (lv_at hl 0 rfl) ?_
        have hPc : va_P (dC, dI) vwCl (gmW h kc f1 f2 of ro fa th (nI g) (nI r) x1 x2) _ := hP.sub [0, 1, 2, 3, 4, 5] rfl
        have hKc : va_K (dC, dI) vwCl (gmT kc) s := hK.sub [0, 1, 2, 3, 4] rfl
        refine va_calli (va_runV (As := [.int (nI i)]) (rest := []) ⟨hx, hb, hml, hown, hts⟩ (c_X1_brokenBy l dC dI h kc f1 f2 of ro fa th g r x1 x2 K (nI i) (by first | assumption | omega) (by first | assumption | omega) (by first | assumption | omega)) (cwV 1 hts gX1_isForced_X1_brokenBy rfl rfl rfl (by decide +kernel) ⟨Nat.le_of_ble_eq_true rfl, Nat.le_of_ble_eq_true rfl⟩) ⟨gcPR_blind, va_recv hK hP (ci := 1) (q0 := 0) rfl rfl, fun U hU hW => ⟨rfl, by rw [hU]; exact hPc, va_K.moved hW.alike hKc⟩⟩ rfl rfl hl.1 rfl (lv_room (Nat.le_of_ble_eq_true rfl)) dX1_isForced_31 ⟨Nat.zero_le _, Nat.zero_le _⟩) hS (fun q _ h => h.elim) (fun q h => h.elim) (fun r4 u t H locs ht hvm hw hB hz1 hk1 hS => ?_)
        have hP := gc_keep hP hk1
        have hw : r4 = mBB K x1 x2 (nI i) := hw
        subst hw
        clear hw
        clear hB hz1 hk1 ht hvm
        clear hPc hKc
        refine lv_iconst (v := -1) hx hb dX1_isForced_34 (by decide) ?_
        refine lv_icmp_ne (tgt := 46) hx hb dX1_isForced_35 (by decide) (fun c_35 => ?_) (fun c_35 => ?_)
        · skip
          refine lv_iconst (v := 1) hx hb dX1_isForced_46 (by decide) ?_
          refine lv_goto (tgt := 51) hx hb dX1_isForced_47 (by decide) ?_
          refine lv_istore_n (lv' := [(2, .int 1), (3, .int (nI i)), (0, .ref (h 0)), (1, .int w)]) hx hb dX1_isForced_51 rfl hl (by decide) rfl (fun ls hl => ?_)
          refine lv_iinc (v := nI (i + 1)) (lv' := [(3, .int (nI (i + 1))), (2, .int 1), (0, .ref (h 0)), (1, .int w)]) hx hb dX1_isForced_52 hl (k := 1) rfl (nI_1 i) (by decide) rfl (fun ls hl => ?_)
          refine lv_goto (tgt := 15) hx hb dX1_isForced_55 (by decide) ?_
          exact ihi H _ ls (by omega) ⟨true, (by rw [gmA, ← Bool.and_assoc, ← e_b, c_26]; simp [mFp, c_4, c_26, c_35]), hP, hS, lv_sub hl [0, 1, 2, 3] rfl⟩
        · skip
          refine lv_iload_n hx hb dX1_isForced_38 rfl (lv_at hl 3 rfl) ?_
          refine lv_iload_n hx hb dX1_isForced_39 rfl (lv_at hl 0 rfl) ?_
          refine va_calli (va_runS (As := [.int w, .int (nI i)]) (rest := []) ⟨hx, hb, hml, hown, hts⟩ (c_X1_holds l w (nI i)) (va_cwS 2 hts gX1_isForced_X1_holds rfl rfl rfl (by decide +kernel) ⟨Nat.le_of_ble_eq_true rfl, Nat.le_of_ble_eq_true rfl⟩) ⟨fun a U g mk q => q, fun U hU hW => ⟨rfl, trivial⟩⟩ rfl rfl hl.1 rfl (lv_room (Nat.le_of_ble_eq_true rfl)) dX1_isForced_40 ⟨Nat.zero_le _, Nat.zero_le _⟩) hS (fun q _ h => h.elim) (fun q h => h.elim) (fun r5 u t H locs ht hvm hw hB hz1 hk1 hS => ?_)
          have hP := gc_keep hP hk1
          have hw : r5 = gB (mHo w (nI i)) := hw
          subst hw
          clear hw
          clear hB hz1 hk1 ht hvm
          refine lv_if_eq (tgt := 50) hx hb dX1_isForced_43 (by decide) (fun c_43 => ?_) (fun c_43 => ?_)
          · skip
            have c_43 := gB_f c_43
            refine lv_iconst (v := 0) hx hb dX1_isForced_50 (by decide) ?_
            refine lv_istore_n (lv' := [(2, .int 0), (3, .int (nI i)), (0, .ref (h 0)), (1, .int w)]) hx hb dX1_isForced_51 rfl hl (by decide) rfl (fun ls hl => ?_)
            refine lv_iinc (v := nI (i + 1)) (lv' := [(3, .int (nI (i + 1))), (2, .int 0), (0, .ref (h 0)), (1, .int w)]) hx hb dX1_isForced_52 hl (k := 1) rfl (nI_1 i) (by decide) rfl (fun ls hl => ?_)
            refine lv_goto (tgt := 15) hx hb dX1_isForced_55 (by decide) ?_
            exact ihi H _ ls (by omega) ⟨false, (by rw [gmA, ← Bool.and_assoc, ← e_b, c_26]; simp [mFp, c_4, c_26, c_35, c_43]), hP, hS, lv_sub hl [0, 1, 2, 3] rfl⟩
          · skip
            have c_43 := gB_t c_43
            refine lv_iconst (v := 1) hx hb dX1_isForced_46 (by decide) ?_
            refine lv_goto (tgt := 51) hx hb dX1_isForced_47 (by decide) ?_
            refine lv_istore_n (lv' := [(2, .int 1), (3, .int (nI i)), (0, .ref (h 0)), (1, .int w)]) hx hb dX1_isForced_51 rfl hl (by decide) rfl (fun ls hl => ?_)
            refine lv_iinc (v := nI (i + 1)) (lv' := [(3, .int (nI (i + 1))), (2, .int 1), (0, .ref (h 0)), (1, .int w)]) hx hb dX1_isForced_52 hl (k := 1) rfl (nI_1 i) (by decide) rfl (fun ls hl => ?_)
            refine lv_goto (tgt := 15) hx hb dX1_isForced_55 (by decide) ?_
            exact ihi H _ ls (by omega) ⟨true, (by rw [gmA, ← Bool.and_assoc, ← e_b, c_26]; simp [mFp, c_4, c_26, c_35, c_43]), hP, hS, lv_sub hl [0, 1, 2, 3] rfl⟩
set_option maxHeartbeats 4000000 in
set_option maxRecDepth 100000 in
theorem c_X1_isVain (l : Launch) (dC : Nat → ClassId) (dI : Nat → Nat → Nat) (h : Nat → Nat) (kc : Nat → ClassId) (f1 : Nat → Int32) (f2 : Nat → Int32) (of : Nat → Int32) (ro : Nat → Int32) (fa : Nat → Int32) (th : Int32) (g : Nat) (r : Nat) (x1 : Int32) (x2 : Int32) (K : Bk) (w : Nat) (sz : Nat) (hBk : mOK K g r f1 f2 of) (hg : g ≤ 10) (hr30 : r ≤ 30) (hw : w < 20) : Met l yX1_isVain wsX1_isVain ({ frames := 3, cells := 0, slots := 0, locals := 70 }) (gcPM (dC, dI) [.ref (h 0), .int (nI w)] (gmW h kc f1 f2 of ro fa th (nI g) (nI r) x1 x2) (gmT kc) sz) (va_Qi (fun (rv : Int32) (u : (Nat → Int32) × (Nat → Int32)) => (match u with | (ro2, fa2) => rv = gB (fo K w (w ^^^ 1)))) (fun u t9 => va_P (dC, dI) vwCl (match u with | (ro2, fa2) => (gmW h kc f1 f2 of ro2 fa2 th (nI g) (nI r) x1 x2)) t9.heap ∧ va_D (va_A (gmW h kc f1 f2 of ro fa th (nI g) (nI r) x1 x2) sz) (match u with | (ro2, fa2) => (gmW h kc f1 f2 of ro2 fa2 th (nI g) (nI r) x1 x2))) (va_A (gmW h kc f1 f2 of ro fa th (nI g) (nI r) x1 x2) sz)) 0 0 (va_A (gmW h kc f1 f2 of ro fa th (nI g) (nI r) x1 x2) sz) := by
  refine Met.ofW (cc := cX1_isVain) (maxL := 2) (ret := (some .boolean)) (by decide) rfl ?_
  intro p e s m args below meth c s₁ B hml hv
  obtain ⟨rfl, hsz, hP, hK, hD0⟩ := hv
  have hx := B.exec
  have hb := B.bytes
  have hr := B.returns
  have hts := atoms_spec (ws := wsX1_isVain) B.pre
  have hown : s.vm.findClass RX1 = some m.cls := findClass_of_methodNamed B.named
  have hlocks := B.notSynchronized
  subst hsz
  have hD := hD0.self (sz := s.heap.size)
  generalize hAe : va_A (gmW h kc f1 f2 of ro fa th (nI g) (nI r) x1 x2) s.heap.size = A at hD ⊢
  have hA : ∀ q : Nat, s.heap.size ≤ q → A q := fun q h => by rw [← hAe]; exact Or.inr h
  have hS : va_S A s.heap s.heap [] := va_S.rf
  have hP : va_P (dC, dI) vwCl (gmW h kc f1 f2 of ro fa th (nI g) (nI r) x1 x2) s.heap := hP
  have hin1 : ∀ w ∈ wsX10, w ∈ wsX1_isVain := by decide +kernel
  have hl := lv_entry [.ref (h 0), .int (nI w)] (n := 2) (Nat.le_of_ble_eq_true rfl)
  rw [lg_entry_eq]
  generalize (lg_sl [.ref (h 0), .int (nI w)] ++ List.replicate (2 - (lg_sl [.ref (h 0), .int (nI w)]).length) Slot.unset).toArray = ls at hl ⊢
  have hl : lv_has ls 2 [(0, .ref (h 0)), (1, .int (nI w))] := hl
  refine lv_aload_n hx hb dX1_isVain_0 rfl (lv_at hl 0 rfl) ?_
  refine lv_iload_n hx hb dX1_isVain_1 rfl (lv_at hl 1 rfl) ?_
  refine lv_iload_n hx hb dX1_isVain_2 rfl (lv_at hl 1 rfl) ?_
  refine va_calli (va_runS (As := [.int (nI w)]) (rest := [.int (nI w), .ref (h 0)]) ⟨hx, hb, hml, hown, hts⟩ (c_X1_against l w (by first | assumption | omega)) (va_cwS 1 hts gX1_isVain_X1_against rfl rfl rfl (by decide +kernel) ⟨Nat.le_of_ble_eq_true rfl, Nat.le_of_ble_eq_true rfl⟩) ⟨fun a U g mk q => q, fun U hU hW => ⟨rfl, trivial⟩⟩ rfl rfl hl.1 rfl (lv_room (Nat.le_of_ble_eq_true rfl)) dX1_isVain_3 ⟨Nat.zero_le _, Nat.zero_le _⟩) hS (fun q _ h => h.elim) (fun q h => h.elim) (fun r1 u t H locs ht hvm hw hB hz1 hk1 hS => ?_)
  have hP := gc_keep hP hk1
  have hw : r1 = nI (w ^^^ 1) := hw
  subst hw
  clear hw
  clear hB hz1 hk1 ht hvm
  have hPc : va_P (dC, dI) vwCl (gmW h kc f1 f2 of ro fa th (nI g) (nI r) x1 x2) _ := hP.sub [0, 1, 2, 3, 4, 5] rfl
  have hKc : va_K (dC, dI) vwCl (gmT kc) s := hK.sub [0, 1, 2, 3, 4] rfl
  have hDc : va_D A (gmW h kc f1 f2 of ro fa th (nI g) (nI r) x1 x2) := hD.sub [0, 1, 2, 3, 4, 5] (by decide) rfl
  have hFc := va_free (wc := (gmW h kc f1 f2 of ro fa th (nI g) (nI r) x1 x2)) hD hS hA [0, 1, 2, 3, 4, 5] rfl
  refine va_calli (va_runV (As := [.int (nI w), .int (nI (w ^^^ 1))]) (rest := []) ⟨hx, hb, hml, hown, hts⟩ (c_X1_leads l dC dI h kc f1 f2 of ro fa th g r x1 x2 K w (w ^^^ 1) H.size (by first | assumption | omega) (by first | assumption | omega) (by first | assumption | omega) (by first | assumption | omega) (xor1_lt (n := 10) hw)) (cwV 2 hts gX1_isVain_X1_leads rfl rfl rfl (by decide +kernel) ⟨Nat.le_of_ble_eq_true rfl, Nat.le_of_ble_eq_true rfl⟩) ⟨gcPM_blind, va_recv hK hP (ci := 1) (q0 := 0) rfl rfl, fun U hU hW => ⟨rfl, by rw [hU], by rw [hU]; exact hPc, va_K.moved hW.alike hKc, hDc.weaken (fun _ _ _ _ => trivial)⟩⟩ rfl rfl hl.1 rfl (lv_room (Nat.le_of_ble_eq_true rfl)) dX1_isVain_6 ⟨Nat.zero_le _, Nat.zero_le _⟩) hS (fun q _ h => hFc q h) hFc (fun r2 u t H locs ht hvm hw hB hz1 hk1 hS => ?_)
  obtain ⟨ro23, fa24⟩ := u
  obtain ⟨hP1, hD1⟩ := hB
  rw [ht] at hP1
  obtain ⟨hP, hD⟩ := va_join (wr := []) (w1 := (gmW h kc f1 f2 of ro23 fa24 th (nI g) (nI r) x1 x2)) hP hD [0, 1, 2, 3, 4, 5] [] rfl rfl (by decide) (by decide) hk1 hFc hP1 hD1
  have hP : va_P (dC, dI) vwCl (gmW h kc f1 f2 of ro23 fa24 th (nI g) (nI r) x1 x2) H := hP.sub [0, 1, 2, 3, 4, 5] rfl
  have hD : va_D A (gmW h kc f1 f2 of ro23 fa24 th (nI g) (nI r) x1 x2) := hD.sub [0, 1, 2, 3, 4, 5] (by decide) rfl
  have hw : r2 = gB (fo K w (w ^^^ 1)) := hw
  subst hw
  clear hw
  clear hz1 hk1 ht hvm hP1 hD1 hFc hDc
  clear hPc hKc
  have hpost : (gB (fo K w (w ^^^ 1))) = gB (fo K w (w ^^^ 1)) := by first | rfl | assumption
  exact W.zret (ty := .boolean) (v := gB (fo K w (w ^^^ 1))) hx hb hr (by first | rfl | decide | exact gB_nar _) (fun t ht hW => ⟨⟨gB (fo K w (w ^^^ 1)), (ro23, fa24), rfl, hpost, ⟨by rw [ht]; exact hP, hD⟩⟩, hS.F ht⟩) hS.2.2 dX1_isVain_9
set_option maxHeartbeats 4000000 in
set_option maxRecDepth 100000 in
theorem c_X1_isTorn (l : Launch) (dC : Nat → ClassId) (dI : Nat → Nat → Nat) (h : Nat → Nat) (kc : Nat → ClassId) (f1 : Nat → Int32) (f2 : Nat → Int32) (of : Nat → Int32) (ro : Nat → Int32) (fa : Nat → Int32) (th : Int32) (g : Nat) (r : Nat) (x1 : Int32) (x2 : Int32) (K : Bk) (x : Nat) (sz : Nat) (hBk : mOK K g r f1 f2 of) (hg : g ≤ 10) (hr30 : r ≤ 30) (hx2 : x < g) : Met l yX1_isTorn wsX1_isTorn ({ frames := 4, cells := 0, slots := 0, locals := 91 }) (gcPM (dC, dI) [.ref (h 0), .int (nI x)] (gmW h kc f1 f2 of ro fa th (nI g) (nI r) x1 x2) (gmT kc) sz) (va_Qi (fun (rv : Int32) (u : (Nat → Int32) × (Nat → Int32)) => (match u with | (ro2, fa2) => rv = gB (mTo K x))) (fun u t9 => va_P (dC, dI) vwCl (match u with | (ro2, fa2) => (gmW h kc f1 f2 of ro2 fa2 th (nI g) (nI r) x1 x2)) t9.heap ∧ va_D (va_A (gmW h kc f1 f2 of ro fa th (nI g) (nI r) x1 x2) sz) (match u with | (ro2, fa2) => (gmW h kc f1 f2 of ro2 fa2 th (nI g) (nI r) x1 x2))) (va_A (gmW h kc f1 f2 of ro fa th (nI g) (nI r) x1 x2) sz)) 0 0 (va_A (gmW h kc f1 f2 of ro fa th (nI g) (nI r) x1 x2) sz) := by
  refine Met.ofW (cc := cX1_isTorn) (maxL := 2) (ret := (some .boolean)) (by decide) rfl ?_
  intro p e s m args below meth c s₁ B hml hv
  obtain ⟨rfl, hsz, hP, hK, hD0⟩ := hv
  have hx := B.exec
  have hb := B.bytes
  have hr := B.returns
  have hts := atoms_spec (ws := wsX1_isTorn) B.pre
  have hown : s.vm.findClass RX1 = some m.cls := findClass_of_methodNamed B.named
  have hlocks := B.notSynchronized
  subst hsz
  have hD := hD0.self (sz := s.heap.size)
  generalize hAe : va_A (gmW h kc f1 f2 of ro fa th (nI g) (nI r) x1 x2) s.heap.size = A at hD ⊢
  have hA : ∀ q : Nat, s.heap.size ≤ q → A q := fun q h => by rw [← hAe]; exact Or.inr h
  have hS : va_S A s.heap s.heap [] := va_S.rf
  have hP : va_P (dC, dI) vwCl (gmW h kc f1 f2 of ro fa th (nI g) (nI r) x1 x2) s.heap := hP
  have hin1 : ∀ w ∈ wsX10, w ∈ wsX1_isTorn := by decide +kernel
  have hl := lv_entry [.ref (h 0), .int (nI x)] (n := 2) (Nat.le_of_ble_eq_true rfl)
  rw [lg_entry_eq]
  generalize (lg_sl [.ref (h 0), .int (nI x)] ++ List.replicate (2 - (lg_sl [.ref (h 0), .int (nI x)]).length) Slot.unset).toArray = ls at hl ⊢
  have hl : lv_has ls 2 [(0, .ref (h 0)), (1, .int (nI x))] := hl
  refine lv_aload_n hx hb dX1_isTorn_0 rfl (lv_at hl 0 rfl) ?_
  refine lv_iconst (v := 2) hx hb dX1_isTorn_1 (by decide) ?_
  refine lv_iload_n hx hb dX1_isTorn_2 rfl (lv_at hl 1 rfl) ?_
  refine lv_imul hx hb dX1_isTorn_3 ?_
  refine gc_topi (y := nI (2 * x)) (pk_mul 2 x) ?_
  have hPc : va_P (dC, dI) vwCl (gmW h kc f1 f2 of ro fa th (nI g) (nI r) x1 x2) _ := hP.sub [0, 1, 2, 3, 4, 5] rfl
  have hKc : va_K (dC, dI) vwCl (gmT kc) s := hK.sub [0, 1, 2, 3, 4] rfl
  have hDc : va_D A (gmW h kc f1 f2 of ro fa th (nI g) (nI r) x1 x2) := hD.sub [0, 1, 2, 3, 4, 5] (by decide) rfl
  have hFc := va_free (wc := (gmW h kc f1 f2 of ro fa th (nI g) (nI r) x1 x2)) hD hS hA [0, 1, 2, 3, 4, 5] rfl
  refine va_calli (va_runV (As := [.int (nI (2 * x))]) (rest := []) ⟨hx, hb, hml, hown, hts⟩ (c_X1_isVain l dC dI h kc f1 f2 of ro fa th g r x1 x2 K (2 * x) s.heap.size (by first | assumption | omega) (by first | assumption | omega) (by first | assumption | omega) (by first | assumption | omega)) (cwV 1 hts gX1_isTorn_X1_isVain rfl rfl rfl (by decide +kernel) ⟨Nat.le_of_ble_eq_true rfl, Nat.le_of_ble_eq_true rfl⟩) ⟨gcPM_blind, va_recv hK hP (ci := 1) (q0 := 0) rfl rfl, fun U hU hW => ⟨rfl, by rw [hU], by rw [hU]; exact hPc, va_K.moved hW.alike hKc, hDc.weaken (fun _ _ _ _ => trivial)⟩⟩ rfl rfl hl.1 rfl (lv_room (Nat.le_of_ble_eq_true rfl)) dX1_isTorn_4 ⟨Nat.zero_le _, Nat.zero_le _⟩) hS (fun q _ h => hFc q h) hFc (fun r1 u t H locs ht hvm hw hB hz1 hk1 hS => ?_)
  obtain ⟨ro22, fa23⟩ := u
  obtain ⟨hP1, hD1⟩ := hB
  rw [ht] at hP1
  obtain ⟨hP, hD⟩ := va_join (wr := []) (w1 := (gmW h kc f1 f2 of ro22 fa23 th (nI g) (nI r) x1 x2)) hP hD [0, 1, 2, 3, 4, 5] [] rfl rfl (by decide) (by decide) hk1 hFc hP1 hD1
  have hP : va_P (dC, dI) vwCl (gmW h kc f1 f2 of ro22 fa23 th (nI g) (nI r) x1 x2) H := hP.sub [0, 1, 2, 3, 4, 5] rfl
  have hD : va_D A (gmW h kc f1 f2 of ro22 fa23 th (nI g) (nI r) x1 x2) := hD.sub [0, 1, 2, 3, 4, 5] (by decide) rfl
  have hw : r1 = gB (fo K (2 * x) ((2 * x) ^^^ 1)) := hw
  subst hw
  clear hw
  clear hz1 hk1 ht hvm hP1 hD1 hFc hDc
  clear hPc hKc
  refine lv_if_eq (tgt := 26) hx hb dX1_isTorn_7 (by decide) (fun c_7 => ?_) (fun c_7 => ?_)
  · skip
    have c_7 := gB_f c_7
    refine lv_iconst (v := 0) hx hb dX1_isTorn_26 (by decide) ?_
    have hpost : (0 : Int32) = gB (mTo K x) := by simp [gB, mTo, c_7]
    exact W.zret (ty := .boolean) (v := 0) hx hb hr (by first | rfl | decide | exact gB_nar _) (fun t ht hW => ⟨⟨0, (ro22, fa23), rfl, hpost, ⟨by rw [ht]; exact hP, hD⟩⟩, hS.F ht⟩) hS.2.2 dX1_isTorn_27
  · skip
    have c_7 := gB_t c_7
    refine lv_aload_n hx hb dX1_isTorn_10 rfl (lv_at hl 0 rfl) ?_
    refine lv_iconst (v := 2) hx hb dX1_isTorn_11 (by decide) ?_
    refine lv_iload_n hx hb dX1_isTorn_12 rfl (lv_at hl 1 rfl) ?_
    refine lv_imul hx hb dX1_isTorn_13 ?_
    refine gc_topi (y := nI (2 * x)) (pk_mul 2 x) ?_
    refine lv_iconst (v := 1) hx hb dX1_isTorn_14 (by decide) ?_
    refine lv_iadd hx hb dX1_isTorn_15 ?_
    refine gc_topi (y := nI (2 * x + 1)) (nI_1 (2 * x)) ?_
    have hPc : va_P (dC, dI) vwCl (gmW h kc f1 f2 of ro22 fa23 th (nI g) (nI r) x1 x2) _ := hP.sub [0, 1, 2, 3, 4, 5] rfl
    have hKc : va_K (dC, dI) vwCl (gmT kc) s := hK.sub [0, 1, 2, 3, 4] rfl
    have hDc : va_D A (gmW h kc f1 f2 of ro22 fa23 th (nI g) (nI r) x1 x2) := hD.sub [0, 1, 2, 3, 4, 5] (by decide) rfl
    have hFc := va_free (wc := (gmW h kc f1 f2 of ro22 fa23 th (nI g) (nI r) x1 x2)) hD hS hA [0, 1, 2, 3, 4, 5] rfl
    refine va_calli (va_runV (As := [.int (nI (2 * x + 1))]) (rest := []) ⟨hx, hb, hml, hown, hts⟩ (c_X1_isVain l dC dI h kc f1 f2 of ro22 fa23 th g r x1 x2 K (2 * x + 1) H.size (by first | assumption | omega) (by first | assumption | omega) (by first | assumption | omega) (by first | assumption | omega)) (cwV 1 hts gX1_isTorn_X1_isVain rfl rfl rfl (by decide +kernel) ⟨Nat.le_of_ble_eq_true rfl, Nat.le_of_ble_eq_true rfl⟩) ⟨gcPM_blind, va_recv hK hP (ci := 1) (q0 := 0) rfl rfl, fun U hU hW => ⟨rfl, by rw [hU], by rw [hU]; exact hPc, va_K.moved hW.alike hKc, hDc.weaken (fun _ _ _ _ => trivial)⟩⟩ rfl rfl hl.1 rfl (lv_room (Nat.le_of_ble_eq_true rfl)) dX1_isTorn_16 ⟨Nat.zero_le _, Nat.zero_le _⟩) hS (fun q _ h => hFc q h) hFc (fun r4 u t H locs ht hvm hw hB hz1 hk1 hS => ?_)
    obtain ⟨ro25, fa26⟩ := u
    obtain ⟨hP1, hD1⟩ := hB
    rw [ht] at hP1
    obtain ⟨hP, hD⟩ := va_join (wr := []) (w1 := (gmW h kc f1 f2 of ro25 fa26 th (nI g) (nI r) x1 x2)) hP hD [0, 1, 2, 3, 4, 5] [] rfl rfl (by decide) (by decide) hk1 hFc hP1 hD1
    have hP : va_P (dC, dI) vwCl (gmW h kc f1 f2 of ro25 fa26 th (nI g) (nI r) x1 x2) H := hP.sub [0, 1, 2, 3, 4, 5] rfl
    have hD : va_D A (gmW h kc f1 f2 of ro25 fa26 th (nI g) (nI r) x1 x2) := hD.sub [0, 1, 2, 3, 4, 5] (by decide) rfl
    have hw : r4 = gB (fo K (2 * x + 1) ((2 * x + 1) ^^^ 1)) := hw
    subst hw
    clear hw
    clear hz1 hk1 ht hvm hP1 hD1 hFc hDc
    clear hPc hKc
    refine lv_if_eq (tgt := 26) hx hb dX1_isTorn_19 (by decide) (fun c_19 => ?_) (fun c_19 => ?_)
    · skip
      have c_19 := gB_f c_19
      refine lv_iconst (v := 0) hx hb dX1_isTorn_26 (by decide) ?_
      have hpost : (0 : Int32) = gB (mTo K x) := by simp [gB, mTo, c_7, c_19]
      exact W.zret (ty := .boolean) (v := 0) hx hb hr (by first | rfl | decide | exact gB_nar _) (fun t ht hW => ⟨⟨0, (ro25, fa26), rfl, hpost, ⟨by rw [ht]; exact hP, hD⟩⟩, hS.F ht⟩) hS.2.2 dX1_isTorn_27
    · skip
      have c_19 := gB_t c_19
      refine lv_iconst (v := 1) hx hb dX1_isTorn_22 (by decide) ?_
      refine lv_goto (tgt := 27) hx hb dX1_isTorn_23 (by decide) ?_
      have hpost : (1 : Int32) = gB (mTo K x) := by simp [gB, mTo, c_7, c_19]
      exact W.zret (ty := .boolean) (v := 1) hx hb hr (by first | rfl | decide | exact gB_nar _) (fun t ht hW => ⟨⟨1, (ro25, fa26), rfl, hpost, ⟨by rw [ht]; exact hP, hD⟩⟩, hS.F ht⟩) hS.2.2 dX1_isTorn_27
set_option maxHeartbeats 4000000 in
set_option maxRecDepth 100000 in
theorem c_X1_reachOf (l : Launch) (dC : Nat → ClassId) (dI : Nat → Nat → Nat) (h : Nat → Nat) (kc : Nat → ClassId) (f1 : Nat → Int32) (f2 : Nat → Int32) (of : Nat → Int32) (ro : Nat → Int32) (fa : Nat → Int32) (th : Int32) (g : Nat) (r : Nat) (x1 : Int32) (x2 : Int32) (K : Bk) (a : Nat) (sz : Nat) (hBk : mOK K g r f1 f2 of) (hg : g ≤ 10) (hr30 : r ≤ 30) (ha : a < 20) : Met l yX1_reachOf wsX1_reachOf ({ frames := 2, cells := 0, slots := 0, locals := 48 }) (gcPM (dC, dI) [.ref (h 0), .int (nI a)] (gmW h kc f1 f2 of ro fa th (nI g) (nI r) x1 x2) (gmT kc) sz) (va_Qi (fun (rv : Int32) (u : (Nat → Int32) × (Nat → Int32)) => (match u with | (ro2, fa2) => rv = mRe K a (2 * g))) (fun u t9 => va_P (dC, dI) vwCl (match u with | (ro2, fa2) => (gmW h kc f1 f2 of ro2 fa2 th (nI g) (nI r) x1 x2)) t9.heap ∧ va_D (va_A (gmW h kc f1 f2 of ro fa th (nI g) (nI r) x1 x2) sz) (match u with | (ro2, fa2) => (gmW h kc f1 f2 of ro2 fa2 th (nI g) (nI r) x1 x2))) (va_A (gmW h kc f1 f2 of ro fa th (nI g) (nI r) x1 x2) sz)) 0 0 (va_A (gmW h kc f1 f2 of ro fa th (nI g) (nI r) x1 x2) sz) := by
  refine Met.ofW (cc := cX1_reachOf) (maxL := 4) (ret := (some .int)) (by decide) rfl ?_
  intro p e s m args below meth c s₁ B hml hv
  obtain ⟨rfl, hsz, hP, hK, hD0⟩ := hv
  have hx := B.exec
  have hb := B.bytes
  have hr := B.returns
  have hts := atoms_spec (ws := wsX1_reachOf) B.pre
  have hown : s.vm.findClass RX1 = some m.cls := findClass_of_methodNamed B.named
  have hlocks := B.notSynchronized
  subst hsz
  have hD := hD0.self (sz := s.heap.size)
  generalize hAe : va_A (gmW h kc f1 f2 of ro fa th (nI g) (nI r) x1 x2) s.heap.size = A at hD ⊢
  have hA : ∀ q : Nat, s.heap.size ≤ q → A q := fun q h => by rw [← hAe]; exact Or.inr h
  have hS : va_S A s.heap s.heap [] := va_S.rf
  have hP : va_P (dC, dI) vwCl (gmW h kc f1 f2 of ro fa th (nI g) (nI r) x1 x2) s.heap := hP
  have hin1 : ∀ w ∈ wsX10, w ∈ wsX1_reachOf := by decide +kernel
  have hl := lv_entry [.ref (h 0), .int (nI a)] (n := 4) (Nat.le_of_ble_eq_true rfl)
  rw [lg_entry_eq]
  generalize (lg_sl [.ref (h 0), .int (nI a)] ++ List.replicate (4 - (lg_sl [.ref (h 0), .int (nI a)]).length) Slot.unset).toArray = ls at hl ⊢
  have hl : lv_has ls 4 [(0, .ref (h 0)), (1, .int (nI a))] := hl
  refine lv_aload_n hx hb dX1_reachOf_0 rfl (lv_at hl 0 rfl) ?_
  refine lv_iload_n hx hb dX1_reachOf_1 rfl (lv_at hl 1 rfl) ?_
  have hPc : va_P (dC, dI) vwCl (gmW h kc f1 f2 of ro fa th (nI g) (nI r) x1 x2) _ := hP.sub [0, 1, 2, 3, 4, 5] rfl
  have hKc : va_K (dC, dI) vwCl (gmT kc) s := hK.sub [0, 1, 2, 3, 4] rfl
  have hDc : va_D A (gmW h kc f1 f2 of ro fa th (nI g) (nI r) x1 x2) := hD.sub [0, 1, 2, 3, 4, 5] (by decide) rfl
  have hFc := va_free (wc := (gmW h kc f1 f2 of ro fa th (nI g) (nI r) x1 x2)) hD hS hA [0, 1, 2, 3, 4, 5] rfl
  refine va_calli (va_runV (As := [.int (nI a)]) (rest := []) ⟨hx, hb, hml, hown, hts⟩ (c_X1_spread l dC dI h kc f1 f2 of ro fa th g r x1 x2 K a s.heap.size (by first | assumption | omega) (by first | assumption | omega) (by first | assumption | omega) (by first | assumption | omega)) (cwV 1 hts gX1_reachOf_X1_spread rfl rfl rfl (by decide +kernel) ⟨Nat.le_of_ble_eq_true rfl, Nat.le_of_ble_eq_true rfl⟩) ⟨gcPM_blind, va_recv hK hP (ci := 1) (q0 := 0) rfl rfl, fun U hU hW => ⟨rfl, by rw [hU], by rw [hU]; exact hPc, va_K.moved hW.alike hKc, hDc.weaken (fun _ _ _ _ => trivial)⟩⟩ rfl rfl hl.1 rfl (lv_room (Nat.le_of_ble_eq_true rfl)) dX1_reachOf_2 ⟨Nat.zero_le _, Nat.zero_le _⟩) hS (fun q _ h => hFc q h) hFc (fun r1 u t H locs ht hvm hw hB hz1 hk1 hS => ?_)
  obtain ⟨ro22, fa23⟩ := u
  obtain ⟨hP1, hD1⟩ := hB
  rw [ht] at hP1
  obtain ⟨hP, hD⟩ := va_join (wr := []) (w1 := (gmW h kc f1 f2 of ro22 fa23 th (nI g) (nI r) x1 x2)) hP hD [0, 1, 2, 3, 4, 5] [] rfl rfl (by decide) (by decide) hk1 hFc hP1 hD1
  have hP : va_P (dC, dI) vwCl (gmW h kc f1 f2 of ro22 fa23 th (nI g) (nI r) x1 x2) H := hP.sub [0, 1, 2, 3, 4, 5] rfl
  have hD : va_D A (gmW h kc f1 f2 of ro22 fa23 th (nI g) (nI r) x1 x2) := hD.sub [0, 1, 2, 3, 4, 5] (by decide) rfl
  have hw_2 : r1 = nI (fb_ct (fun v => fo K a v) 20) ∧ (∀ v, v < 20 → fa23 v = di K a v) ∧ ∀ v, v < 20 → (fo K a v = true ∧ ∃ n, n < 20 ∧ di K a v = nI n ∧ rk K n a v) ∨ (fo K a v = false ∧ di K a v = -1) := hw
  clear hz1 hk1 ht hvm hP1 hD1 hFc hDc
  clear hPc hKc
  refine lv_pop hx hb dX1_reachOf_5 rfl ?_
  refine lv_iconst (v := 0) hx hb dX1_reachOf_6 (by decide) ?_
  refine lv_istore_n (lv' := [(2, .int 0), (0, .ref (h 0)), (1, .int (nI a))]) hx hb dX1_reachOf_7 rfl hl (by decide) rfl (fun ls hl => ?_)
  refine lv_iconst (v := 0) hx hb dX1_reachOf_8 (by decide) ?_
  refine lv_istore_n (lv' := [(3, .int 0), (2, .int 0), (0, .ref (h 0)), (1, .int (nI a))]) hx hb dX1_reachOf_9 rfl hl (by decide) rfl (fun ls hl => ?_)
  refine gc_loop (2 * g) (fun (i : Nat) (H : Heap) (locs : List Loc) (ls : Array Slot) => ∃ (y : Int32), y = mRe K a i ∧ va_P (dC, dI) vwCl (gmW h kc f1 f2 of ro22 fa23 th (nI g) (nI r) x1 x2) H ∧ va_D A (gmW h kc f1 f2 of ro22 fa23 th (nI g) (nI r) x1 x2) ∧ va_S A s.heap H locs ∧ lv_has ls 4 [(3, .int (nI i)), (2, .int y), (0, .ref (h 0)), (1, .int (nI a))]) 0 (Nat.zero_le _) ⟨0, (by first | rfl | assumption | omega), hP, hD, hS, lv_sub hl [0, 1, 2, 3] rfl⟩ ?_
  intro i H locs ls hi hI ihi
  obtain ⟨y, e_y, hP, hD, hS, hl⟩ := hI
  refine lv_iload_n hx hb dX1_reachOf_10 rfl (lv_at hl 0 rfl) ?_
  refine lv_iconst (v := 2) hx hb dX1_reachOf_11 (by decide) ?_
  refine lv_aload_n hx hb dX1_reachOf_12 rfl (lv_at hl 2 rfl) ?_
  refine va_get (D := (dC, dI)) (ci := 1) (v := .int (nI g)) (C := RX1) (T := TX1) (N := 10) hx hb hts hin1 hown hK hP 0 rfl rfl 1 (by decide) (hts (.fieldLink RX1 36 "GuestChairsModel" "guests" "I") (by decide +kernel)) (fun _ h9 => h9) rfl dX1_reachOf_13 ?_
  refine lv_imul hx hb dX1_reachOf_16 ?_
  refine gc_topi (y := nI (2 * g)) (pk_mul 2 g) ?_
  refine lv_icmp_ge (tgt := 46) hx hb dX1_reachOf_17 (by decide) (fun c_17 => ?_) (fun c_17 => ?_)
  · skip
    have hEi : i = 2 * g := gc_ge c_17 (by omega) (by omega)
    refine lv_iload_n hx hb dX1_reachOf_46 rfl (lv_at hl 1 rfl) ?_
    have hpost : y = mRe K a (2 * g) := by rw [e_y, hEi]
    exact W.iret (v := y) hx hb hr (fun t ht hW => ⟨⟨y, (ro22, fa23), rfl, hpost, ⟨by rw [ht]; exact hP, hD⟩⟩, hS.F ht⟩) hS.2.2 dX1_reachOf_47
  · skip
    have hLi : i < 2 * g := gc_lt c_17 (by omega) (by omega)
    refine lv_iload_n hx hb dX1_reachOf_20 rfl (lv_at hl 1 rfl) ?_
    refine lv_aload_n hx hb dX1_reachOf_21 rfl (lv_at hl 2 rfl) ?_
    refine va_get (D := (dC, dI)) (ci := 1) (v := .ref (h 5)) (C := RX1) (T := TX1) (N := 10) hx hb hts hin1 hown hK hP 0 rfl rfl 9 (by decide) (hts (.fieldLink RX1 30 "GuestChairsModel" "far" "[I") (by decide +kernel)) (fun _ h9 => h9) rfl dX1_reachOf_22 ?_
    refine lv_iload_n hx hb dX1_reachOf_25 rfl (lv_at hl 0 rfl) ?_
    refine va_iald hx hb hK hP 5 4 rfl rfl (vp_in_nI (n := i) (by omega) (by decide)) dX1_reachOf_26 ?_
    rw [nI_clamp (n := i) (by omega)]
    refine lv_iconst (v := -1) hx hb dX1_reachOf_27 (by decide) ?_
    refine lv_icmp_ne (tgt := 35) hx hb dX1_reachOf_28 (by decide) (fun c_28 => ?_) (fun c_28 => ?_)
    · skip
      have hfo : fo K a i = true := fo_yes (hw_2.2.1 i (by omega)) (hw_2.2.2 i (by omega)) c_28
      refine lv_iconst (v := 1) hx hb dX1_reachOf_35 (by decide) ?_
      refine lv_iload_n hx hb dX1_reachOf_36 rfl (lv_at hl 0 rfl) ?_
      refine lv_ishl hx hb dX1_reachOf_37 ?_
      refine lv_ior hx hb dX1_reachOf_38 ?_
      refine lv_istore_n (lv' := [(2, .int (y ||| ((1 : Int32) <<< (nI i &&& 31)))), (3, .int (nI i)), (0, .ref (h 0)), (1, .int (nI a))]) hx hb dX1_reachOf_39 rfl hl (by decide) rfl (fun ls hl => ?_)
      refine lv_iinc (v := nI (i + 1)) (lv' := [(3, .int (nI (i + 1))), (2, .int (y ||| ((1 : Int32) <<< (nI i &&& 31)))), (0, .ref (h 0)), (1, .int (nI a))]) hx hb dX1_reachOf_40 hl (k := 1) rfl (nI_1 i) (by decide) rfl (fun ls hl => ?_)
      refine lv_goto (tgt := 10) hx hb dX1_reachOf_43 (by decide) ?_
      exact ihi H _ ls (by omega) ⟨(y ||| ((1 : Int32) <<< (nI i &&& 31))), (by rw [mRe, ← e_y, hfo]; rfl), hP, hD, hS, lv_sub hl [0, 1, 2, 3] rfl⟩
    · skip
      have hfo : fo K a i = false := fo_no (hw_2.2.1 i (by omega)) (hw_2.2.2 i (by omega)) c_28
      refine lv_iconst (v := 0) hx hb dX1_reachOf_31 (by decide) ?_
      refine lv_goto (tgt := 38) hx hb dX1_reachOf_32 (by decide) ?_
      refine lv_ior hx hb dX1_reachOf_38 ?_
      refine lv_istore_n (lv' := [(2, .int (y ||| 0)), (3, .int (nI i)), (0, .ref (h 0)), (1, .int (nI a))]) hx hb dX1_reachOf_39 rfl hl (by decide) rfl (fun ls hl => ?_)
      refine lv_iinc (v := nI (i + 1)) (lv' := [(3, .int (nI (i + 1))), (2, .int (y ||| 0)), (0, .ref (h 0)), (1, .int (nI a))]) hx hb dX1_reachOf_40 hl (k := 1) rfl (nI_1 i) (by decide) rfl (fun ls hl => ?_)
      refine lv_goto (tgt := 10) hx hb dX1_reachOf_43 (by decide) ?_
      exact ihi H _ ls (by omega) ⟨(y ||| 0), (by rw [mRe, ← e_y, hfo]; rfl), hP, hD, hS, lv_sub hl [0, 1, 2, 3] rfl⟩
set_option maxHeartbeats 4000000 in
set_option maxRecDepth 100000 in
theorem c_X1_guestTold (l : Launch) (dC : Nat → ClassId) (dI : Nat → Nat → Nat) (h : Nat → Nat) (kc : Nat → ClassId) (f1 : Nat → Int32) (f2 : Nat → Int32) (of : Nat → Int32) (ro : Nat → Int32) (fa : Nat → Int32) (th : Int32) (g : Nat) (r : Nat) (x1 : Int32) (x2 : Int32) (K : Bk) (x : Nat) (w : Nat) (sz : Nat) (hBk : mOK K g r f1 f2 of) (hg : g ≤ 10) (hr30 : r ≤ 30) (hx2 : x < g) (hw : w < 4) : Met l yX1_guestTold wsX1_guestTold ({ frames := 5, cells := 0, slots := 0, locals := 112 }) (gcPM (dC, dI) [.ref (h 0), .int (nI x), .int (nI w)] (gmW h kc f1 f2 of ro fa th (nI g) (nI r) x1 x2) (gmT kc) sz) (va_Qi (fun (rv : Int32) (u : (Nat → Int32) × (Nat → Int32)) => (match u with | (ro2, fa2) => rv = mGu K x1 x2 g x w)) (fun u t9 => va_P (dC, dI) vwCl (match u with | (ro2, fa2) => (gmW h kc f1 f2 of ro2 fa2 th (nI g) (nI r) x1 x2)) t9.heap ∧ va_D (va_A (gmW h kc f1 f2 of ro fa th (nI g) (nI r) x1 x2) sz) (match u with | (ro2, fa2) => (gmW h kc f1 f2 of ro2 fa2 th (nI g) (nI r) x1 x2))) (va_A (gmW h kc f1 f2 of ro fa th (nI g) (nI r) x1 x2) sz)) 0 0 (va_A (gmW h kc f1 f2 of ro fa th (nI g) (nI r) x1 x2) sz) := by
  refine Met.ofW (cc := cX1_guestTold) (maxL := 7) (ret := (some .int)) (by decide) rfl ?_
  intro p e s m args below meth c s₁ B hml hv
  obtain ⟨rfl, hsz, hP, hK, hD0⟩ := hv
  have hx := B.exec
  have hb := B.bytes
  have hr := B.returns
  have hts := atoms_spec (ws := wsX1_guestTold) B.pre
  have hown : s.vm.findClass RX1 = some m.cls := findClass_of_methodNamed B.named
  have hlocks := B.notSynchronized
  subst hsz
  have hD := hD0.self (sz := s.heap.size)
  generalize hAe : va_A (gmW h kc f1 f2 of ro fa th (nI g) (nI r) x1 x2) s.heap.size = A at hD ⊢
  have hA : ∀ q : Nat, s.heap.size ≤ q → A q := fun q h => by rw [← hAe]; exact Or.inr h
  have hS : va_S A s.heap s.heap [] := va_S.rf
  have hP : va_P (dC, dI) vwCl (gmW h kc f1 f2 of ro fa th (nI g) (nI r) x1 x2) s.heap := hP
  have hin1 : ∀ w ∈ wsX10, w ∈ wsX1_guestTold := by decide +kernel
  have hl := lv_entry [.ref (h 0), .int (nI x), .int (nI w)] (n := 7) (Nat.le_of_ble_eq_true rfl)
  rw [lg_entry_eq]
  generalize (lg_sl [.ref (h 0), .int (nI x), .int (nI w)] ++ List.replicate (7 - (lg_sl [.ref (h 0), .int (nI x), .int (nI w)]).length) Slot.unset).toArray = ls at hl ⊢
  have hl : lv_has ls 7 [(0, .ref (h 0)), (1, .int (nI x)), (2, .int (nI w))] := hl
  refine lv_iload_n hx hb dX1_guestTold_0 rfl (lv_at hl 2 rfl) ?_
  refine lv_iconst (v := 2) hx hb dX1_guestTold_1 (by decide) ?_
  refine lv_icmp_ge (tgt := 23) hx hb dX1_guestTold_2 (by decide) (fun c_2 => ?_) (fun c_2 => ?_)
  · skip
    have c_2 : ¬ w < 2 := fun q => absurd ((nI_leI (a := 2) (by omega) (by omega)).mp c_2) (by omega)
    refine lv_iload_n hx hb dX1_guestTold_23 rfl (lv_at hl 2 rfl) ?_
    refine lv_iconst (v := 2) hx hb dX1_guestTold_24 (by decide) ?_
    refine lv_icmp_ne (tgt := 42) hx hb dX1_guestTold_25 (by decide) (fun c_25 => ?_) (fun c_25 => ?_)
    · skip
      have c_25 : ¬ w = 2 := fun q => c_25 (by rw [q]; rfl)
      refine lv_iconst (v := 0) hx hb dX1_guestTold_42 (by decide) ?_
      refine lv_istore_n (lv' := [(3, .int 0), (0, .ref (h 0)), (1, .int (nI x)), (2, .int (nI w))]) hx hb dX1_guestTold_43 rfl hl (by decide) rfl (fun ls hl => ?_)
      refine lv_iconst (v := 0) hx hb dX1_guestTold_44 (by decide) ?_
      refine lv_istore (lv' := [(4, .int 0), (3, .int 0), (0, .ref (h 0)), (1, .int (nI x)), (2, .int (nI w))]) hx hb dX1_guestTold_45 hl (by decide) rfl (fun ls hl => ?_)
      refine gc_loop (g) (fun (y : Nat) (H : Heap) (locs : List Loc) (ls : Array Slot) => ∃ (z : Int32) (ra0 : Nat → Int32) (fb0 : Nat → Int32), z = mGs K x y ∧ va_P (dC, dI) vwCl (gmW h kc f1 f2 of ra0 fb0 th (nI g) (nI r) x1 x2) H ∧ va_D A (gmW h kc f1 f2 of ra0 fb0 th (nI g) (nI r) x1 x2) ∧ va_S A s.heap H locs ∧ lv_has ls 7 [(4, .int (nI y)), (3, .int z), (0, .ref (h 0)), (1, .int (nI x)), (2, .int (nI w))]) 0 (Nat.zero_le _) ⟨0, ro, fa, (by first | rfl | assumption | omega), hP, hD, hS, lv_sub hl [0, 1, 2, 3, 4] rfl⟩ ?_
      intro y H locs ls hy hI ihy
      obtain ⟨z, ra0, fb0, e_z, hP, hD, hS, hl⟩ := hI
      refine lv_iload hx hb dX1_guestTold_47 (lv_at hl 0 rfl) ?_
      refine lv_aload_n hx hb dX1_guestTold_49 rfl (lv_at hl 2 rfl) ?_
      refine va_get (D := (dC, dI)) (ci := 1) (v := .int (nI g)) (C := RX1) (T := TX1) (N := 10) hx hb hts hin1 hown hK hP 0 rfl rfl 1 (by decide) (hts (.fieldLink RX1 36 "GuestChairsModel" "guests" "I") (by decide +kernel)) (fun _ h9 => h9) rfl dX1_guestTold_50 ?_
      refine lv_icmp_ge (tgt := 153) hx hb dX1_guestTold_53 (by decide) (fun c_53 => ?_) (fun c_53 => ?_)
      · skip
        have hEy : y = g := gc_ge c_53 (by omega) (by omega)
        refine lv_iload_n hx hb dX1_guestTold_153 rfl (lv_at hl 1 rfl) ?_
        have hpost : z = mGu K x1 x2 g x w := by rw [e_z, hEy]; simp [mGu, c_2, c_25]
        exact W.iret (v := z) hx hb hr (fun t ht hW => ⟨⟨z, (ra0, fb0), rfl, hpost, ⟨by rw [ht]; exact hP, hD⟩⟩, hS.F ht⟩) hS.2.2 dX1_guestTold_154
      · skip
        have hLy : y < g := gc_lt c_53 (by omega) (by omega)
        refine lv_iconst (v := 0) hx hb dX1_guestTold_56 (by decide) ?_
        refine lv_istore (lv' := [(5, .int 0), (4, .int (nI y)), (3, .int z), (0, .ref (h 0)), (1, .int (nI x)), (2, .int (nI w))]) hx hb dX1_guestTold_57 hl (by decide) rfl (fun ls hl => ?_)
        refine lv_iconst (v := 0) hx hb dX1_guestTold_59 (by decide) ?_
        refine lv_istore (lv' := [(6, .int 0), (5, .int 0), (4, .int (nI y)), (3, .int z), (0, .ref (h 0)), (1, .int (nI x)), (2, .int (nI w))]) hx hb dX1_guestTold_60 hl (by decide) rfl (fun ls hl => ?_)
        refine gc_loop (4) (fun (k : Nat) (H : Heap) (locs : List Loc) (ls : Array Slot) => ∃ (b : Bool) (ra1 : Nat → Int32) (fb1 : Nat → Int32), b = mGo K x y k ∧ va_P (dC, dI) vwCl (gmW h kc f1 f2 of ra1 fb1 th (nI g) (nI r) x1 x2) H ∧ va_D A (gmW h kc f1 f2 of ra1 fb1 th (nI g) (nI r) x1 x2) ∧ va_S A s.heap H locs ∧ lv_has ls 7 [(6, .int (nI k)), (5, .int (gB b)), (4, .int (nI y)), (3, .int z), (0, .ref (h 0)), (1, .int (nI x)), (2, .int (nI w))]) 0 (Nat.zero_le _) ⟨false, ra0, fb0, (by first | rfl | assumption | omega), hP, hD, hS, lv_sub hl [0, 1, 2, 3, 4, 5, 6] rfl⟩ ?_
        intro k H locs ls hk hI ihk
        obtain ⟨b, ra1, fb1, e_b, hP, hD, hS, hl⟩ := hI
        refine lv_iload hx hb dX1_guestTold_62 (lv_at hl 0 rfl) ?_
        refine lv_iconst (v := 4) hx hb dX1_guestTold_64 (by decide) ?_
        refine lv_icmp_ge (tgt := 134) hx hb dX1_guestTold_65 (by decide) (fun c_65 => ?_) (fun c_65 => ?_)
        · skip
          have hEk : k = 4 := gc_ge c_65 (by omega) (by omega)
          refine lv_iload_n hx hb dX1_guestTold_134 rfl (lv_at hl 3 rfl) ?_
          refine lv_iload hx hb dX1_guestTold_135 (lv_at hl 1 rfl) ?_
          refine lv_if_eq (tgt := 144) hx hb dX1_guestTold_137 (by decide) (fun c_137 => ?_) (fun c_137 => ?_)
          · skip
            have c_137 := gB_f c_137
            refine lv_iconst (v := 0) hx hb dX1_guestTold_144 (by decide) ?_
            refine lv_iadd hx hb dX1_guestTold_145 ?_
            refine lv_istore_n (lv' := [(3, .int (z + 0)), (6, .int (nI k)), (5, .int (gB b)), (4, .int (nI y)), (0, .ref (h 0)), (1, .int (nI x)), (2, .int (nI w))]) hx hb dX1_guestTold_146 rfl hl (by decide) rfl (fun ls hl => ?_)
            refine lv_iinc (v := nI (y + 1)) (lv' := [(4, .int (nI (y + 1))), (3, .int (z + 0)), (6, .int (nI k)), (5, .int (gB b)), (0, .ref (h 0)), (1, .int (nI x)), (2, .int (nI w))]) hx hb dX1_guestTold_147 hl (k := 3) rfl (nI_1 y) (by decide) rfl (fun ls hl => ?_)
            refine lv_goto (tgt := 47) hx hb dX1_guestTold_150 (by decide) ?_
            exact ihy H _ ls (by omega) ⟨(z + 0), ra1, fb1, (by (have q : mGo K x y 4 = b := by rw [e_b, hEk]); rw [mGs, ← e_z, q, c_137]; rfl), hP, hD, hS, lv_sub hl [0, 1, 4, 5, 6] rfl⟩
          · skip
            have c_137 := gB_t c_137
            refine lv_iconst (v := 1) hx hb dX1_guestTold_140 (by decide) ?_
            refine lv_goto (tgt := 145) hx hb dX1_guestTold_141 (by decide) ?_
            refine lv_iadd hx hb dX1_guestTold_145 ?_
            refine lv_istore_n (lv' := [(3, .int (z + 1)), (6, .int (nI k)), (5, .int (gB b)), (4, .int (nI y)), (0, .ref (h 0)), (1, .int (nI x)), (2, .int (nI w))]) hx hb dX1_guestTold_146 rfl hl (by decide) rfl (fun ls hl => ?_)
            refine lv_iinc (v := nI (y + 1)) (lv' := [(4, .int (nI (y + 1))), (3, .int (z + 1)), (6, .int (nI k)), (5, .int (gB b)), (0, .ref (h 0)), (1, .int (nI x)), (2, .int (nI w))]) hx hb dX1_guestTold_147 hl (k := 3) rfl (nI_1 y) (by decide) rfl (fun ls hl => ?_)
            refine lv_goto (tgt := 47) hx hb dX1_guestTold_150 (by decide) ?_
            exact ihy H _ ls (by omega) ⟨(z + 1), ra1, fb1, (by (have q : mGo K x y 4 = b := by rw [e_b, hEk]); rw [mGs, ← e_z, q, c_137]; rfl), hP, hD, hS, lv_sub hl [0, 1, 4, 5, 6] rfl⟩
        · skip
          have hLk : k < 4 := gc_lt c_65 (by omega) (by omega)
          refine lv_iload hx hb dX1_guestTold_68 (lv_at hl 1 rfl) ?_
          refine lv_if_ne (tgt := 121) hx hb dX1_guestTold_70 (by decide) (fun c_70 => ?_) (fun c_70 => ?_)
          · skip
            have c_70 := gB_t c_70
            refine lv_iconst (v := 1) hx hb dX1_guestTold_121 (by decide) ?_
            refine lv_goto (tgt := 126) hx hb dX1_guestTold_122 (by decide) ?_
            refine lv_istore (lv' := [(5, .int 1), (6, .int (nI k)), (4, .int (nI y)), (3, .int z), (0, .ref (h 0)), (1, .int (nI x)), (2, .int (nI w))]) hx hb dX1_guestTold_126 hl (by decide) rfl (fun ls hl => ?_)
            refine lv_iinc (v := nI (k + 1)) (lv' := [(6, .int (nI (k + 1))), (5, .int 1), (4, .int (nI y)), (3, .int z), (0, .ref (h 0)), (1, .int (nI x)), (2, .int (nI w))]) hx hb dX1_guestTold_128 hl (k := 1) rfl (nI_1 k) (by decide) rfl (fun ls hl => ?_)
            refine lv_goto (tgt := 62) hx hb dX1_guestTold_131 (by decide) ?_
            exact ihk H _ ls (by omega) ⟨true, ra1, fb1, (by simp only [mGo, ← e_b]; simp [mGo, c_2, c_25, c_70]), hP, hD, hS, lv_sub hl [0, 1, 2, 3, 4, 5, 6] rfl⟩
          · skip
            have c_70 := gB_f c_70
            refine lv_aload_n hx hb dX1_guestTold_73 rfl (lv_at hl 4 rfl) ?_
            refine lv_iconst (v := 2) hx hb dX1_guestTold_74 (by decide) ?_
            refine lv_iload_n hx hb dX1_guestTold_75 rfl (lv_at hl 5 rfl) ?_
            refine lv_imul hx hb dX1_guestTold_76 ?_
            refine gc_topi (y := nI (2 * x)) (pk_mul 2 x) ?_
            refine lv_iload hx hb dX1_guestTold_77 (lv_at hl 0 rfl) ?_
            refine lv_iconst (v := 2) hx hb dX1_guestTold_79 (by decide) ?_
            refine lv_idiv hx hb dX1_guestTold_80 (by decide) ?_
            refine gc_topi (y := nI (k / 2)) (pk_div (d := 2) (by omega) (by decide) (by decide)) ?_
            refine lv_iadd hx hb dX1_guestTold_81 ?_
            refine gc_topi (y := nI (2 * x + k / 2)) (nI_add (2 * x) (k / 2)) ?_
            refine lv_iconst (v := 2) hx hb dX1_guestTold_82 (by decide) ?_
            refine lv_iload hx hb dX1_guestTold_83 (lv_at hl 2 rfl) ?_
            refine lv_imul hx hb dX1_guestTold_85 ?_
            refine gc_topi (y := nI (2 * y)) (pk_mul 2 y) ?_
            refine lv_iload hx hb dX1_guestTold_86 (lv_at hl 0 rfl) ?_
            refine lv_iconst (v := 2) hx hb dX1_guestTold_88 (by decide) ?_
            refine lv_irem hx hb dX1_guestTold_89 (by decide) ?_
            refine gc_topi (y := nI (k % 2)) (pk_rem (d := 2) (by omega) (by decide) (by decide)) ?_
            refine lv_iadd hx hb dX1_guestTold_90 ?_
            refine gc_topi (y := nI (2 * y + k % 2)) (nI_add (2 * y) (k % 2)) ?_
            have hPc : va_P (dC, dI) vwCl (gmW h kc f1 f2 of ra1 fb1 th (nI g) (nI r) x1 x2) _ := hP.sub [0, 1, 2, 3, 4, 5] rfl
            have hKc : va_K (dC, dI) vwCl (gmT kc) s := hK.sub [0, 1, 2, 3, 4] rfl
            have hDc : va_D A (gmW h kc f1 f2 of ra1 fb1 th (nI g) (nI r) x1 x2) := hD.sub [0, 1, 2, 3, 4, 5] (by decide) rfl
            have hFc := va_free (wc := (gmW h kc f1 f2 of ra1 fb1 th (nI g) (nI r) x1 x2)) hD hS hA [0, 1, 2, 3, 4, 5] rfl
            refine va_calli (va_runV (As := [.int (nI (2 * x + k / 2)), .int (nI (2 * y + k % 2))]) (rest := []) ⟨hx, hb, hml, hown, hts⟩ (c_X1_leads l dC dI h kc f1 f2 of ra1 fb1 th g r x1 x2 K (2 * x + k / 2) (2 * y + k % 2) H.size (by first | assumption | omega) (by first | assumption | omega) (by first | assumption | omega) (by first | assumption | omega) (by first | assumption | omega)) (cwV 2 hts gX1_guestTold_X1_leads rfl rfl rfl (by decide +kernel) ⟨Nat.le_of_ble_eq_true rfl, Nat.le_of_ble_eq_true rfl⟩) ⟨gcPM_blind, va_recv hK hP (ci := 1) (q0 := 0) rfl rfl, fun U hU hW => ⟨rfl, by rw [hU], by rw [hU]; exact hPc, va_K.moved hW.alike hKc, hDc.weaken (fun _ _ _ _ => trivial)⟩⟩ rfl rfl hl.1 rfl (lv_room (Nat.le_of_ble_eq_true rfl)) dX1_guestTold_91 ⟨Nat.zero_le _, Nat.zero_le _⟩) hS (fun q _ h => hFc q h) hFc (fun r1 u t H locs ht hvm hw hB hz1 hk1 hS => ?_)
            obtain ⟨ro22, fa23⟩ := u
            obtain ⟨hP1, hD1⟩ := hB
            rw [ht] at hP1
            obtain ⟨hP, hD⟩ := va_join (wr := []) (w1 := (gmW h kc f1 f2 of ro22 fa23 th (nI g) (nI r) x1 x2)) hP hD [0, 1, 2, 3, 4, 5] [] rfl rfl (by decide) (by decide) hk1 hFc hP1 hD1
            have hP : va_P (dC, dI) vwCl (gmW h kc f1 f2 of ro22 fa23 th (nI g) (nI r) x1 x2) H := hP.sub [0, 1, 2, 3, 4, 5] rfl
            have hD : va_D A (gmW h kc f1 f2 of ro22 fa23 th (nI g) (nI r) x1 x2) := hD.sub [0, 1, 2, 3, 4, 5] (by decide) rfl
            have hw : r1 = gB (fo K (2 * x + k / 2) (2 * y + k % 2)) := hw
            subst hw
            clear hw
            clear hz1 hk1 ht hvm hP1 hD1 hFc hDc
            clear hPc hKc
            refine lv_if_eq (tgt := 125) hx hb dX1_guestTold_94 (by decide) (fun c_94 => ?_) (fun c_94 => ?_)
            · skip
              have c_94 := gB_f c_94
              refine lv_iconst (v := 0) hx hb dX1_guestTold_125 (by decide) ?_
              refine lv_istore (lv' := [(5, .int 0), (6, .int (nI k)), (4, .int (nI y)), (3, .int z), (0, .ref (h 0)), (1, .int (nI x)), (2, .int (nI w))]) hx hb dX1_guestTold_126 hl (by decide) rfl (fun ls hl => ?_)
              refine lv_iinc (v := nI (k + 1)) (lv' := [(6, .int (nI (k + 1))), (5, .int 0), (4, .int (nI y)), (3, .int z), (0, .ref (h 0)), (1, .int (nI x)), (2, .int (nI w))]) hx hb dX1_guestTold_128 hl (k := 1) rfl (nI_1 k) (by decide) rfl (fun ls hl => ?_)
              refine lv_goto (tgt := 62) hx hb dX1_guestTold_131 (by decide) ?_
              exact ihk H _ ls (by omega) ⟨false, ro22, fa23, (by simp only [mGo, ← e_b]; simp [mGo, c_2, c_25, c_70, c_94]), hP, hD, hS, lv_sub hl [0, 1, 2, 3, 4, 5, 6] rfl⟩
            · skip
              have c_94 := gB_t c_94
              refine lv_aload_n hx hb dX1_guestTold_97 rfl (lv_at hl 4 rfl) ?_
              refine lv_iconst (v := 2) hx hb dX1_guestTold_98 (by decide) ?_
              refine lv_iload hx hb dX1_guestTold_99 (lv_at hl 2 rfl) ?_
              refine lv_imul hx hb dX1_guestTold_101 ?_
              refine gc_topi (y := nI (2 * y)) (pk_mul 2 y) ?_
              refine lv_iload hx hb dX1_guestTold_102 (lv_at hl 0 rfl) ?_
              refine lv_iconst (v := 2) hx hb dX1_guestTold_104 (by decide) ?_
              refine lv_irem hx hb dX1_guestTold_105 (by decide) ?_
              refine gc_topi (y := nI (k % 2)) (pk_rem (d := 2) (by omega) (by decide) (by decide)) ?_
              refine lv_iadd hx hb dX1_guestTold_106 ?_
              refine gc_topi (y := nI (2 * y + k % 2)) (nI_add (2 * y) (k % 2)) ?_
              refine lv_iconst (v := 2) hx hb dX1_guestTold_107 (by decide) ?_
              refine lv_iload_n hx hb dX1_guestTold_108 rfl (lv_at hl 5 rfl) ?_
              refine lv_imul hx hb dX1_guestTold_109 ?_
              refine gc_topi (y := nI (2 * x)) (pk_mul 2 x) ?_
              refine lv_iload hx hb dX1_guestTold_110 (lv_at hl 0 rfl) ?_
              refine lv_iconst (v := 2) hx hb dX1_guestTold_112 (by decide) ?_
              refine lv_idiv hx hb dX1_guestTold_113 (by decide) ?_
              refine gc_topi (y := nI (k / 2)) (pk_div (d := 2) (by omega) (by decide) (by decide)) ?_
              refine lv_iadd hx hb dX1_guestTold_114 ?_
              refine gc_topi (y := nI (2 * x + k / 2)) (nI_add (2 * x) (k / 2)) ?_
              have hPc : va_P (dC, dI) vwCl (gmW h kc f1 f2 of ro22 fa23 th (nI g) (nI r) x1 x2) _ := hP.sub [0, 1, 2, 3, 4, 5] rfl
              have hKc : va_K (dC, dI) vwCl (gmT kc) s := hK.sub [0, 1, 2, 3, 4] rfl
              have hDc : va_D A (gmW h kc f1 f2 of ro22 fa23 th (nI g) (nI r) x1 x2) := hD.sub [0, 1, 2, 3, 4, 5] (by decide) rfl
              have hFc := va_free (wc := (gmW h kc f1 f2 of ro22 fa23 th (nI g) (nI r) x1 x2)) hD hS hA [0, 1, 2, 3, 4, 5] rfl
              refine va_calli (va_runV (As := [.int (nI (2 * y + k % 2)), .int (nI (2 * x + k / 2))]) (rest := []) ⟨hx, hb, hml, hown, hts⟩ (c_X1_leads l dC dI h kc f1 f2 of ro22 fa23 th g r x1 x2 K (2 * y + k % 2) (2 * x + k / 2) H.size (by first | assumption | omega) (by first | assumption | omega) (by first | assumption | omega) (by first | assumption | omega) (by first | assumption | omega)) (cwV 2 hts gX1_guestTold_X1_leads rfl rfl rfl (by decide +kernel) ⟨Nat.le_of_ble_eq_true rfl, Nat.le_of_ble_eq_true rfl⟩) ⟨gcPM_blind, va_recv hK hP (ci := 1) (q0 := 0) rfl rfl, fun U hU hW => ⟨rfl, by rw [hU], by rw [hU]; exact hPc, va_K.moved hW.alike hKc, hDc.weaken (fun _ _ _ _ => trivial)⟩⟩ rfl rfl hl.1 rfl (lv_room (Nat.le_of_ble_eq_true rfl)) dX1_guestTold_115 ⟨Nat.zero_le _, Nat.zero_le _⟩) hS (fun q _ h => hFc q h) hFc (fun r4 u t H locs ht hvm hw hB hz1 hk1 hS => ?_)
              obtain ⟨ro25, fa26⟩ := u
              obtain ⟨hP1, hD1⟩ := hB
              rw [ht] at hP1
              obtain ⟨hP, hD⟩ := va_join (wr := []) (w1 := (gmW h kc f1 f2 of ro25 fa26 th (nI g) (nI r) x1 x2)) hP hD [0, 1, 2, 3, 4, 5] [] rfl rfl (by decide) (by decide) hk1 hFc hP1 hD1
              have hP : va_P (dC, dI) vwCl (gmW h kc f1 f2 of ro25 fa26 th (nI g) (nI r) x1 x2) H := hP.sub [0, 1, 2, 3, 4, 5] rfl
              have hD : va_D A (gmW h kc f1 f2 of ro25 fa26 th (nI g) (nI r) x1 x2) := hD.sub [0, 1, 2, 3, 4, 5] (by decide) rfl
              have hw : r4 = gB (fo K (2 * y + k % 2) (2 * x + k / 2)) := hw
              subst hw
              clear hw
              clear hz1 hk1 ht hvm hP1 hD1 hFc hDc
              clear hPc hKc
              refine lv_if_eq (tgt := 125) hx hb dX1_guestTold_118 (by decide) (fun c_118 => ?_) (fun c_118 => ?_)
              · skip
                have c_118 := gB_f c_118
                refine lv_iconst (v := 0) hx hb dX1_guestTold_125 (by decide) ?_
                refine lv_istore (lv' := [(5, .int 0), (6, .int (nI k)), (4, .int (nI y)), (3, .int z), (0, .ref (h 0)), (1, .int (nI x)), (2, .int (nI w))]) hx hb dX1_guestTold_126 hl (by decide) rfl (fun ls hl => ?_)
                refine lv_iinc (v := nI (k + 1)) (lv' := [(6, .int (nI (k + 1))), (5, .int 0), (4, .int (nI y)), (3, .int z), (0, .ref (h 0)), (1, .int (nI x)), (2, .int (nI w))]) hx hb dX1_guestTold_128 hl (k := 1) rfl (nI_1 k) (by decide) rfl (fun ls hl => ?_)
                refine lv_goto (tgt := 62) hx hb dX1_guestTold_131 (by decide) ?_
                exact ihk H _ ls (by omega) ⟨false, ro25, fa26, (by simp only [mGo, ← e_b]; simp [mGo, c_2, c_25, c_70, c_94, c_118]), hP, hD, hS, lv_sub hl [0, 1, 2, 3, 4, 5, 6] rfl⟩
              · skip
                have c_118 := gB_t c_118
                refine lv_iconst (v := 1) hx hb dX1_guestTold_121 (by decide) ?_
                refine lv_goto (tgt := 126) hx hb dX1_guestTold_122 (by decide) ?_
                refine lv_istore (lv' := [(5, .int 1), (6, .int (nI k)), (4, .int (nI y)), (3, .int z), (0, .ref (h 0)), (1, .int (nI x)), (2, .int (nI w))]) hx hb dX1_guestTold_126 hl (by decide) rfl (fun ls hl => ?_)
                refine lv_iinc (v := nI (k + 1)) (lv' := [(6, .int (nI (k + 1))), (5, .int 1), (4, .int (nI y)), (3, .int z), (0, .ref (h 0)), (1, .int (nI x)), (2, .int (nI w))]) hx hb dX1_guestTold_128 hl (k := 1) rfl (nI_1 k) (by decide) rfl (fun ls hl => ?_)
                refine lv_goto (tgt := 62) hx hb dX1_guestTold_131 (by decide) ?_
                exact ihk H _ ls (by omega) ⟨true, ro25, fa26, (by simp only [mGo, ← e_b]; simp [mGo, c_2, c_25, c_70, c_94, c_118]), hP, hD, hS, lv_sub hl [0, 1, 2, 3, 4, 5, 6] rfl⟩
    · skip
      have c_25 : w = 2 := (nI_eq (b := 2) (by omega) (by decide)).mp c_25
      refine lv_aload_n hx hb dX1_guestTold_28 rfl (lv_at hl 0 rfl) ?_
      refine lv_iload_n hx hb dX1_guestTold_29 rfl (lv_at hl 1 rfl) ?_
      have hPc : va_P (dC, dI) vwCl (gmW h kc f1 f2 of ro fa th (nI g) (nI r) x1 x2) _ := hP.sub [0, 1, 2, 3, 4, 5] rfl
      have hKc : va_K (dC, dI) vwCl (gmT kc) s := hK.sub [0, 1, 2, 3, 4] rfl
      have hDc : va_D A (gmW h kc f1 f2 of ro fa th (nI g) (nI r) x1 x2) := hD.sub [0, 1, 2, 3, 4, 5] (by decide) rfl
      have hFc := va_free (wc := (gmW h kc f1 f2 of ro fa th (nI g) (nI r) x1 x2)) hD hS hA [0, 1, 2, 3, 4, 5] rfl
      refine va_calli (va_runV (As := [.int (nI x)]) (rest := []) ⟨hx, hb, hml, hown, hts⟩ (c_X1_isTorn l dC dI h kc f1 f2 of ro fa th g r x1 x2 K x s.heap.size (by first | assumption | omega) (by first | assumption | omega) (by first | assumption | omega) (by first | assumption | omega)) (cwV 1 hts gX1_guestTold_X1_isTorn rfl rfl rfl (by decide +kernel) ⟨Nat.le_of_ble_eq_true rfl, Nat.le_of_ble_eq_true rfl⟩) ⟨gcPM_blind, va_recv hK hP (ci := 1) (q0 := 0) rfl rfl, fun U hU hW => ⟨rfl, by rw [hU], by rw [hU]; exact hPc, va_K.moved hW.alike hKc, hDc.weaken (fun _ _ _ _ => trivial)⟩⟩ rfl rfl hl.1 rfl (lv_room (Nat.le_of_ble_eq_true rfl)) dX1_guestTold_30 ⟨Nat.zero_le _, Nat.zero_le _⟩) hS (fun q _ h => hFc q h) hFc (fun r7 u t H locs ht hvm hw hB hz1 hk1 hS => ?_)
      obtain ⟨ro28, fa29⟩ := u
      obtain ⟨hP1, hD1⟩ := hB
      rw [ht] at hP1
      obtain ⟨hP, hD⟩ := va_join (wr := []) (w1 := (gmW h kc f1 f2 of ro28 fa29 th (nI g) (nI r) x1 x2)) hP hD [0, 1, 2, 3, 4, 5] [] rfl rfl (by decide) (by decide) hk1 hFc hP1 hD1
      have hP : va_P (dC, dI) vwCl (gmW h kc f1 f2 of ro28 fa29 th (nI g) (nI r) x1 x2) H := hP.sub [0, 1, 2, 3, 4, 5] rfl
      have hD : va_D A (gmW h kc f1 f2 of ro28 fa29 th (nI g) (nI r) x1 x2) := hD.sub [0, 1, 2, 3, 4, 5] (by decide) rfl
      have hw : r7 = gB (mTo K x) := hw
      subst hw
      clear hw
      clear hz1 hk1 ht hvm hP1 hD1 hFc hDc
      clear hPc hKc
      refine lv_if_eq (tgt := 40) hx hb dX1_guestTold_33 (by decide) (fun c_33 => ?_) (fun c_33 => ?_)
      · skip
        have c_33 := gB_f c_33
        refine lv_iconst (v := 0) hx hb dX1_guestTold_40 (by decide) ?_
        have hpost : (0 : Int32) = mGu K x1 x2 g x w := by simp [mGu, gB, c_2, c_25, c_33]
        exact W.iret (v := 0) hx hb hr (fun t ht hW => ⟨⟨0, (ro28, fa29), rfl, hpost, ⟨by rw [ht]; exact hP, hD⟩⟩, hS.F ht⟩) hS.2.2 dX1_guestTold_41
      · skip
        have c_33 := gB_t c_33
        refine lv_iconst (v := 1) hx hb dX1_guestTold_36 (by decide) ?_
        refine lv_goto (tgt := 41) hx hb dX1_guestTold_37 (by decide) ?_
        have hpost : (1 : Int32) = mGu K x1 x2 g x w := by simp [mGu, gB, c_2, c_25, c_33]
        exact W.iret (v := 1) hx hb hr (fun t ht hW => ⟨⟨1, (ro28, fa29), rfl, hpost, ⟨by rw [ht]; exact hP, hD⟩⟩, hS.F ht⟩) hS.2.2 dX1_guestTold_41
  · skip
    have c_2 : w < 2 := Nat.lt_of_not_le (fun q => c_2 (nI_le (a := 2) q (by omega)))
    refine lv_aload_n hx hb dX1_guestTold_5 rfl (lv_at hl 0 rfl) ?_
    refine lv_iconst (v := 2) hx hb dX1_guestTold_6 (by decide) ?_
    refine lv_iload_n hx hb dX1_guestTold_7 rfl (lv_at hl 1 rfl) ?_
    refine lv_imul hx hb dX1_guestTold_8 ?_
    refine gc_topi (y := nI (2 * x)) (pk_mul 2 x) ?_
    refine lv_iload_n hx hb dX1_guestTold_9 rfl (lv_at hl 2 rfl) ?_
    refine lv_iadd hx hb dX1_guestTold_10 ?_
    refine gc_topi (y := nI (2 * x + w)) (nI_add (2 * x) (w)) ?_
    have hPc : va_P (dC, dI) vwCl (gmW h kc f1 f2 of ro fa th (nI g) (nI r) x1 x2) _ := hP.sub [0, 1, 2, 3, 4, 5] rfl
    have hKc : va_K (dC, dI) vwCl (gmT kc) s := hK.sub [0, 1, 2, 3, 4] rfl
    refine va_calli (va_runV (As := [.int (nI (2 * x + w))]) (rest := []) ⟨hx, hb, hml, hown, hts⟩ (c_X1_isForced l dC dI h kc f1 f2 of ro fa th g r x1 x2 K (nI (2 * x + w)) (by first | assumption | omega) (by first | assumption | omega) (by first | assumption | omega)) (cwV 1 hts gX1_guestTold_X1_isForced rfl rfl rfl (by decide +kernel) ⟨Nat.le_of_ble_eq_true rfl, Nat.le_of_ble_eq_true rfl⟩) ⟨gcPR_blind, va_recv hK hP (ci := 1) (q0 := 0) rfl rfl, fun U hU hW => ⟨rfl, by rw [hU]; exact hPc, va_K.moved hW.alike hKc⟩⟩ rfl rfl hl.1 rfl (lv_room (Nat.le_of_ble_eq_true rfl)) dX1_guestTold_11 ⟨Nat.zero_le _, Nat.zero_le _⟩) hS (fun q _ h => h.elim) (fun q h => h.elim) (fun r10 u t H locs ht hvm hw hB hz1 hk1 hS => ?_)
    have hP := gc_keep hP hk1
    have hw : r10 = gB (mFo K x1 x2 (nI (2 * x + w)) g) := hw
    subst hw
    clear hw
    clear hB hz1 hk1 ht hvm
    clear hPc hKc
    refine lv_if_eq (tgt := 21) hx hb dX1_guestTold_14 (by decide) (fun c_14 => ?_) (fun c_14 => ?_)
    · skip
      have c_14 := gB_f c_14
      refine lv_iconst (v := 0) hx hb dX1_guestTold_21 (by decide) ?_
      have hpost : (0 : Int32) = mGu K x1 x2 g x w := by simp [mGu, gB, c_2, c_14]
      exact W.iret (v := 0) hx hb hr (fun t ht hW => ⟨⟨0, (ro, fa), rfl, hpost, ⟨by rw [ht]; exact hP, hD⟩⟩, hS.F ht⟩) hS.2.2 dX1_guestTold_22
    · skip
      have c_14 := gB_t c_14
      refine lv_iconst (v := 1) hx hb dX1_guestTold_17 (by decide) ?_
      refine lv_goto (tgt := 22) hx hb dX1_guestTold_18 (by decide) ?_
      have hpost : (1 : Int32) = mGu K x1 x2 g x w := by simp [mGu, gB, c_2, c_14]
      exact W.iret (v := 1) hx hb hr (fun t ht hW => ⟨⟨1, (ro, fa), rfl, hpost, ⟨by rw [ht]; exact hP, hD⟩⟩, hS.F ht⟩) hS.2.2 dX1_guestTold_22
set_option maxHeartbeats 4000000 in
set_option maxRecDepth 100000 in
theorem c_X1_seated (l : Launch) (dC : Nat → ClassId) (dI : Nat → Nat → Nat) (h : Nat → Nat) (kc : Nat → ClassId) (f1 : Nat → Int32) (f2 : Nat → Int32) (of : Nat → Int32) (ro : Nat → Int32) (fa : Nat → Int32) (th : Int32) (g : Nat) (r : Nat) (x1 : Int32) (x2 : Int32) (K : Bk) (hBk : mOK K g r f1 f2 of) (hg : g ≤ 10) (hr30 : r ≤ 30) : Met l yX1_seated wsX1_seated ({ frames := 4, cells := 0, slots := 0, locals := 87 }) (gcPR (dC, dI) [.ref (h 0)] (gmW h kc f1 f2 of ro fa th (nI g) (nI r) x1 x2) (gmT kc)) (va_Qi (fun (rv : Int32) (_u : Unit) => rv = mSe K x1 x2 g) (fun _ _ => True) (fun _ => False)) 0 0 (fun _ => False) := by
  refine Met.ofW (cc := cX1_seated) (maxL := 3) (ret := (some .int)) (by decide) rfl ?_
  intro p e s m args below meth c s₁ B hml hv
  obtain ⟨rfl, hP, hK⟩ := hv
  have hx := B.exec
  have hb := B.bytes
  have hr := B.returns
  have hts := atoms_spec (ws := wsX1_seated) B.pre
  have hown : s.vm.findClass RX1 = some m.cls := findClass_of_methodNamed B.named
  have hlocks := B.notSynchronized
  have hS : va_S (fun _ => False) s.heap s.heap [] := va_S.rf
  have hP : va_P (dC, dI) vwCl (gmW h kc f1 f2 of ro fa th (nI g) (nI r) x1 x2) s.heap := hP
  have hin1 : ∀ w ∈ wsX10, w ∈ wsX1_seated := by decide +kernel
  have hl := lv_entry [.ref (h 0)] (n := 3) (Nat.le_of_ble_eq_true rfl)
  rw [lg_entry_eq]
  generalize (lg_sl [.ref (h 0)] ++ List.replicate (3 - (lg_sl [.ref (h 0)]).length) Slot.unset).toArray = ls at hl ⊢
  have hl : lv_has ls 3 [(0, .ref (h 0))] := hl
  have hg2 : 2 ^ g ≤ 1024 := Nat.pow_le_pow_right (n := 2) (by decide) hg
  refine lv_aload_n hx hb dX1_seated_0 rfl (lv_at hl 0 rfl) ?_
  have hPc : va_P (dC, dI) vwCl (gmW h kc f1 f2 of ro fa th (nI g) (nI r) x1 x2) _ := hP.sub [0, 1, 2, 3, 4, 5] rfl
  have hKc : va_K (dC, dI) vwCl (gmT kc) s := hK.sub [0, 1, 2, 3, 4] rfl
  refine va_calli (va_runV (As := []) (rest := []) ⟨hx, hb, hml, hown, hts⟩ (c_X1_all l dC dI h kc f1 f2 of ro fa th g r x1 x2 K (by first | assumption | omega) (by first | assumption | omega) (by first | assumption | omega)) (cwV 0 hts gX1_seated_X1_all rfl rfl rfl (by decide +kernel) ⟨Nat.le_of_ble_eq_true rfl, Nat.le_of_ble_eq_true rfl⟩) ⟨gcPR_blind, va_recv hK hP (ci := 1) (q0 := 0) rfl rfl, fun U hU hW => ⟨rfl, by rw [hU]; exact hPc, va_K.moved hW.alike hKc⟩⟩ rfl rfl hl.1 rfl (lv_room (Nat.le_of_ble_eq_true rfl)) dX1_seated_1 ⟨Nat.zero_le _, Nat.zero_le _⟩) hS (fun q _ h => h.elim) (fun q h => h.elim) (fun r1 u t H locs ht hvm hw hB hz1 hk1 hS => ?_)
  have hP := gc_keep hP hk1
  have hw : r1 = mAll K x1 x2 g := hw
  subst hw
  clear hw
  clear hB hz1 hk1 ht hvm
  clear hPc hKc
  refine lv_if_ne (tgt := 9) hx hb dX1_seated_4 (by decide) (fun c_4 => ?_) (fun c_4 => ?_)
  · skip
    refine lv_iconst (v := 0) hx hb dX1_seated_9 (by decide) ?_
    refine lv_istore_n (lv' := [(1, .int 0), (0, .ref (h 0))]) hx hb dX1_seated_10 rfl hl (by decide) rfl (fun ls hl => ?_)
    refine lv_iconst (v := 0) hx hb dX1_seated_11 (by decide) ?_
    refine lv_istore_n (lv' := [(2, .int 0), (1, .int 0), (0, .ref (h 0))]) hx hb dX1_seated_12 rfl hl (by decide) rfl (fun ls hl => ?_)
    refine gc_loop (g) (fun (i : Nat) (H : Heap) (locs : List Loc) (ls : Array Slot) => ∃ (x : Int32), x = mSg K x1 x2 g i ∧ va_P (dC, dI) vwCl (gmW h kc f1 f2 of ro fa th (nI g) (nI r) x1 x2) H ∧ va_S (fun _ => False) s.heap H locs ∧ lv_has ls 3 [(2, .int (nI i)), (1, .int x), (0, .ref (h 0))]) 0 (Nat.zero_le _) ⟨0, (by first | rfl | assumption | omega), hP, hS, lv_sub hl [0, 1, 2] rfl⟩ ?_
    intro i H locs ls hi hI ihi
    obtain ⟨x, e_x, hP, hS, hl⟩ := hI
    refine lv_iload_n hx hb dX1_seated_13 rfl (lv_at hl 0 rfl) ?_
    refine lv_aload_n hx hb dX1_seated_14 rfl (lv_at hl 2 rfl) ?_
    refine va_get (D := (dC, dI)) (ci := 1) (v := .int (nI g)) (C := RX1) (T := TX1) (N := 10) hx hb hts hin1 hown hK hP 0 rfl rfl 1 (by decide) (hts (.fieldLink RX1 36 "GuestChairsModel" "guests" "I") (by decide +kernel)) (fun _ h9 => h9) rfl dX1_seated_15 ?_
    refine lv_icmp_ge (tgt := 48) hx hb dX1_seated_18 (by decide) (fun c_18 => ?_) (fun c_18 => ?_)
    · skip
      have hEi : i = g := gc_ge c_18 (by omega) (by omega)
      refine lv_iload_n hx hb dX1_seated_48 rfl (lv_at hl 1 rfl) ?_
      have hpost : x = mSe K x1 x2 g := by rw [mSe, if_neg c_4, e_x, hEi]
      exact W.iret (v := x) hx hb hr (fun t ht hW => ⟨⟨x, (), rfl, hpost, trivial⟩, hS.F ht⟩) hS.2.2 dX1_seated_49
    · skip
      have hLi : i < g := gc_lt c_18 (by omega) (by omega)
      refine lv_aload_n hx hb dX1_seated_21 rfl (lv_at hl 2 rfl) ?_
      refine lv_iload_n hx hb dX1_seated_22 rfl (lv_at hl 1 rfl) ?_
      refine lv_iconst (v := 1) hx hb dX1_seated_23 (by decide) ?_
      refine lv_iload_n hx hb dX1_seated_24 rfl (lv_at hl 0 rfl) ?_
      refine lv_ishl hx hb dX1_seated_25 ?_
      refine lv_ior hx hb dX1_seated_26 ?_
      refine lv_iload_n hx hb dX1_seated_27 rfl (lv_at hl 0 rfl) ?_
      refine lv_iconst (v := 1) hx hb dX1_seated_28 (by decide) ?_
      refine lv_iadd hx hb dX1_seated_29 ?_
      have hPc : va_P (dC, dI) vwCl (gmW h kc f1 f2 of ro fa th (nI g) (nI r) x1 x2) _ := hP.sub [0, 1, 2, 3, 4, 5] rfl
      have hKc : va_K (dC, dI) vwCl (gmT kc) s := hK.sub [0, 1, 2, 3, 4] rfl
      refine va_calli (va_runV (As := [.int (x ||| ((1 : Int32) <<< (nI i &&& 31))), .int (nI i + 1)]) (rest := []) ⟨hx, hb, hml, hown, hts⟩ (c_X1_seatingsWith l dC dI h kc f1 f2 of ro fa th g r x1 x2 K (x ||| ((1 : Int32) <<< (nI i &&& 31))) (nI i + 1) (by first | assumption | omega) (by first | assumption | omega) (by first | assumption | omega)) (cwV 2 hts gX1_seated_X1_seatingsWith rfl rfl rfl (by decide +kernel) ⟨Nat.le_of_ble_eq_true rfl, Nat.le_of_ble_eq_true rfl⟩) ⟨gcPR_blind, va_recv hK hP (ci := 1) (q0 := 0) rfl rfl, fun U hU hW => ⟨rfl, by rw [hU]; exact hPc, va_K.moved hW.alike hKc⟩⟩ rfl rfl hl.1 rfl (lv_room (Nat.le_of_ble_eq_true rfl)) dX1_seated_30 ⟨Nat.zero_le _, Nat.zero_le _⟩) hS (fun q _ h => h.elim) (fun q h => h.elim) (fun r2 u t H locs ht hvm hw hB hz1 hk1 hS => ?_)
      have hP := gc_keep hP hk1
      have hw : r2 = mSW K x1 x2 (x ||| ((1 : Int32) <<< (nI i &&& 31))) (nI i + 1) (2 ^ g) := hw
      subst hw
      clear hw
      clear hB hz1 hk1 ht hvm
      clear hPc hKc
      refine lv_if_le (tgt := 42) hx hb dX1_seated_33 (by decide) (fun c_33 => ?_) (fun c_33 => ?_)
      · skip
        refine lv_iinc (v := nI (i + 1)) (lv' := [(2, .int (nI (i + 1))), (1, .int x), (0, .ref (h 0))]) hx hb dX1_seated_42 hl (k := 0) rfl (nI_1 i) (by decide) rfl (fun ls hl => ?_)
        refine lv_goto (tgt := 13) hx hb dX1_seated_45 (by decide) ?_
        exact ihi H _ ls (by omega) ⟨x, (by rw [mSg, ← e_x]; rw [if_neg (fun q => q c_33)]), hP, hS, lv_sub hl [0, 1, 2] rfl⟩
      · skip
        refine lv_iload_n hx hb dX1_seated_36 rfl (lv_at hl 1 rfl) ?_
        refine lv_iconst (v := 1) hx hb dX1_seated_37 (by decide) ?_
        refine lv_iload_n hx hb dX1_seated_38 rfl (lv_at hl 0 rfl) ?_
        refine lv_ishl hx hb dX1_seated_39 ?_
        refine lv_ior hx hb dX1_seated_40 ?_
        refine lv_istore_n (lv' := [(1, .int (x ||| ((1 : Int32) <<< (nI i &&& 31)))), (2, .int (nI i)), (0, .ref (h 0))]) hx hb dX1_seated_41 rfl hl (by decide) rfl (fun ls hl => ?_)
        refine lv_iinc (v := nI (i + 1)) (lv' := [(2, .int (nI (i + 1))), (1, .int (x ||| ((1 : Int32) <<< (nI i &&& 31)))), (0, .ref (h 0))]) hx hb dX1_seated_42 hl (k := 1) rfl (nI_1 i) (by decide) rfl (fun ls hl => ?_)
        refine lv_goto (tgt := 13) hx hb dX1_seated_45 (by decide) ?_
        exact ihi H _ ls (by omega) ⟨(x ||| ((1 : Int32) <<< (nI i &&& 31))), (by rw [mSg, ← e_x]; rw [if_pos c_33]), hP, hS, lv_sub hl [0, 1, 2] rfl⟩
  · skip
    refine lv_iconst (v := -1) hx hb dX1_seated_7 (by decide) ?_
    have hpost : ((-1) : Int32) = mSe K x1 x2 g := by rw [mSe, if_pos c_4]
    exact W.iret (v := (-1)) hx hb hr (fun t ht hW => ⟨⟨(-1), (), rfl, hpost, trivial⟩, hS.F ht⟩) hS.2.2 dX1_seated_8
set_option maxHeartbeats 4000000 in
set_option maxRecDepth 100000 in
theorem c_X1_ruleTold (l : Launch) (dC : Nat → ClassId) (dI : Nat → Nat → Nat) (h : Nat → Nat) (kc : Nat → ClassId) (f1 : Nat → Int32) (f2 : Nat → Int32) (of : Nat → Int32) (ro : Nat → Int32) (fa : Nat → Int32) (th : Int32) (g : Nat) (r : Nat) (x1 : Int32) (x2 : Int32) (K : Bk) (x : Nat) (w : Nat) (hBk : mOK K g r f1 f2 of) (hg : g ≤ 10) (hr30 : r ≤ 30) (hx2 : x < r) (hw : w < 3) : Met l yX1_ruleTold wsX1_ruleTold ({ frames := 0, cells := 0, slots := 0, locals := 0 }) (gcPR (dC, dI) [.ref (h 0), .int (nI x), .int (nI w)] (gmW h kc f1 f2 of ro fa th (nI g) (nI r) x1 x2) (gmT kc)) (va_Qi (fun (rv : Int32) (_u : Unit) => rv = mTd K x w) (fun _ _ => True) (fun _ => False)) 0 0 (fun _ => False) := by
  refine Met.ofW (cc := cX1_ruleTold) (maxL := 3) (ret := (some .int)) (by decide) rfl ?_
  intro p e s m args below meth c s₁ B hml hv
  obtain ⟨rfl, hP, hK⟩ := hv
  have hx := B.exec
  have hb := B.bytes
  have hr := B.returns
  have hts := atoms_spec (ws := wsX1_ruleTold) B.pre
  have hown : s.vm.findClass RX1 = some m.cls := findClass_of_methodNamed B.named
  have hlocks := B.notSynchronized
  have hS : va_S (fun _ => False) s.heap s.heap [] := va_S.rf
  have hP : va_P (dC, dI) vwCl (gmW h kc f1 f2 of ro fa th (nI g) (nI r) x1 x2) s.heap := hP
  have hin1 : ∀ w ∈ wsX10, w ∈ wsX1_ruleTold := by decide +kernel
  have hl := lv_entry [.ref (h 0), .int (nI x), .int (nI w)] (n := 3) (Nat.le_of_ble_eq_true rfl)
  rw [lg_entry_eq]
  generalize (lg_sl [.ref (h 0), .int (nI x), .int (nI w)] ++ List.replicate (3 - (lg_sl [.ref (h 0), .int (nI x), .int (nI w)]).length) Slot.unset).toArray = ls at hl ⊢
  have hl : lv_has ls 3 [(0, .ref (h 0)), (1, .int (nI x)), (2, .int (nI w))] := hl
  refine lv_iload_n hx hb dX1_ruleTold_0 rfl (lv_at hl 2 rfl) ?_
  refine lv_if_ne (tgt := 13) hx hb dX1_ruleTold_1 (by decide) (fun c_1 => ?_) (fun c_1 => ?_)
  · skip
    have c_1 : ¬ w = 0 := fun q => c_1 (by rw [q]; rfl)
    refine lv_iload_n hx hb dX1_ruleTold_13 rfl (lv_at hl 2 rfl) ?_
    refine lv_iconst (v := 1) hx hb dX1_ruleTold_14 (by decide) ?_
    refine lv_icmp_ne (tgt := 27) hx hb dX1_ruleTold_15 (by decide) (fun c_15 => ?_) (fun c_15 => ?_)
    · skip
      have c_15 : ¬ w = 1 := fun q => c_15 (by rw [q]; rfl)
      refine lv_aload_n hx hb dX1_ruleTold_27 rfl (lv_at hl 0 rfl) ?_
      refine va_get (D := (dC, dI)) (ci := 1) (v := .ref (h 3)) (C := RX1) (T := TX1) (N := 10) hx hb hts hin1 hown hK hP 0 rfl rfl 5 (by decide) (hts (.fieldLink RX1 16 "GuestChairsModel" "off" "[Z") (by decide +kernel)) (fun _ h9 => h9) rfl dX1_ruleTold_28 ?_
      refine lv_iload_n hx hb dX1_ruleTold_31 rfl (lv_at hl 1 rfl) ?_
      refine va_zald hx hb hK hP 3 2 rfl rfl (vp_in_nI (n := x) (by omega) (by decide)) dX1_ruleTold_32 ?_
      rw [nI_clamp (n := x) (by omega)]
      refine gc_topi (y := gB (!K.2.2.2 x)) ((hBk.2 x hx2).2.2.2.2) ?_
      refine lv_if_eq (tgt := 40) hx hb dX1_ruleTold_33 (by decide) (fun c_33 => ?_) (fun c_33 => ?_)
      · skip
        have c_33 := gB_f c_33
        have hon : K.2.2.2 x = true := by simpa using c_33
        refine lv_iconst (v := 1) hx hb dX1_ruleTold_40 (by decide) ?_
        have hpost : (1 : Int32) = mTd K x w := by first | (subst c_1; rfl) | (subst c_15; rfl) | ((have q : w = 2 := by omega); subst q; simp [mTd, hon, gB])
        exact W.iret (v := 1) hx hb hr (fun t ht hW => ⟨⟨1, (), rfl, hpost, trivial⟩, hS.F ht⟩) hS.2.2 dX1_ruleTold_41
      · skip
        have c_33 := gB_t c_33
        have hon : K.2.2.2 x = false := by simpa using c_33
        refine lv_iconst (v := 0) hx hb dX1_ruleTold_36 (by decide) ?_
        refine lv_goto (tgt := 41) hx hb dX1_ruleTold_37 (by decide) ?_
        have hpost : (0 : Int32) = mTd K x w := by first | (subst c_1; rfl) | (subst c_15; rfl) | ((have q : w = 2 := by omega); subst q; simp [mTd, hon, gB])
        exact W.iret (v := 0) hx hb hr (fun t ht hW => ⟨⟨0, (), rfl, hpost, trivial⟩, hS.F ht⟩) hS.2.2 dX1_ruleTold_41
    · skip
      have c_15 : w = 1 := (nI_eq (b := 1) (by omega) (by decide)).mp c_15
      refine lv_aload_n hx hb dX1_ruleTold_18 rfl (lv_at hl 0 rfl) ?_
      refine va_get (D := (dC, dI)) (ci := 1) (v := .ref (h 2)) (C := RX1) (T := TX1) (N := 10) hx hb hts hin1 hown hK hP 0 rfl rfl 4 (by decide) (hts (.fieldLink RX1 13 "GuestChairsModel" "seconds" "[I") (by decide +kernel)) (fun _ h9 => h9) rfl dX1_ruleTold_19 ?_
      refine lv_iload_n hx hb dX1_ruleTold_22 rfl (lv_at hl 1 rfl) ?_
      refine va_iald hx hb hK hP 2 1 rfl rfl (vp_in_nI (n := x) (by omega) (by decide)) dX1_ruleTold_23 ?_
      rw [nI_clamp (n := x) (by omega)]
      refine gc_topi (y := nI (K.2.2.1 x)) ((hBk.2 x hx2).2.1) ?_
      refine lv_goto (tgt := 41) hx hb dX1_ruleTold_24 (by decide) ?_
      have hpost : (nI (K.2.2.1 x)) = mTd K x w := by first | (subst c_1; rfl) | (subst c_15; rfl) | ((have q : w = 2 := by omega); subst q; simp [mTd, hon, gB])
      exact W.iret (v := nI (K.2.2.1 x)) hx hb hr (fun t ht hW => ⟨⟨nI (K.2.2.1 x), (), rfl, hpost, trivial⟩, hS.F ht⟩) hS.2.2 dX1_ruleTold_41
  · skip
    have c_1 : w = 0 := (nI_eq (b := 0) (by omega) (by decide)).mp c_1
    refine lv_aload_n hx hb dX1_ruleTold_4 rfl (lv_at hl 0 rfl) ?_
    refine va_get (D := (dC, dI)) (ci := 1) (v := .ref (h 1)) (C := RX1) (T := TX1) (N := 10) hx hb hts hin1 hown hK hP 0 rfl rfl 3 (by decide) (hts (.fieldLink RX1 9 "GuestChairsModel" "firsts" "[I") (by decide +kernel)) (fun _ h9 => h9) rfl dX1_ruleTold_5 ?_
    refine lv_iload_n hx hb dX1_ruleTold_8 rfl (lv_at hl 1 rfl) ?_
    refine va_iald hx hb hK hP 1 0 rfl rfl (vp_in_nI (n := x) (by omega) (by decide)) dX1_ruleTold_9 ?_
    rw [nI_clamp (n := x) (by omega)]
    refine gc_topi (y := nI (K.2.1 x)) ((hBk.2 x hx2).1) ?_
    refine lv_goto (tgt := 41) hx hb dX1_ruleTold_10 (by decide) ?_
    have hpost : (nI (K.2.1 x)) = mTd K x w := by first | (subst c_1; rfl) | (subst c_15; rfl) | ((have q : w = 2 := by omega); subst q; simp [mTd, hon, gB])
    exact W.iret (v := nI (K.2.1 x)) hx hb hr (fun t ht hW => ⟨⟨nI (K.2.1 x), (), rfl, hpost, trivial⟩, hS.F ht⟩) hS.2.2 dX1_ruleTold_41
set_option maxHeartbeats 4000000 in
set_option maxRecDepth 100000 in
theorem c_X1_counted (l : Launch) (dC : Nat → ClassId) (dI : Nat → Nat → Nat) (h : Nat → Nat) (kc : Nat → ClassId) (f1 : Nat → Int32) (f2 : Nat → Int32) (of : Nat → Int32) (ro : Nat → Int32) (fa : Nat → Int32) (th : Int32) (g : Nat) (r : Nat) (x1 : Int32) (x2 : Int32) (K : Bk) (w : Nat) (sz : Nat) (hBk : mOK K g r f1 f2 of) (hg : g ≤ 10) (hr30 : r ≤ 30) (hw : w < 6) : Met l yX1_counted wsX1_counted ({ frames := 5, cells := 0, slots := 0, locals := 112 }) (gcPM (dC, dI) [.ref (h 0), .int (nI w)] (gmW h kc f1 f2 of ro fa th (nI g) (nI r) x1 x2) (gmT kc) sz) (va_Qi (fun (rv : Int32) (u : (Nat → Int32) × (Nat → Int32)) => (match u with | (ro2, fa2) => rv = mCo K g r w)) (fun u t9 => va_P (dC, dI) vwCl (match u with | (ro2, fa2) => (gmW h kc f1 f2 of ro2 fa2 th (nI g) (nI r) x1 x2)) t9.heap ∧ va_D (va_A (gmW h kc f1 f2 of ro fa th (nI g) (nI r) x1 x2) sz) (match u with | (ro2, fa2) => (gmW h kc f1 f2 of ro2 fa2 th (nI g) (nI r) x1 x2))) (va_A (gmW h kc f1 f2 of ro fa th (nI g) (nI r) x1 x2) sz)) 0 0 (va_A (gmW h kc f1 f2 of ro fa th (nI g) (nI r) x1 x2) sz) := by
  refine Met.ofW (cc := cX1_counted) (maxL := 4) (ret := (some .int)) (by decide) rfl ?_
  intro p e s m args below meth c s₁ B hml hv
  obtain ⟨rfl, hsz, hP, hK, hD0⟩ := hv
  have hx := B.exec
  have hb := B.bytes
  have hr := B.returns
  have hts := atoms_spec (ws := wsX1_counted) B.pre
  have hown : s.vm.findClass RX1 = some m.cls := findClass_of_methodNamed B.named
  have hlocks := B.notSynchronized
  subst hsz
  have hD := hD0.self (sz := s.heap.size)
  generalize hAe : va_A (gmW h kc f1 f2 of ro fa th (nI g) (nI r) x1 x2) s.heap.size = A at hD ⊢
  have hA : ∀ q : Nat, s.heap.size ≤ q → A q := fun q h => by rw [← hAe]; exact Or.inr h
  have hS : va_S A s.heap s.heap [] := va_S.rf
  have hP : va_P (dC, dI) vwCl (gmW h kc f1 f2 of ro fa th (nI g) (nI r) x1 x2) s.heap := hP
  have hin1 : ∀ w ∈ wsX10, w ∈ wsX1_counted := by decide +kernel
  have hl := lv_entry [.ref (h 0), .int (nI w)] (n := 4) (Nat.le_of_ble_eq_true rfl)
  rw [lg_entry_eq]
  generalize (lg_sl [.ref (h 0), .int (nI w)] ++ List.replicate (4 - (lg_sl [.ref (h 0), .int (nI w)]).length) Slot.unset).toArray = ls at hl ⊢
  have hl : lv_has ls 4 [(0, .ref (h 0)), (1, .int (nI w))] := hl
  refine lv_iconst (v := 0) hx hb dX1_counted_0 (by decide) ?_
  refine lv_istore_n (lv' := [(2, .int 0), (0, .ref (h 0)), (1, .int (nI w))]) hx hb dX1_counted_1 rfl hl (by decide) rfl (fun ls hl => ?_)
  refine lv_iload_n hx hb dX1_counted_2 rfl (lv_at hl 2 rfl) ?_
  rcases (show w = 0 ∨ w = 1 ∨ w = 2 ∨ w = 3 ∨ w = 4 ∨ w = 5 by omega) with hcase | hcase | hcase | hcase | hcase | hcase
  · skip
    refine lv_tableIn (off := 33) (tgt := 36) hx hb dX1_counted_3 (by rw [hcase]; decide) (by rw [hcase]; decide) (by rw [hcase]; rfl) (by decide) ?_
    refine lv_aload_n hx hb dX1_counted_36 rfl (lv_at hl 1 rfl) ?_
    refine va_get (D := (dC, dI)) (ci := 1) (v := .int (nI g)) (C := RX1) (T := TX1) (N := 10) hx hb hts hin1 hown hK hP 0 rfl rfl 1 (by decide) (hts (.fieldLink RX1 36 "GuestChairsModel" "guests" "I") (by decide +kernel)) (fun _ h9 => h9) rfl dX1_counted_37 ?_
    have hpost : (nI g) = mCo K g r w := by simp [mCo, hcase] <;> rw [e_y, hEi]
    exact W.iret (v := nI g) hx hb hr (fun t ht hW => ⟨⟨nI g, (ro, fa), rfl, hpost, ⟨by rw [ht]; exact hP, hD⟩⟩, hS.F ht⟩) hS.2.2 dX1_counted_40
  · skip
    refine lv_tableIn (off := 38) (tgt := 41) hx hb dX1_counted_3 (by rw [hcase]; decide) (by rw [hcase]; decide) (by rw [hcase]; rfl) (by decide) ?_
    refine lv_aload_n hx hb dX1_counted_41 rfl (lv_at hl 1 rfl) ?_
    refine va_get (D := (dC, dI)) (ci := 1) (v := .int (nI r)) (C := RX1) (T := TX1) (N := 10) hx hb hts hin1 hown hK hP 0 rfl rfl 2 (by decide) (hts (.fieldLink RX1 51 "GuestChairsModel" "rules" "I") (by decide +kernel)) (fun _ h9 => h9) rfl dX1_counted_42 ?_
    have hpost : (nI r) = mCo K g r w := by simp [mCo, hcase] <;> rw [e_y, hEi]
    exact W.iret (v := nI r) hx hb hr (fun t ht hW => ⟨⟨nI r, (ro, fa), rfl, hpost, ⟨by rw [ht]; exact hP, hD⟩⟩, hS.F ht⟩) hS.2.2 dX1_counted_45
  · skip
    refine lv_tableIn (off := 43) (tgt := 46) hx hb dX1_counted_3 (by rw [hcase]; decide) (by rw [hcase]; decide) (by rw [hcase]; rfl) (by decide) ?_
    refine lv_iconst (v := 0) hx hb dX1_counted_46 (by decide) ?_
    refine lv_istore_n (lv' := [(3, .int 0), (2, .int 0), (0, .ref (h 0)), (1, .int (nI w))]) hx hb dX1_counted_47 rfl hl (by decide) rfl (fun ls hl => ?_)
    refine gc_loop (r) (fun (i : Nat) (H : Heap) (locs : List Loc) (ls : Array Slot) => ∃ (y : Int32), y = mCi K i ∧ va_P (dC, dI) vwCl (gmW h kc f1 f2 of ro fa th (nI g) (nI r) x1 x2) H ∧ va_D A (gmW h kc f1 f2 of ro fa th (nI g) (nI r) x1 x2) ∧ va_S A s.heap H locs ∧ lv_has ls 4 [(3, .int (nI i)), (2, .int y), (0, .ref (h 0)), (1, .int (nI w))]) 0 (Nat.zero_le _) ⟨0, (by first | rfl | assumption | omega), hP, hD, hS, lv_sub hl [0, 1, 2, 3] rfl⟩ ?_
    intro i H locs ls hi hI ihi
    obtain ⟨y, e_y, hP, hD, hS, hl⟩ := hI
    refine lv_iload_n hx hb dX1_counted_48 rfl (lv_at hl 0 rfl) ?_
    refine lv_aload_n hx hb dX1_counted_49 rfl (lv_at hl 2 rfl) ?_
    refine va_get (D := (dC, dI)) (ci := 1) (v := .int (nI r)) (C := RX1) (T := TX1) (N := 10) hx hb hts hin1 hown hK hP 0 rfl rfl 2 (by decide) (hts (.fieldLink RX1 51 "GuestChairsModel" "rules" "I") (by decide +kernel)) (fun _ h9 => h9) rfl dX1_counted_50 ?_
    refine lv_icmp_ge (tgt := 79) hx hb dX1_counted_53 (by decide) (fun c_53 => ?_) (fun c_53 => ?_)
    · skip
      have hEi : i = r := gc_ge c_53 (by omega) (by omega)
      refine lv_iload_n hx hb dX1_counted_79 rfl (lv_at hl 1 rfl) ?_
      have hpost : y = mCo K g r w := by simp [mCo, hcase] <;> rw [e_y, hEi]
      exact W.iret (v := y) hx hb hr (fun t ht hW => ⟨⟨y, (ro, fa), rfl, hpost, ⟨by rw [ht]; exact hP, hD⟩⟩, hS.F ht⟩) hS.2.2 dX1_counted_80
    · skip
      have hLi : i < r := gc_lt c_53 (by omega) (by omega)
      refine lv_iload_n hx hb dX1_counted_56 rfl (lv_at hl 1 rfl) ?_
      refine lv_aload_n hx hb dX1_counted_57 rfl (lv_at hl 2 rfl) ?_
      refine va_get (D := (dC, dI)) (ci := 1) (v := .ref (h 3)) (C := RX1) (T := TX1) (N := 10) hx hb hts hin1 hown hK hP 0 rfl rfl 5 (by decide) (hts (.fieldLink RX1 16 "GuestChairsModel" "off" "[Z") (by decide +kernel)) (fun _ h9 => h9) rfl dX1_counted_58 ?_
      refine lv_iload_n hx hb dX1_counted_61 rfl (lv_at hl 0 rfl) ?_
      refine va_zald hx hb hK hP 3 2 rfl rfl (vp_in_nI (n := i) (by omega) (by decide)) dX1_counted_62 ?_
      rw [nI_clamp (n := i) (by omega)]
      refine gc_topi (y := gB (!K.2.2.2 i)) ((hBk.2 i hLi).2.2.2.2) ?_
      refine lv_if_eq (tgt := 70) hx hb dX1_counted_63 (by decide) (fun c_63 => ?_) (fun c_63 => ?_)
      · skip
        have c_63 := gB_f c_63
        have hon : K.2.2.2 i = true := by simpa using c_63
        refine lv_iconst (v := 1) hx hb dX1_counted_70 (by decide) ?_
        refine lv_iadd hx hb dX1_counted_71 ?_
        refine lv_istore_n (lv' := [(2, .int (y + 1)), (3, .int (nI i)), (0, .ref (h 0)), (1, .int (nI w))]) hx hb dX1_counted_72 rfl hl (by decide) rfl (fun ls hl => ?_)
        refine lv_iinc (v := nI (i + 1)) (lv' := [(3, .int (nI (i + 1))), (2, .int (y + 1)), (0, .ref (h 0)), (1, .int (nI w))]) hx hb dX1_counted_73 hl (k := 1) rfl (nI_1 i) (by decide) rfl (fun ls hl => ?_)
        refine lv_goto (tgt := 48) hx hb dX1_counted_76 (by decide) ?_
        exact ihi H _ ls (by omega) ⟨(y + 1), (by rw [mCi, ← e_y, hon]; rfl), hP, hD, hS, lv_sub hl [0, 1, 2, 3] rfl⟩
      · skip
        have c_63 := gB_t c_63
        have hon : K.2.2.2 i = false := by simpa using c_63
        refine lv_iconst (v := 0) hx hb dX1_counted_66 (by decide) ?_
        refine lv_goto (tgt := 71) hx hb dX1_counted_67 (by decide) ?_
        refine lv_iadd hx hb dX1_counted_71 ?_
        refine lv_istore_n (lv' := [(2, .int (y + 0)), (3, .int (nI i)), (0, .ref (h 0)), (1, .int (nI w))]) hx hb dX1_counted_72 rfl hl (by decide) rfl (fun ls hl => ?_)
        refine lv_iinc (v := nI (i + 1)) (lv' := [(3, .int (nI (i + 1))), (2, .int (y + 0)), (0, .ref (h 0)), (1, .int (nI w))]) hx hb dX1_counted_73 hl (k := 1) rfl (nI_1 i) (by decide) rfl (fun ls hl => ?_)
        refine lv_goto (tgt := 48) hx hb dX1_counted_76 (by decide) ?_
        exact ihi H _ ls (by omega) ⟨(y + 0), (by rw [mCi, ← e_y, hon]; rfl), hP, hD, hS, lv_sub hl [0, 1, 2, 3] rfl⟩
  · skip
    refine lv_tableIn (off := 78) (tgt := 81) hx hb dX1_counted_3 (by rw [hcase]; decide) (by rw [hcase]; decide) (by rw [hcase]; rfl) (by decide) ?_
    refine lv_iconst (v := 0) hx hb dX1_counted_81 (by decide) ?_
    refine lv_istore_n (lv' := [(3, .int 0), (2, .int 0), (0, .ref (h 0)), (1, .int (nI w))]) hx hb dX1_counted_82 rfl hl (by decide) rfl (fun ls hl => ?_)
    refine gc_loop (g) (fun (i : Nat) (H : Heap) (locs : List Loc) (ls : Array Slot) => ∃ (y : Int32) (ra0 : Nat → Int32) (fb0 : Nat → Int32), y = mCt K i ∧ va_P (dC, dI) vwCl (gmW h kc f1 f2 of ra0 fb0 th (nI g) (nI r) x1 x2) H ∧ va_D A (gmW h kc f1 f2 of ra0 fb0 th (nI g) (nI r) x1 x2) ∧ va_S A s.heap H locs ∧ lv_has ls 4 [(3, .int (nI i)), (2, .int y), (0, .ref (h 0)), (1, .int (nI w))]) 0 (Nat.zero_le _) ⟨0, ro, fa, (by first | rfl | assumption | omega), hP, hD, hS, lv_sub hl [0, 1, 2, 3] rfl⟩ ?_
    intro i H locs ls hi hI ihi
    obtain ⟨y, ra0, fb0, e_y, hP, hD, hS, hl⟩ := hI
    refine lv_iload_n hx hb dX1_counted_83 rfl (lv_at hl 0 rfl) ?_
    refine lv_aload_n hx hb dX1_counted_84 rfl (lv_at hl 2 rfl) ?_
    refine va_get (D := (dC, dI)) (ci := 1) (v := .int (nI g)) (C := RX1) (T := TX1) (N := 10) hx hb hts hin1 hown hK hP 0 rfl rfl 1 (by decide) (hts (.fieldLink RX1 36 "GuestChairsModel" "guests" "I") (by decide +kernel)) (fun _ h9 => h9) rfl dX1_counted_85 ?_
    refine lv_icmp_ge (tgt := 113) hx hb dX1_counted_88 (by decide) (fun c_88 => ?_) (fun c_88 => ?_)
    · skip
      have hEi : i = g := gc_ge c_88 (by omega) (by omega)
      refine lv_iload_n hx hb dX1_counted_113 rfl (lv_at hl 1 rfl) ?_
      have hpost : y = mCo K g r w := by simp [mCo, hcase] <;> rw [e_y, hEi]
      exact W.iret (v := y) hx hb hr (fun t ht hW => ⟨⟨y, (ra0, fb0), rfl, hpost, ⟨by rw [ht]; exact hP, hD⟩⟩, hS.F ht⟩) hS.2.2 dX1_counted_114
    · skip
      have hLi : i < g := gc_lt c_88 (by omega) (by omega)
      refine lv_iload_n hx hb dX1_counted_91 rfl (lv_at hl 1 rfl) ?_
      refine lv_aload_n hx hb dX1_counted_92 rfl (lv_at hl 2 rfl) ?_
      refine lv_iload_n hx hb dX1_counted_93 rfl (lv_at hl 0 rfl) ?_
      have hPc : va_P (dC, dI) vwCl (gmW h kc f1 f2 of ra0 fb0 th (nI g) (nI r) x1 x2) _ := hP.sub [0, 1, 2, 3, 4, 5] rfl
      have hKc : va_K (dC, dI) vwCl (gmT kc) s := hK.sub [0, 1, 2, 3, 4] rfl
      have hDc : va_D A (gmW h kc f1 f2 of ra0 fb0 th (nI g) (nI r) x1 x2) := hD.sub [0, 1, 2, 3, 4, 5] (by decide) rfl
      have hFc := va_free (wc := (gmW h kc f1 f2 of ra0 fb0 th (nI g) (nI r) x1 x2)) hD hS hA [0, 1, 2, 3, 4, 5] rfl
      refine va_calli (va_runV (As := [.int (nI i)]) (rest := [.int y]) ⟨hx, hb, hml, hown, hts⟩ (c_X1_isTorn l dC dI h kc f1 f2 of ra0 fb0 th g r x1 x2 K i H.size (by first | assumption | omega) (by first | assumption | omega) (by first | assumption | omega) (by first | assumption | omega)) (cwV 1 hts gX1_counted_X1_isTorn rfl rfl rfl (by decide +kernel) ⟨Nat.le_of_ble_eq_true rfl, Nat.le_of_ble_eq_true rfl⟩) ⟨gcPM_blind, va_recv hK hP (ci := 1) (q0 := 0) rfl rfl, fun U hU hW => ⟨rfl, by rw [hU], by rw [hU]; exact hPc, va_K.moved hW.alike hKc, hDc.weaken (fun _ _ _ _ => trivial)⟩⟩ rfl rfl hl.1 rfl (lv_room (Nat.le_of_ble_eq_true rfl)) dX1_counted_94 ⟨Nat.zero_le _, Nat.zero_le _⟩) hS (fun q _ h => hFc q h) hFc (fun r1 u t H locs ht hvm hw hB hz1 hk1 hS => ?_)
      obtain ⟨ro22, fa23⟩ := u
      obtain ⟨hP1, hD1⟩ := hB
      rw [ht] at hP1
      obtain ⟨hP, hD⟩ := va_join (wr := []) (w1 := (gmW h kc f1 f2 of ro22 fa23 th (nI g) (nI r) x1 x2)) hP hD [0, 1, 2, 3, 4, 5] [] rfl rfl (by decide) (by decide) hk1 hFc hP1 hD1
      have hP : va_P (dC, dI) vwCl (gmW h kc f1 f2 of ro22 fa23 th (nI g) (nI r) x1 x2) H := hP.sub [0, 1, 2, 3, 4, 5] rfl
      have hD : va_D A (gmW h kc f1 f2 of ro22 fa23 th (nI g) (nI r) x1 x2) := hD.sub [0, 1, 2, 3, 4, 5] (by decide) rfl
      have hw : r1 = gB (mTo K i) := hw
      subst hw
      clear hw
      clear hz1 hk1 ht hvm hP1 hD1 hFc hDc
      clear hPc hKc
      refine lv_if_eq (tgt := 104) hx hb dX1_counted_97 (by decide) (fun c_97 => ?_) (fun c_97 => ?_)
      · skip
        have c_97 := gB_f c_97
        refine lv_iconst (v := 0) hx hb dX1_counted_104 (by decide) ?_
        refine lv_iadd hx hb dX1_counted_105 ?_
        refine lv_istore_n (lv' := [(2, .int (y + 0)), (3, .int (nI i)), (0, .ref (h 0)), (1, .int (nI w))]) hx hb dX1_counted_106 rfl hl (by decide) rfl (fun ls hl => ?_)
        refine lv_iinc (v := nI (i + 1)) (lv' := [(3, .int (nI (i + 1))), (2, .int (y + 0)), (0, .ref (h 0)), (1, .int (nI w))]) hx hb dX1_counted_107 hl (k := 1) rfl (nI_1 i) (by decide) rfl (fun ls hl => ?_)
        refine lv_goto (tgt := 83) hx hb dX1_counted_110 (by decide) ?_
        exact ihi H _ ls (by omega) ⟨(y + 0), ro22, fa23, (by rw [mCt, ← e_y, c_97]; rfl), hP, hD, hS, lv_sub hl [0, 1, 2, 3] rfl⟩
      · skip
        have c_97 := gB_t c_97
        refine lv_iconst (v := 1) hx hb dX1_counted_100 (by decide) ?_
        refine lv_goto (tgt := 105) hx hb dX1_counted_101 (by decide) ?_
        refine lv_iadd hx hb dX1_counted_105 ?_
        refine lv_istore_n (lv' := [(2, .int (y + 1)), (3, .int (nI i)), (0, .ref (h 0)), (1, .int (nI w))]) hx hb dX1_counted_106 rfl hl (by decide) rfl (fun ls hl => ?_)
        refine lv_iinc (v := nI (i + 1)) (lv' := [(3, .int (nI (i + 1))), (2, .int (y + 1)), (0, .ref (h 0)), (1, .int (nI w))]) hx hb dX1_counted_107 hl (k := 1) rfl (nI_1 i) (by decide) rfl (fun ls hl => ?_)
        refine lv_goto (tgt := 83) hx hb dX1_counted_110 (by decide) ?_
        exact ihi H _ ls (by omega) ⟨(y + 1), ro22, fa23, (by rw [mCt, ← e_y, c_97]; rfl), hP, hD, hS, lv_sub hl [0, 1, 2, 3] rfl⟩
  · skip
    refine lv_tableIn (off := 112) (tgt := 115) hx hb dX1_counted_3 (by rw [hcase]; decide) (by rw [hcase]; decide) (by rw [hcase]; rfl) (by decide) ?_
    refine lv_iconst (v := 0) hx hb dX1_counted_115 (by decide) ?_
    refine lv_istore_n (lv' := [(3, .int 0), (2, .int 0), (0, .ref (h 0)), (1, .int (nI w))]) hx hb dX1_counted_116 rfl hl (by decide) rfl (fun ls hl => ?_)
    refine gc_loop (2 * g) (fun (i : Nat) (H : Heap) (locs : List Loc) (ls : Array Slot) => ∃ (y : Int32) (ra0 : Nat → Int32) (fb0 : Nat → Int32), y = mCv K i ∧ va_P (dC, dI) vwCl (gmW h kc f1 f2 of ra0 fb0 th (nI g) (nI r) x1 x2) H ∧ va_D A (gmW h kc f1 f2 of ra0 fb0 th (nI g) (nI r) x1 x2) ∧ va_S A s.heap H locs ∧ lv_has ls 4 [(3, .int (nI i)), (2, .int y), (0, .ref (h 0)), (1, .int (nI w))]) 0 (Nat.zero_le _) ⟨0, ro, fa, (by first | rfl | assumption | omega), hP, hD, hS, lv_sub hl [0, 1, 2, 3] rfl⟩ ?_
    intro i H locs ls hi hI ihi
    obtain ⟨y, ra0, fb0, e_y, hP, hD, hS, hl⟩ := hI
    refine lv_iload_n hx hb dX1_counted_117 rfl (lv_at hl 0 rfl) ?_
    refine lv_iconst (v := 2) hx hb dX1_counted_118 (by decide) ?_
    refine lv_aload_n hx hb dX1_counted_119 rfl (lv_at hl 2 rfl) ?_
    refine va_get (D := (dC, dI)) (ci := 1) (v := .int (nI g)) (C := RX1) (T := TX1) (N := 10) hx hb hts hin1 hown hK hP 0 rfl rfl 1 (by decide) (hts (.fieldLink RX1 36 "GuestChairsModel" "guests" "I") (by decide +kernel)) (fun _ h9 => h9) rfl dX1_counted_120 ?_
    refine lv_imul hx hb dX1_counted_123 ?_
    refine gc_topi (y := nI (2 * g)) (pk_mul 2 g) ?_
    refine lv_icmp_ge (tgt := 149) hx hb dX1_counted_124 (by decide) (fun c_124 => ?_) (fun c_124 => ?_)
    · skip
      have hEi : i = 2 * g := gc_ge c_124 (by omega) (by omega)
      refine lv_iload_n hx hb dX1_counted_149 rfl (lv_at hl 1 rfl) ?_
      have hpost : y = mCo K g r w := by simp [mCo, hcase] <;> rw [e_y, hEi]
      exact W.iret (v := y) hx hb hr (fun t ht hW => ⟨⟨y, (ra0, fb0), rfl, hpost, ⟨by rw [ht]; exact hP, hD⟩⟩, hS.F ht⟩) hS.2.2 dX1_counted_150
    · skip
      have hLi : i < 2 * g := gc_lt c_124 (by omega) (by omega)
      refine lv_iload_n hx hb dX1_counted_127 rfl (lv_at hl 1 rfl) ?_
      refine lv_aload_n hx hb dX1_counted_128 rfl (lv_at hl 2 rfl) ?_
      refine lv_iload_n hx hb dX1_counted_129 rfl (lv_at hl 0 rfl) ?_
      have hPc : va_P (dC, dI) vwCl (gmW h kc f1 f2 of ra0 fb0 th (nI g) (nI r) x1 x2) _ := hP.sub [0, 1, 2, 3, 4, 5] rfl
      have hKc : va_K (dC, dI) vwCl (gmT kc) s := hK.sub [0, 1, 2, 3, 4] rfl
      have hDc : va_D A (gmW h kc f1 f2 of ra0 fb0 th (nI g) (nI r) x1 x2) := hD.sub [0, 1, 2, 3, 4, 5] (by decide) rfl
      have hFc := va_free (wc := (gmW h kc f1 f2 of ra0 fb0 th (nI g) (nI r) x1 x2)) hD hS hA [0, 1, 2, 3, 4, 5] rfl
      refine va_calli (va_runV (As := [.int (nI i)]) (rest := [.int y]) ⟨hx, hb, hml, hown, hts⟩ (c_X1_isVain l dC dI h kc f1 f2 of ra0 fb0 th g r x1 x2 K i H.size (by first | assumption | omega) (by first | assumption | omega) (by first | assumption | omega) (by first | assumption | omega)) (cwV 1 hts gX1_counted_X1_isVain rfl rfl rfl (by decide +kernel) ⟨Nat.le_of_ble_eq_true rfl, Nat.le_of_ble_eq_true rfl⟩) ⟨gcPM_blind, va_recv hK hP (ci := 1) (q0 := 0) rfl rfl, fun U hU hW => ⟨rfl, by rw [hU], by rw [hU]; exact hPc, va_K.moved hW.alike hKc, hDc.weaken (fun _ _ _ _ => trivial)⟩⟩ rfl rfl hl.1 rfl (lv_room (Nat.le_of_ble_eq_true rfl)) dX1_counted_130 ⟨Nat.zero_le _, Nat.zero_le _⟩) hS (fun q _ h => hFc q h) hFc (fun r4 u t H locs ht hvm hw hB hz1 hk1 hS => ?_)
      obtain ⟨ro25, fa26⟩ := u
      obtain ⟨hP1, hD1⟩ := hB
      rw [ht] at hP1
      obtain ⟨hP, hD⟩ := va_join (wr := []) (w1 := (gmW h kc f1 f2 of ro25 fa26 th (nI g) (nI r) x1 x2)) hP hD [0, 1, 2, 3, 4, 5] [] rfl rfl (by decide) (by decide) hk1 hFc hP1 hD1
      have hP : va_P (dC, dI) vwCl (gmW h kc f1 f2 of ro25 fa26 th (nI g) (nI r) x1 x2) H := hP.sub [0, 1, 2, 3, 4, 5] rfl
      have hD : va_D A (gmW h kc f1 f2 of ro25 fa26 th (nI g) (nI r) x1 x2) := hD.sub [0, 1, 2, 3, 4, 5] (by decide) rfl
      have hw : r4 = gB (fo K i (i ^^^ 1)) := hw
      subst hw
      clear hw
      clear hz1 hk1 ht hvm hP1 hD1 hFc hDc
      clear hPc hKc
      refine lv_if_eq (tgt := 140) hx hb dX1_counted_133 (by decide) (fun c_133 => ?_) (fun c_133 => ?_)
      · skip
        have c_133 := gB_f c_133
        refine lv_iconst (v := 0) hx hb dX1_counted_140 (by decide) ?_
        refine lv_iadd hx hb dX1_counted_141 ?_
        refine lv_istore_n (lv' := [(2, .int (y + 0)), (3, .int (nI i)), (0, .ref (h 0)), (1, .int (nI w))]) hx hb dX1_counted_142 rfl hl (by decide) rfl (fun ls hl => ?_)
        refine lv_iinc (v := nI (i + 1)) (lv' := [(3, .int (nI (i + 1))), (2, .int (y + 0)), (0, .ref (h 0)), (1, .int (nI w))]) hx hb dX1_counted_143 hl (k := 1) rfl (nI_1 i) (by decide) rfl (fun ls hl => ?_)
        refine lv_goto (tgt := 117) hx hb dX1_counted_146 (by decide) ?_
        exact ihi H _ ls (by omega) ⟨(y + 0), ro25, fa26, (by rw [mCv, ← e_y, c_133]; rfl), hP, hD, hS, lv_sub hl [0, 1, 2, 3] rfl⟩
      · skip
        have c_133 := gB_t c_133
        refine lv_iconst (v := 1) hx hb dX1_counted_136 (by decide) ?_
        refine lv_goto (tgt := 141) hx hb dX1_counted_137 (by decide) ?_
        refine lv_iadd hx hb dX1_counted_141 ?_
        refine lv_istore_n (lv' := [(2, .int (y + 1)), (3, .int (nI i)), (0, .ref (h 0)), (1, .int (nI w))]) hx hb dX1_counted_142 rfl hl (by decide) rfl (fun ls hl => ?_)
        refine lv_iinc (v := nI (i + 1)) (lv' := [(3, .int (nI (i + 1))), (2, .int (y + 1)), (0, .ref (h 0)), (1, .int (nI w))]) hx hb dX1_counted_143 hl (k := 1) rfl (nI_1 i) (by decide) rfl (fun ls hl => ?_)
        refine lv_goto (tgt := 117) hx hb dX1_counted_146 (by decide) ?_
        exact ihi H _ ls (by omega) ⟨(y + 1), ro25, fa26, (by rw [mCv, ← e_y, c_133]; rfl), hP, hD, hS, lv_sub hl [0, 1, 2, 3] rfl⟩
  · skip
    refine lv_tableOut (tgt := 151) hx hb dX1_counted_3 (by rw [hcase]; decide) (by decide) ?_
    refine lv_iconst (v := 0) hx hb dX1_counted_151 (by decide) ?_
    refine lv_istore_n (lv' := [(3, .int 0), (2, .int 0), (0, .ref (h 0)), (1, .int (nI w))]) hx hb dX1_counted_152 rfl hl (by decide) rfl (fun ls hl => ?_)
    refine gc_loop (2 * g) (fun (i : Nat) (H : Heap) (locs : List Loc) (ls : Array Slot) => ∃ (y : Int32) (ra0 : Nat → Int32) (fb0 : Nat → Int32), y = mCp K i ∧ va_P (dC, dI) vwCl (gmW h kc f1 f2 of ra0 fb0 th (nI g) (nI r) x1 x2) H ∧ va_D A (gmW h kc f1 f2 of ra0 fb0 th (nI g) (nI r) x1 x2) ∧ va_S A s.heap H locs ∧ lv_has ls 4 [(3, .int (nI i)), (2, .int y), (0, .ref (h 0)), (1, .int (nI w))]) 0 (Nat.zero_le _) ⟨0, ro, fa, (by first | rfl | assumption | omega), hP, hD, hS, lv_sub hl [0, 1, 2, 3] rfl⟩ ?_
    intro i H locs ls hi hI ihi
    obtain ⟨y, ra0, fb0, e_y, hP, hD, hS, hl⟩ := hI
    refine lv_iload_n hx hb dX1_counted_153 rfl (lv_at hl 0 rfl) ?_
    refine lv_iconst (v := 2) hx hb dX1_counted_154 (by decide) ?_
    refine lv_aload_n hx hb dX1_counted_155 rfl (lv_at hl 2 rfl) ?_
    refine va_get (D := (dC, dI)) (ci := 1) (v := .int (nI g)) (C := RX1) (T := TX1) (N := 10) hx hb hts hin1 hown hK hP 0 rfl rfl 1 (by decide) (hts (.fieldLink RX1 36 "GuestChairsModel" "guests" "I") (by decide +kernel)) (fun _ h9 => h9) rfl dX1_counted_156 ?_
    refine lv_imul hx hb dX1_counted_159 ?_
    refine gc_topi (y := nI (2 * g)) (pk_mul 2 g) ?_
    refine lv_icmp_ge (tgt := 179) hx hb dX1_counted_160 (by decide) (fun c_160 => ?_) (fun c_160 => ?_)
    · skip
      have hEi : i = 2 * g := gc_ge c_160 (by omega) (by omega)
      refine lv_iload_n hx hb dX1_counted_179 rfl (lv_at hl 1 rfl) ?_
      have hpost : y = mCo K g r w := by simp [mCo, hcase] <;> rw [e_y, hEi]
      exact W.iret (v := y) hx hb hr (fun t ht hW => ⟨⟨y, (ra0, fb0), rfl, hpost, ⟨by rw [ht]; exact hP, hD⟩⟩, hS.F ht⟩) hS.2.2 dX1_counted_180
    · skip
      have hLi : i < 2 * g := gc_lt c_160 (by omega) (by omega)
      refine lv_iload_n hx hb dX1_counted_163 rfl (lv_at hl 1 rfl) ?_
      refine lv_aload_n hx hb dX1_counted_164 rfl (lv_at hl 2 rfl) ?_
      refine lv_iload_n hx hb dX1_counted_165 rfl (lv_at hl 0 rfl) ?_
      have hPc : va_P (dC, dI) vwCl (gmW h kc f1 f2 of ra0 fb0 th (nI g) (nI r) x1 x2) _ := hP.sub [0, 1, 2, 3, 4, 5] rfl
      have hKc : va_K (dC, dI) vwCl (gmT kc) s := hK.sub [0, 1, 2, 3, 4] rfl
      have hDc : va_D A (gmW h kc f1 f2 of ra0 fb0 th (nI g) (nI r) x1 x2) := hD.sub [0, 1, 2, 3, 4, 5] (by decide) rfl
      have hFc := va_free (wc := (gmW h kc f1 f2 of ra0 fb0 th (nI g) (nI r) x1 x2)) hD hS hA [0, 1, 2, 3, 4, 5] rfl
      refine va_calli (va_runV (As := [.int (nI i)]) (rest := [.int y]) ⟨hx, hb, hml, hown, hts⟩ (c_X1_spread l dC dI h kc f1 f2 of ra0 fb0 th g r x1 x2 K i H.size (by first | assumption | omega) (by first | assumption | omega) (by first | assumption | omega) (by first | assumption | omega)) (cwV 1 hts gX1_counted_X1_spread rfl rfl rfl (by decide +kernel) ⟨Nat.le_of_ble_eq_true rfl, Nat.le_of_ble_eq_true rfl⟩) ⟨gcPM_blind, va_recv hK hP (ci := 1) (q0 := 0) rfl rfl, fun U hU hW => ⟨rfl, by rw [hU], by rw [hU]; exact hPc, va_K.moved hW.alike hKc, hDc.weaken (fun _ _ _ _ => trivial)⟩⟩ rfl rfl hl.1 rfl (lv_room (Nat.le_of_ble_eq_true rfl)) dX1_counted_166 ⟨Nat.zero_le _, Nat.zero_le _⟩) hS (fun q _ h => hFc q h) hFc (fun r7 u t H locs ht hvm hw hB hz1 hk1 hS => ?_)
      obtain ⟨ro28, fa29⟩ := u
      obtain ⟨hP1, hD1⟩ := hB
      rw [ht] at hP1
      obtain ⟨hP, hD⟩ := va_join (wr := []) (w1 := (gmW h kc f1 f2 of ro28 fa29 th (nI g) (nI r) x1 x2)) hP hD [0, 1, 2, 3, 4, 5] [] rfl rfl (by decide) (by decide) hk1 hFc hP1 hD1
      have hP : va_P (dC, dI) vwCl (gmW h kc f1 f2 of ro28 fa29 th (nI g) (nI r) x1 x2) H := hP.sub [0, 1, 2, 3, 4, 5] rfl
      have hD : va_D A (gmW h kc f1 f2 of ro28 fa29 th (nI g) (nI r) x1 x2) := hD.sub [0, 1, 2, 3, 4, 5] (by decide) rfl
      have hw_166 : r7 = nI (fb_ct (fun v => fo K i v) 20) ∧ (∀ v, v < 20 → fa29 v = di K i v) ∧ ∀ v, v < 20 → (fo K i v = true ∧ ∃ n, n < 20 ∧ di K i v = nI n ∧ rk K n i v) ∨ (fo K i v = false ∧ di K i v = -1) := hw
      clear hz1 hk1 ht hvm hP1 hD1 hFc hDc
      clear hPc hKc
      refine lv_iconst (v := 1) hx hb dX1_counted_169 (by decide) ?_
      refine lv_isub hx hb dX1_counted_170 ?_
      refine lv_iadd hx hb dX1_counted_171 ?_
      refine lv_istore_n (lv' := [(2, .int (y + (r7 - 1))), (3, .int (nI i)), (0, .ref (h 0)), (1, .int (nI w))]) hx hb dX1_counted_172 rfl hl (by decide) rfl (fun ls hl => ?_)
      refine lv_iinc (v := nI (i + 1)) (lv' := [(3, .int (nI (i + 1))), (2, .int (y + (r7 - 1))), (0, .ref (h 0)), (1, .int (nI w))]) hx hb dX1_counted_173 hl (k := 1) rfl (nI_1 i) (by decide) rfl (fun ls hl => ?_)
      refine lv_goto (tgt := 153) hx hb dX1_counted_176 (by decide) ?_
      exact ihi H _ ls (by omega) ⟨(y + (r7 - 1)), ro28, fa29, (by rw [mCp, ← e_y, hw_166.1]), hP, hD, hS, lv_sub hl [0, 1, 2, 3] rfl⟩
