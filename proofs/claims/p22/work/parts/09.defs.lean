/-! THE REFERENCE'S METHODS. Its book of rules is K: what its rows hold, read as numbers. -/
def mOK (K : Bk) (g r : Nat) (f1 f2 of : Nat → Int32) : Prop := K.1 = r ∧ ∀ j, j < r → f1 j = nI (K.2.1 j) ∧ f2 j = nI (K.2.2.1 j) ∧ K.2.1 j < 2 * g ∧ K.2.2.1 j < 2 * g ∧ of j = gB (!K.2.2.2 j)
theorem mOK_20 {K : Bk} {g r : Nat} {f1 f2 of : Nat → Int32} (h : mOK K g r f1 f2 of) (hg : g ≤ 10) : Bk20 K := fun j hj => by
  have q := h.2 j (by rw [← h.1]; exact hj)
  exact ⟨by omega, by omega⟩
def mIn (v lo hi : Int32) : Bool := decide (¬ v < lo ∧ ¬ hi < v)
theorem mIn_ok {j n : Nat} (h : j < n) (hn : n < 2 ^ 30) : mIn (nI j) 0 (nI n - 1) = true := by
  have e : nI n - 1 = nI (n - 1) := by rw [show n = (n - 1) + 1 by omega, nI_pred]; rfl
  rw [e]
  unfold mIn
  rw [decide_eq_true_iff]
  exact ⟨nI_pos (by omega), fun q => absurd ((nI_ltI (by omega) (by omega)).mp q) (by omega)⟩
theorem mIn_no {x : Int32} {n : Nat} (hn : n < 2 ^ 30) (h : ∀ j, j < n → x ≠ nI j) : mIn x 0 (nI n - 1) = false := by
  unfold mIn
  rw [decide_eq_false_iff_not]
  rintro ⟨h0, h1⟩
  rcases pk_ix x (n := n) (by omega) with c | c | ⟨j, hj, c⟩
  · exact h0 c
  · apply h1
    have h2 : (nI n - 1).toInt = (n : Int) - 1 := by
      have := pk_sub_toInt (a := n) (b := 1) (by omega) (by omega)
      exact this
    have h3 := Int32.le_iff_toInt_le.mp c
    rw [nI_toInt (by omega)] at h3
    exact Int32.lt_iff_toInt_lt.mpr (by omega)
  · exact h j hj c
/-! THE REFERENCE'S SEATINGS AND COUNTS. -/
def mHo (w v : Int32) : Bool := decide (((v >>> ((w / 2) &&& 31)) &&& 1) = (1 - (w - w / 2 * 2)))
def mP (K : Bk) (v : Int32) (j : Nat) : Bool := K.2.2.2 j && mHo (nI (K.2.1 j)) v && !mHo (nI (K.2.2.1 j)) v
def mBB (K : Bk) (x1 x2 v : Int32) : Int32 := if gFst (mP K v) K.1 = -1 then (if ¬ x1 = -1 ∧ mHo x1 v = true ∧ mHo x2 v = false then 30 else -1) else gFst (mP K v) K.1
def mSW (K : Bk) (x1 x2 v fi : Int32) : Nat → Int32
  | 0 => 0
  | i + 1 => mSW K x1 x2 v fi i + (if (nI i &&& (((1 : Int32) <<< (fi &&& 31)) - 1)) = v ∧ mBB K x1 x2 (nI i) = -1 then 1 else 0)
def mAll (K : Bk) (x1 x2 : Int32) (g : Nat) : Int32 := mSW K x1 x2 0 0 (2 ^ g)
def mPo (x : Int32) : Bool := decide (¬ x ≤ 0)
def gmA (p : Nat → Bool) : Nat → Bool
  | 0 => true
  | i + 1 => gmA p i && p i
theorem gmA_le {p : Nat → Bool} {i : Nat} (h : gmA p i = false) : ∀ {n : Nat}, i ≤ n → gmA p n = false
  | 0, hn => by rw [show i = 0 by omega] at h; exact h
  | n + 1, hn => by
    rcases Nat.lt_or_ge n i with q | q
    · rw [show n + 1 = i by omega]; exact h
    · simp [gmA, gmA_le h q]
theorem mFo_stop {P : Bool} {p : Nat → Bool} {i n : Nat} (h : (P && gmA p i) = false) (hi : i ≤ n) : (P && gmA p n) = false := by
  cases P
  · rfl
  · simp only [Bool.true_and] at h ⊢; exact gmA_le h hi
def mFp (K : Bk) (x1 x2 w : Int32) (i : Nat) : Bool := decide (¬ mBB K x1 x2 (nI i) = -1) || mHo w (nI i)
def mFo (K : Bk) (x1 x2 w : Int32) (g : Nat) : Bool := mPo (mAll K x1 x2 g) && gmA (mFp K x1 x2 w) (2 ^ g)
noncomputable def mTo (K : Bk) (x : Nat) : Bool := fo K (2 * x) ((2 * x) ^^^ 1) && fo K (2 * x + 1) ((2 * x + 1) ^^^ 1)
noncomputable def mRe (K : Bk) (a : Nat) : Nat → Int32
  | 0 => 0
  | i + 1 => mRe K a i ||| (if fo K a i = true then (1 : Int32) <<< (nI i &&& 31) else 0)
noncomputable def mGo (K : Bk) (x y : Nat) : Nat → Bool
  | 0 => false
  | k + 1 => mGo K x y k || (fo K (2 * x + k / 2) (2 * y + k % 2) && fo K (2 * y + k % 2) (2 * x + k / 2))
noncomputable def mGs (K : Bk) (x : Nat) : Nat → Int32
  | 0 => 0
  | i + 1 => mGs K x i + gB (mGo K x i 4)
noncomputable def mGu (K : Bk) (x1 x2 : Int32) (g x w : Nat) : Int32 := if w < 2 then gB (mFo K x1 x2 (nI (2 * x + w)) g) else if w = 2 then gB (mTo K x) else mGs K x g
def mCi (K : Bk) : Nat → Int32
  | 0 => 0
  | i + 1 => mCi K i + gB (K.2.2.2 i)
noncomputable def mCt (K : Bk) : Nat → Int32
  | 0 => 0
  | i + 1 => mCt K i + gB (mTo K i)
noncomputable def mCv (K : Bk) : Nat → Int32
  | 0 => 0
  | i + 1 => mCv K i + gB (fo K i (i ^^^ 1))
noncomputable def mCp (K : Bk) : Nat → Int32
  | 0 => 0
  | i + 1 => mCp K i + (nI (fb_ct (fun v => fo K i v) 20) - 1)
noncomputable def mCo (K : Bk) (g r : Nat) : Nat → Int32
  | 0 => nI g
  | 1 => nI r
  | 2 => mCi K r
  | 3 => mCt K g
  | 4 => mCv K (2 * g)
  | _ => mCp K (2 * g)
def mSg (K : Bk) (x1 x2 : Int32) (g : Nat) : Nat → Int32
  | 0 => 0
  | i + 1 => if ¬ mSW K x1 x2 (mSg K x1 x2 g i ||| ((1 : Int32) <<< (nI i &&& 31))) (nI i + 1) (2 ^ g) ≤ 0 then mSg K x1 x2 g i ||| ((1 : Int32) <<< (nI i &&& 31)) else mSg K x1 x2 g i
def mSe (K : Bk) (x1 x2 : Int32) (g : Nat) : Int32 := if mAll K x1 x2 g = 0 then -1 else mSg K x1 x2 g g
def mSz (v : Int32) : Nat → Int32
  | 0 => 0
  | i + 1 => mSz v i + ((v >>> (nI i &&& 31)) &&& 1)
def mFe (K : Bk) (x1 x2 : Int32) : Nat → Int32
  | 0 => -1
  | i + 1 => if mBB K x1 x2 (nI i) = -1 ∧ (mFe K x1 x2 i = -1 ∨ mSz (nI i) 10 < mFe K x1 x2 i) then mSz (nI i) 10 else mFe K x1 x2 i
def mMo (K : Bk) (x1 x2 : Int32) : Nat → Int32
  | 0 => -1
  | i + 1 => if mBB K x1 x2 (nI i) = -1 then (if mMo K x1 x2 i < mSz (nI i) 10 then mSz (nI i) 10 else mMo K x1 x2 i) else mMo K x1 x2 i
def mSu (K : Bk) (x1 x2 : Int32) : Nat → Int32
  | 0 => 0
  | i + 1 => mSu K x1 x2 i + (if mBB K x1 x2 (nI i) = -1 then mSz (nI i) 10 else 0)
def mTd (K : Bk) (x : Nat) : Nat → Int32
  | 0 => nI (K.2.1 x)
  | 1 => nI (K.2.2.1 x)
  | _ => gB (K.2.2.2 x)
/-- the book without rule j -/
def mKo (K : Bk) (j : Nat) : Bk := (K.1, K.2.1, K.2.2.1, fun i => if i = j then false else K.2.2.2 i)
theorem mOK_off {K : Bk} {g r : Nat} {f1 f2 of : Nat → Int32} (h : mOK K g r f1 f2 of) (j : Nat) : mOK (mKo K j) g r f1 f2 (upd of j 1) := by
  refine ⟨h.1, fun i hi => ?_⟩
  obtain ⟨h1, h2, h3, h4, h5⟩ := h.2 i hi
  refine ⟨h1, h2, h3, h4, ?_⟩
  by_cases c : i = j
  · simp [upd, mKo, c, gB]
  · simp [upd, mKo, c, h5]
theorem mOf_back {K : Bk} {g r : Nat} {f1 f2 of : Nat → Int32} (h : mOK K g r f1 f2 of) {j : Nat} (hj : j < r) (ho : K.2.2.2 j = true) : upd (upd of j 1) j 0 = of := by
  funext i
  by_cases c : i = j
  · have h5 := (h.2 j hj).2.2.2.2
    rw [ho] at h5
    simp only [upd, c, if_true]
    rw [h5]; rfl
  · simp [upd, c]
def mBp (K : Bk) (x1 x2 : Int32) (g j : Nat) : Bool := K.2.2.2 j && mPo (mAll (mKo K j) x1 x2 g)
def mBl (K : Bk) (x1 x2 : Int32) (g r : Nat) : Int32 := if mPo (mAll K x1 x2 g) = true then -1 else gFst (mBp K x1 x2 g) r
theorem fo_yes {K : Bk} {a v : Nat} {x : Int32} (hx : x = di K a v) (q : (fo K a v = true ∧ ∃ n, n < 20 ∧ di K a v = nI n ∧ rk K n a v) ∨ (fo K a v = false ∧ di K a v = -1)) (c : ¬ x = -1) : fo K a v = true := by
  rcases q with ⟨q, -⟩ | ⟨-, q⟩
  · exact q
  · exact absurd (hx.trans q) c
theorem fo_no {K : Bk} {a v : Nat} {x : Int32} (hx : x = di K a v) (q : (fo K a v = true ∧ ∃ n, n < 20 ∧ di K a v = nI n ∧ rk K n a v) ∨ (fo K a v = false ∧ di K a v = -1)) (c : x = -1) : fo K a v = false := by
  rcases q with ⟨-, n, hn, q, -⟩ | ⟨q, -⟩
  · exact absurd ((hx.trans q).symm.trans c) (nI_ne1 (by omega))
  · exact q
