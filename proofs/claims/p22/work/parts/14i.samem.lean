/-! BY HAND AGAINST THE BOOK: what their answers have in common; roads that meet again. -/
theorem seat_best {K : Bk} {g : Nat} (hg : g ≤ 10) (hK : Kg K g) {cl : Nat → Int32} (hc : gCls K cl) (s0 : Nat → Int32) {x : Int32} (h : QB K (2 ^ g) x) : gSeat (gLs cl s0 g g).1 g (gLs cl s0 g g).2 = x := by
  have hLF := LF_of hg hK hc s0
  have hle := hLF.2
  have hct := LF_count hK hLF
  unfold gSeat
  by_cases c : (gLs cl s0 g g).2 = 0
  · rw [if_pos c]
    rcases h with ⟨q, -⟩ | ⟨B, q1, -, q3, -⟩
    · exact q.symm
    · have := fb_ct_pos.mpr ⟨B, q1, sb_t q3⟩
      omega
  · have e0 : gAt 1024 (gLs cl s0 g g).1 0 = (gLs cl s0 g g).1 0 := gAt_in (n := 1024) (j := 0) (by decide) (by decide) _
    rw [if_neg c, e0, gGC_bn _ g hg]
    have hpos : 0 < (gLs cl s0 g g).2 := by omega
    have hf : gFt cl g = true := (gFt_iff hc hg).mpr ((list_LI hg hK hc s0 g (Nat.le_refl g)).2.2 hpos)
    have hsat := (LF_sat hK hLF hpos).1
    have hlt := bn_lt (fun y => bt ((gLs cl s0 g g).1 0) (2 * y)) g
    rcases h with ⟨-, q⟩ | ⟨B, q1, q2, q3, q4⟩
    · exact absurd hsat (q _ hlt)
    · rw [q2]
      by_cases hne : bn (fun y => bt ((gLs cl s0 g g).1 0) (2 * y)) g = B
      · rw [hne]
      · exfalso
        obtain ⟨z, z1, z2, z3⟩ := q4 _ hlt hsat hne
        have hzg : z < g := by
          rcases Nat.lt_or_ge z g with d | d
          · exact d
          · rw [Nat.testBit_lt_two_pow (Nat.lt_of_lt_of_le q1 (Nat.pow_le_pow_right (by decide) d))] at z1
            exact absurd z1 (by decide)
        have hst := (seat_step hg hK hc s0 hf hzg).mp ⟨B, q1, q3, by
          obtain ⟨p, hp⟩ : ∃ p : Nat → Bool, p = fun y => bt ((gLs cl s0 g g).1 0) (2 * y) := ⟨_, rfl⟩
          rw [← hp] at z3 ⊢
          apply Nat.eq_of_testBit_eq
          intro i
          rw [Nat.testBit_mod_two_pow, ← bn_or, Nat.testBit_or, bn_bit, Nat.testBit_two_pow]
          rcases Nat.lt_trichotomy i z with d | d | d
          · have e := z3 i d
            rw [bn_bit] at e
            have h1 : i < z + 1 := by omega
            have h2 : ¬ z = i := by omega
            have h3 : i < g := by omega
            simp only [h3, decide_true, Bool.true_and] at e
            simp [h1, h2, d, e]
          · subst d
            simp [z1]
          · have h1 : ¬ i < z + 1 := by omega
            have h2 : ¬ z = i := by omega
            have h3 : ¬ i < z := by omega
            simp [h1, h2, h3]⟩
        rw [bn_bit] at z2
        simp only [hzg, decide_true, Bool.true_and] at z2
        rw [hst] at z2
        exact absurd z2 (by decide)
theorem mean_num {a b : Int32} (hb : b ≠ 0) : FP.Core.val64 (FP.ddiv (FP.i2d a) (FP.i2d b)) ≠ .nan := by
  have h1 : FP.Core.dIsNaN (FP.Core.ddiv (FP.Core.i2d a) (FP.Core.i2d b)) = false := FP.Core.ddiv_out (FP.Core.i2d_fin a).notNaN (FP.Core.i2d_fin b) (fun q => FP.Core.i2d_ne_zero hb ((FP.Core.zero_bits2 _).mp q))
  intro q
  have h2 : FP.Core.dIsNaN (FP.Core.ddiv (FP.Core.i2d a) (FP.Core.i2d b)) = true := (FP.Core.dIsNaN_iff _).mpr q
  rw [h1] at h2
  cases h2
theorem mean_zero : FP.Core.val64 FP.dconst0 ≠ .nan := by decide +kernel
theorem alike_self (z : UInt64) : alike64 z z = true := by simp [alike64]
theorem mean_same {x y z : UInt64} (hz : FP.Core.val64 z ≠ .nan) (h1 : alike64 x z = true) (h2 : alike64 y z = true) : Op.cmpValue (FP.dcmp x y) CmpOp.l = 0 := by
  unfold alike64 at h1 h2
  rw [Bool.or_eq_true, Bool.and_eq_true, decide_eq_true_iff] at h1 h2
  have e1 : x = z := h1.resolve_right (fun q => hz (nan_val q.2))
  have e2 : y = z := h2.resolve_right (fun q => hz (nan_val q.2))
  rw [e1, e2]
  have e3 : FP.dcmp z z = some .eq := FP.Core.dcmp_self hz
  rw [e3]
  rfl
theorem i32_or {x y : Int32} (h : x &&& y = 0) : x + y = x ||| y := by
  have h2 : x.toBitVec &&& y.toBitVec = 0#32 := by
    have := congrArg Int32.toBitVec h
    simpa using this
  apply Int32.toBitVec_inj.mp
  rw [Int32.toBitVec_add, Int32.toBitVec_or]
  exact BitVec.add_eq_or_of_and_eq_zero _ _ h2
theorem mRe_add {K : Bk} {w u : Nat} (hu : u < 20) (ho : fo K w u = true) : mRe K w u + ((1 : Int32) <<< (nI u &&& 31)) = mRe K w (u + 1) := by
  rw [mRe, if_pos ho]
  apply i32_or
  apply b_ext
  intro v hv
  rw [b_and, mRe_bt K hv u (by omega), bt_one (by omega) hv, b_0]
  by_cases c : v = u
  · simp [c]
  · simp [c]
theorem mRe_not {K : Bk} {w u : Nat} (ho : fo K w u = false) : mRe K w u = mRe K w (u + 1) := by
  rw [mRe, if_neg (by rw [ho]; decide)]
  apply b_ext
  intro v hv
  rw [b_or, b_0, Bool.or_false]
theorem ct_one (p : Nat → Bool) (w : Nat) (hp : p w = true) : ∀ n, fb_ct (fun v => p v && decide (v = w)) n = if w < n then 1 else 0
  | 0 => rfl
  | n + 1 => by
    rw [fb_ct, ct_one p w hp n]
    by_cases c : n = w
    · subst c
      simp [hp]
    · by_cases d : w < n
      · have e : w < n + 1 := by omega
        simp [c, d, e]
      · have e : ¬ w < n + 1 := by omega
        simp [c, d, e]
theorem mCp_add {K : Bk} {g w : Nat} (hg : g ≤ 10) (hK : Kg K g) (hw : w < 2 * g) : mCp K w + nI (fb_ct (fun v => fo K w v && !decide (v = w)) (2 * g)) = mCp K (w + 1) := by
  have h1 := ct_parts (fun v => fo K w v) (fun v => decide (v = w)) (2 * g)
  have h2 : fb_ct (fun v => fo K w v && decide (v = w)) (2 * g) = 1 := by
    rw [ct_one (fun v => fo K w v) w (fo_iff.mpr (fol_refl K w)), if_pos hw]
  have h3 : fb_ct (fun v => fo K w v) 20 = fb_ct (fun v => fo K w v) (2 * g) := ct_cut (by omega) (fun i hi _ => by
    cases q : fo K w i
    · rfl
    · exact absurd (fol_lt hK hw (fo_iff.mp q)) (by omega))
  rw [mCp, h3, h1, h2, nI_pred]
theorem mFp_y {K : Bk} {g w S : Nat} (hg : g ≤ 10) (hK : Kg K g) (hr : K.1 ≤ 30) (hw : w < 20) (hS : S < 1024) (hs : satp K S) : mFp K (-1) (-1) (nI w) S = hol w S := by
  unfold mFp
  rw [(mBB_sat hg hK hr hS).mpr hs, mHo_hol hw hS]
  rfl
theorem mFp_n {K : Bk} {g S : Nat} {w : Int32} (hg : g ≤ 10) (hK : Kg K g) (hr : K.1 ≤ 30) (hS : S < 1024) (hs : ¬ satp K S) : mFp K (-1) (-1) w S = true := by
  unfold mFp
  rw [decide_eq_true (show ¬ mBB K (-1) (-1) (nI S) = -1 from fun q => hs ((mBB_sat hg hK hr hS).mp q))]
  rfl
theorem mFe_ge {K : Bk} {g : Nat} (hg : g ≤ 10) (hK : Kg K g) (hr : K.1 ≤ 30) {n : Nat} (hn : n ≤ 1024) : mFe K (-1) (-1) n < 0 ↔ mFe K (-1) (-1) n = -1 := by
  rcases mFe_min hg hK hr n hn with ⟨q, -⟩ | ⟨k, q1, q2, -⟩
  · rw [q]; decide
  · rw [q2]
    constructor
    · intro h
      exact absurd ((nI_ltI (a := k) (b := 0) (by omega) (by decide)).mp h) (by omega)
    · intro h
      exact absurd h (nI_nm1 (by omega))
theorem qS_ge {K : Bk} {S : Nat} (h : 0 ≤ qS K S) : satp K S := Classical.byContradiction fun q => by
  rw [qS_n q] at h
  exact absurd h (by decide)
theorem qS_nge {K : Bk} {S : Nat} (h : ¬ 0 ≤ qS K S) : ¬ satp K S := fun q => by
  rw [qS_y q] at h
  have := pc_le S
  exact h (nI_pos0 _ (by omega))
theorem i32_nlt {a b : Int32} (h : a ≤ b) : ¬ b < a := fun q => by
  rw [Int32.le_iff_toInt_le] at h
  rw [Int32.lt_iff_toInt_lt] at q
  omega
theorem i32_lt {a b : Int32} (h : ¬ a ≤ b) : b < a := by
  rw [Int32.le_iff_toInt_le] at h
  rw [Int32.lt_iff_toInt_lt]
  omega
theorem ct_n {q : Nat → Bool} {u : Nat} (h : q u = false) : fb_ct q (u + 1) = fb_ct q u := by
  rw [fb_ct, h]; rfl
theorem ct_y {q : Nat → Bool} {u : Nat} (h : q u = true) : fb_ct q (u + 1) = fb_ct q u + 1 := by
  rw [fb_ct, h]; rfl
theorem di_or {K : Bk} (hK : Bk20 K) {a b : Nat} (ha : a < 20) : (fo K a b = true ∧ ∃ m, m < 20 ∧ di K a b = nI m ∧ rk K m a b) ∨ (fo K a b = false ∧ di K a b = -1) := by
  cases h : fo K a b
  · exact Or.inr ⟨rfl, (di_spec K a b).2 (fun q => by rw [fo_iff.mpr q] at h; cases h)⟩
  · obtain ⟨n, h1, h2, h3⟩ := (di_spec K a b).1 (fo_iff.mp h)
    obtain ⟨d, q1, q2, q3⟩ := rk_short hK ha (fo_iff.mp h)
    have e : n = d := by
      rcases Nat.lt_trichotomy n d with z | z | z
      · exact absurd h2 (q3 _ z)
      · exact z
      · exact absurd q2 (h3 _ z)
    exact Or.inl ⟨rfl, d, q1, by rw [h1, e], q2⟩
theorem FT_yes {K : Bk} {n : Nat} {D : Nat → Nat → Nat} (h : FT K n D) {a b : Nat} (ha : a < n) (hb : b < n) (ho : fo K a b = true) : nI (D a b) = di K a b := by
  rcases h a b ha hb with ⟨-, -, q⟩ | ⟨q, -, -⟩
  · exact q.symm
  · rw [ho] at q; cases q
theorem FT_not {K : Bk} {n : Nat} {D : Nat → Nat → Nat} (h : FT K n D) {a b : Nat} (ha : a < n) (hb : b < n) (ho : fo K a b = false) : (-1 : Int32) = di K a b := by
  rcases h a b ha hb with ⟨q, -, -⟩ | ⟨-, -, q⟩
  · rw [ho] at q; cases q
  · exact q.symm
theorem mGo_step {K : Bk} {x y a b : Nat} (hb : b < 2) : mGo K x y (2 * a + (b + 1)) = (mGo K x y (2 * a + b) || (fo K (2 * x + a) (2 * y + b) && fo K (2 * y + b) (2 * x + a))) := by
  rw [show 2 * a + (b + 1) = (2 * a + b) + 1 by omega, mGo, show (2 * a + b) / 2 = a by omega, show (2 * a + b) % 2 = b by omega]
theorem told_row {K : Bk} {g x : Nat} {a b t : Bool} {w : Int32} (ha : a = mFo K (-1) (-1) (nI (2 * x)) g) (hb : b = mFo K (-1) (-1) (nI (2 * x + 1)) g) (ht : t = mTo K x) (hw : w = mGs K x g) {k : Nat} (hk : k < 4) : mGu K (-1) (-1) g x k = (upd (upd (upd (upd (fun _ => 0) 0 (gB a)) 1 (gB b)) 2 (gB t)) 3 w) k := by
  subst ha hb ht hw
  rcases (show k = 0 ∨ k = 1 ∨ k = 2 ∨ k = 3 by omega) with rfl | rfl | rfl | rfl <;> simp [mGu, upd]
theorem count_row {K : Bk} {g r : Nat} {a b c d : Int32} (ha : a = mCi K r) (hb : b = mCt K g) (hc : c = mCv K (2 * g)) (hd : d = mCp K (2 * g)) {k : Nat} (hk : k < 6) : mCo K g r k = (upd (upd (upd (upd (upd (upd (fun _ => 0) 0 (nI g)) 1 (nI r)) 2 a) 3 b) 4 c) 5 d) k := by
  subst ha hb hc hd
  rcases (show k = 0 ∨ k = 1 ∨ k = 2 ∨ k = 3 ∨ k = 4 ∨ k = 5 by omega) with rfl | rfl | rfl | rfl | rfl | rfl <;> simp [mCo, upd]
theorem mSz_q {K : Bk} {S : Nat} (hS : S < 1024) (h : satp K S) : qS K S = mSz (nI S) 10 := by rw [qS_y h, mSz_pc hS]
section QJ
variable {p : Program} {l : Launch} {e : Env} {R : Room} {s : State} {m : MethodId} {args : Array Value} {below : List Frame} {meth : Method} {c : Code} {H : Heap} {locs : List Loc} {cells slots : Nat} {Q : State → Prop} {cc : ByteArray} {pc : Nat} {ls : Array Slot} {rest : List Value}
theorem q_ternG (hexec : p.tables.exec = Jvm.exec) (hb : c.code = cc) {v : Bool} {p3 tgt mg : Nat} {o : Int} {g1 : JFrame} (br : (v = true → W p l e R s m args below meth c H locs cells slots Q (F0 m p3 ls rest)) → (v = false → W p l e R s m args below meth c H locs cells slots Q (F0 m tgt ls rest)) → W p l e R s m args below meth c H locs cells slots Q g1)
    (d1 : decode cc p3 = .ok (.iconst 1, 1)) (d2 : decode cc (p3 + 1) = .ok (.goto o, 3)) (ht : ((p3 + 1 : Nat) : Int) + o = (mg : Int)) (d3 : decode cc tgt = .ok (.iconst 0, 1)) (hm : tgt + 1 = mg)
    (kk : W p l e R s m args below meth c H locs cells slots Q (F0 m mg ls (.int (gB v) :: rest))) : W p l e R s m args below meth c H locs cells slots Q g1 := by
  refine br (fun h => ?_) (fun h => ?_)
  · subst h
    refine lv_iconst (v := 1) hexec hb d1 (by decide) ?_
    refine lv_goto (tgt := mg) hexec hb d2 ht ?_
    exact kk
  · subst h
    refine lv_iconst (v := 0) hexec hb d3 (by decide) ?_
    subst hm
    exact kk
theorem q_joinH {I : Heap → List Loc → Prop} {g1 g2 : JFrame} (kk : ∀ (H1 : Heap) (locs1 : List Loc), I H1 locs1 → W p l e R s m args below meth c H1 locs1 cells slots Q g2)
    (k : (∀ (H1 : Heap) (locs1 : List Loc), I H1 locs1 → W p l e R s m args below meth c H1 locs1 cells slots Q g2) → W p l e R s m args below meth c H locs cells slots Q g1) : W p l e R s m args below meth c H locs cells slots Q g1 := k kk
end QJ
