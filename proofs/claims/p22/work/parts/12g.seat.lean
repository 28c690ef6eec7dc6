/-! THE SEATING THAT IS TOLD, AND THE CHECKSUM: one on both sides. -/
theorem nI_or {a b : Nat} (ha : a < 2 ^ 31) (hb : b < 2 ^ 31) : nI a ||| nI b = nI (a ||| b) := by
  have h : a ||| b < 2 ^ 31 := Nat.or_lt_two_pow ha hb
  apply b_ext
  intro i _
  rw [b_or, bt_nI (by omega), bt_nI (by omega), bt_nI (by omega), Nat.testBit_or]
theorem bn_congr {p q : Nat → Bool} : ∀ {n : Nat}, (∀ x, x < n → p x = q x) → bn p n = bn q n
  | 0, _ => rfl
  | n + 1, h => by rw [bn, bn, bn_congr (fun x hx => h x (by omega)), h n (by omega)]
theorem bn_or (p : Nat → Bool) (t : Nat) : bn p t ||| 2 ^ t = bn p t + 2 ^ t := by
  have e : bn (fun x => decide (x = t) || p x) (t + 1) = bn p t + 2 ^ t := by
    rw [bn, bn_congr (q := p) (fun x hx => by
      have : ¬ x = t := by omega
      simp [this])]
    simp
  rw [← e]
  apply Nat.eq_of_testBit_eq
  intro i
  rw [Nat.testBit_or, bn_bit, bn_bit, Nat.testBit_two_pow]
  by_cases c : i = t
  · subst c; simp
  · by_cases d : i < t
    · have : ¬ t = i := by omega
      simp [c, d, this, show i < t + 1 by omega]
    · have : ¬ t = i := by omega
      simp [c, d, this, show ¬ i < t + 1 by omega]
theorem gGC_bn (x : Int32) : ∀ n, n ≤ 10 → gGC x n = nI (bn (fun y => bt x (2 * y)) n)
  | 0, _ => rfl
  | n + 1, hn => by
    have h1 := bn_lt (fun y => bt x (2 * y)) n
    have h2 : 2 ^ n ≤ 2 ^ 10 := Nat.pow_le_pow_right (by decide) (by omega)
    have hm : (2 : Int32) * nI n = nI (2 * n) := pk_mul 2 n
    rw [gGC, hm, gHas_bt (by omega), gGC_bn x n (by omega), gc_shl1 (by omega), nI_or (by omega) (by omega), bn_or, bn]
    by_cases c : bt x (2 * n) = true
    · rw [if_pos c, if_pos c]
    · rw [if_neg c, if_neg c, Nat.add_zero]
theorem seat_step {K : Bk} {g : Nat} (hg : g ≤ 10) (hK : Kg K g) {cl : Nat → Int32} (hc : gCls K cl) (s0 : Nat → Int32) (hf : gFt cl g = true) {t : Nat} (ht : t < g) :
    (∃ S, S < 2 ^ g ∧ satp K S ∧ S % 2 ^ (t + 1) = bn (fun y => bt ((gLs cl s0 g g).1 0) (2 * y)) t + 2 ^ t) ↔ bt ((gLs cl s0 g g).1 0) (2 * t) = true := by
  obtain ⟨p, hp⟩ : ∃ p : Nat → Bool, p = fun y => bt ((gLs cl s0 g g).1 0) (2 * y) := ⟨_, rfl⟩
  have hpx : ∀ x, p x = bt ((gLs cl s0 g g).1 0) (2 * x) := fun x => by rw [hp]
  rw [← hp, ← hpx t]
  have hLF := LF_of hg hK hc s0
  have hpos := (first_inv hg hK hc s0 hf g (Nat.le_refl g)).1
  constructor
  · rintro ⟨S, s1, s2, s3⟩
    have bits : ∀ x, x < t + 1 → S.testBit x = (bn p t + 2 ^ t).testBit x := fun x hx => by
      rw [← s3, Nat.testBit_mod_two_pow]; simp [hx]
    have lo : ∀ x, x < t → S.testBit x = p x := fun x hx => by
      rw [bits x (by omega), ← bn_or, Nat.testBit_or, bn_bit, Nat.testBit_two_pow]
      have : ¬ t = x := by omega
      simp [hx, this]
    have hi : S.testBit t = true := by
      rw [bits t (by omega), ← bn_or, Nat.testBit_or, Nat.testBit_two_pow]; simp
    rcases hpt : p t with _ | _
    · exfalso
      have keep := fun u => first_keep hg hK hc s0 hf (t := t) g (by omega) (Nat.le_refl g) u
      have keep1 := fun u => first_keep hg hK hc s0 hf (t := t + 1) g (by omega) (Nat.le_refl g) u
      obtain ⟨l1, -, -⟩ := list_LI hg hK hc s0 t (by omega)
      obtain ⟨h1, h2⟩ := first_inv hg hK hc s0 hf t (by omega)
      have d1 := l1.1 0 h1
      have dg := hLF.1.1 0 hpos
      have ag : ∀ x, x < t → S.testBit x = bt ((gLs cl s0 g t).1 0) (2 * x) := fun x hx => by
        rw [lo x hx, hpx]
        rcases d1.2 x hx with q | q
        · rw [q, keep _ q]
        · have n1 : bt ((gLs cl s0 g t).1 0) (2 * x) = false := by
            rcases hh : bt ((gLs cl s0 g t).1 0) (2 * x) with _ | _
            · rfl
            · have := d1.1.1.2 (2 * x) (by omega) hh
              rw [xor1_even (by omega)] at this
              exact absurd q this
          rw [n1]
          rcases hh : bt ((gLs cl s0 g g).1 0) (2 * x) with _ | _
          · rfl
          · have := dg.1.1.2 (2 * x) (by omega) hh
            rw [xor1_even (by omega)] at this
            exact absurd (keep _ q) this
      have hsb := h2 S s2 ag
      have hle := gLs_le' cl s0 g (i := t) (by omega)
      have hm2 : (2 : Int32) * nI t = nI (2 * t) := pk_mul 2 t
      rw [hpx] at hpt
      rcases first_step hc (t := t) (by omega) (gLs cl s0 g t).1 h1 hle with ⟨q | q, -⟩ | ⟨-, -, q, -⟩ | ⟨-, -, -, r⟩
      · rw [keep _ q] at hpt; cases hpt
      · have := hsb (2 * t + 1) (by omega) q
        rw [hol_21, hi] at this; cases this
      · have := sat_fol s2 q (by rw [hol_2]; exact hi)
        rw [hol_21, hi] at this; cases this
      · have y : bt ((gLs cl s0 g (t + 1)).1 0) (2 * t) = true := by
          rw [gLs, hm2, r, b_or, (hc (2 * t) (2 * t) (by omega) (by omega)).mpr (fol_refl _ _), Bool.or_true]
        rw [keep1 _ y] at hpt; cases hpt
    · rfl
  · intro hpt
    refine ⟨sg g (gLs cl s0 g g).1 0, bn_lt _ g, (LF_sat hK hLF hpos).1, ?_⟩
    have e : bn p t + 2 ^ t = bn p (t + 1) := by rw [bn, if_pos hpt]
    rw [e]
    apply Nat.eq_of_testBit_eq
    intro i
    rw [Nat.testBit_mod_two_pow, bn_bit]
    by_cases c : i < t + 1
    · simp only [c, decide_true, Bool.true_and]
      rw [sg_bit (by omega), hpx]
    · simp [c]
theorem mSg_eq {K : Bk} {g : Nat} (hg : g ≤ 10) (hK : Kg K g) (hr : K.1 ≤ 30) {cl : Nat → Int32} (hc : gCls K cl) (s0 : Nat → Int32) (hf : gFt cl g = true) : ∀ t, t ≤ g → mSg K (-1) (-1) g t = nI (bn (fun y => bt ((gLs cl s0 g g).1 0) (2 * y)) t)
  | 0, _ => rfl
  | t + 1, ht => by
    have ih := mSg_eq hg hK hr hc s0 hf t (by omega)
    have st := seat_step hg hK hc s0 hf (t := t) (by omega)
    obtain ⟨p, hp⟩ : ∃ p : Nat → Bool, p = fun y => bt ((gLs cl s0 g g).1 0) (2 * y) := ⟨_, rfl⟩
    have hpx : ∀ x, p x = bt ((gLs cl s0 g g).1 0) (2 * x) := fun x => by rw [hp]
    rw [← hp] at ih st ⊢
    rw [← hpx t] at st
    have b1 := bn_lt p t
    have b2 : 2 ^ t ≤ 2 ^ 9 := Nat.pow_le_pow_right (by decide) (by omega)
    have b3 : 2 ^ (t + 1) = 2 * 2 ^ t := by rw [Nat.pow_succ]; omega
    have b4 := pow_le10 hg
    have b5 : 2 ^ (t + 1) ≤ 2 ^ g := Nat.pow_le_pow_right (by decide) (by omega)
    have hcond : ¬ mSW K (-1) (-1) (nI (bn p t + 2 ^ t)) (nI (t + 1)) (2 ^ g) ≤ 0 ↔ p t = true := by
      obtain ⟨P, hPd⟩ : ∃ P : Nat → Bool, P = fun i => decide ((nI i &&& (((1 : Int32) <<< (nI (t + 1) &&& 31)) - 1)) = nI (bn p t + 2 ^ t) ∧ mBB K (-1) (-1) (nI i) = -1) := ⟨_, rfl⟩
      have hle := fb_ct_le P (2 ^ g)
      rw [mSW_ct, ← hPd, ← st, show (0 : Int32) = nI 0 from rfl, nI_leI (by omega) (by decide)]
      have hS : ∀ S, S < 2 ^ g → (((nI S &&& (((1 : Int32) <<< (nI (t + 1) &&& 31)) - 1)) = nI (bn p t + 2 ^ t) ∧ mBB K (-1) (-1) (nI S) = -1) ↔ satp K S ∧ S % 2 ^ (t + 1) = bn p t + 2 ^ t) := fun S hS => by
        have e1 : nI (2 ^ (t + 1)) - 1 = nI (2 ^ (t + 1) - 1) := pk_sub (b := 1) (by omega)
        have e2 : S % 2 ^ (t + 1) ≤ S := Nat.mod_le _ _
        rw [gc_shl1 (by omega), e1, nx_and, Nat.and_two_pow_sub_one_eq_mod, nI_eq (by omega) (by omega), mBB_sat hg hK hr (by omega)]
        exact And.comm
      constructor
      · intro q
        obtain ⟨S, s1, s2⟩ := fb_ct_pos.mp (show 0 < fb_ct P (2 ^ g) by omega)
        rw [hPd] at s2
        exact ⟨S, s1, (hS S s1).mp (of_decide_eq_true s2)⟩
      · rintro ⟨S, s1, s2⟩
        have := fb_ct_pos (p := P) |>.mpr ⟨S, s1, by rw [hPd]; exact decide_eq_true ((hS S s1).mpr s2)⟩
        omega
    rw [mSg, ih, gc_shl1 (by omega), nI_or (by omega) (by omega), bn_or, nI_1, bn]
    by_cases c : p t = true
    · rw [if_pos (hcond.mpr c), if_pos c]
    · rw [if_neg (fun q => c (hcond.mp q)), if_neg c, Nat.add_zero]
theorem seat_eq {K : Bk} {g : Nat} (hg : g ≤ 10) (hK : Kg K g) (hr : K.1 ≤ 30) {cl : Nat → Int32} (hc : gCls K cl) (s0 : Nat → Int32) : gSeat (gLs cl s0 g g).1 g (gLs cl s0 g g).2 = mSe K (-1) (-1) g := by
  have hLF := LF_of hg hK hc s0
  have hle := hLF.2
  unfold gSeat mSe
  rw [← all_eq hg hK hr hLF, show (0 : Int32) = nI 0 from rfl]
  by_cases c : (gLs cl s0 g g).2 = 0
  · rw [if_pos c, if_pos (by rw [c])]
  · rw [if_neg c, if_neg (fun q => c ((nI_eq (by omega) (by decide)).mp q))]
    have hf : gFt cl g = true := (gFt_iff hc hg).mpr ((list_LI hg hK hc s0 g (Nat.le_refl g)).2.2 (by omega))
    rw [gAt_in (by decide) (by decide), gGC_bn _ g hg, mSg_eq hg hK hr hc s0 hf g (Nat.le_refl g)]
theorem gDg_congr {f f' : Nat → Int32} {d : Int64} : ∀ {n : Nat}, (∀ i, i < n → f i = f' i) → gDg f d n = gDg f' d n
  | 0, _ => rfl
  | n + 1, h => by rw [gDg, gDg, gDg_congr (fun i hi => h i (by omega)), h n (by omega)]
theorem gDD_congr {F F' : Nat → Nat → Int32} {n : Nat} {d : Int64} : ∀ {m : Nat}, (∀ i, i < m → ∀ j, j < n → F i j = F' i j) → gDD F n d m = gDD F' n d m
  | 0, _ => rfl
  | m + 1, h => by rw [gDD, gDD, gDD_congr (fun i hi => h i (by omega)), gDg_congr (fun j hj => h m (by omega) j hj)]
theorem digest_eq {K : Bk} {g r : Nat} {f1 f2 : Nat → Int32} {inf : Int32} (h : gOK K g r f1 f2 inf) (hg : g ≤ 10) (hr : r ≤ 30) (hz : ∀ j, r ≤ j → j < 32 → bt inf j = false) {cl : Nat → Int32} (hc : gCls K cl) (s0 : Nat → Int32) :
    (((gDD (gGu cl g) 4 (gDg (fun w => gAt 20 cl (nI w)) (gDD (gTo f1 f2 inf) 3 (gDg (gCo cl g r inf) 1279 6) r) (2 * g)) g * 31) + (gSeat (gLs cl s0 g g).1 g (gLs cl s0 g g).2).toInt64) * 31) + (nI (gLs cl s0 g g).2).toInt64 =
    (((gDD (mGu K (-1) (-1) g) 4 (gDg (fun w => mRe K w (2 * g)) (gDD (mTd K) 3 (gDg (mCo K g r) 1279 6) r) (2 * g)) g * 31) + (mSe K (-1) (-1) g).toInt64) * 31) + (mAll K (-1) (-1) g).toInt64 := by
  have hK := gOK_Kg h
  have hr2 : K.1 ≤ 30 := by rw [h.1]; exact hr
  rw [seat_eq hg hK hr2 hc s0, all_eq hg hK hr2 (LF_of hg hK hc s0), gDg_congr (f' := mCo K g r) (n := 6) (fun i hi => count_eq h hg hr hz hK hc hi),
    gDD_congr (F' := mTd K) (fun i hi j hj => told_eq h hr hi hj), gDg_congr (f' := fun w => mRe K w (2 * g)) (fun i hi => cl_reach hg hK hc hi), gDD_congr (F' := mGu K (-1) (-1) g) (fun i hi j hj => guest_eq hg hK hr2 hc hi hj)]
