/-! BOTH SIDES' ANSWERS ARE ONE. -/
theorem told_eq {K : Bk} {g r : Nat} {f1 f2 : Nat → Int32} {inf : Int32} (h : gOK K g r f1 f2 inf) (hr : r ≤ 30) {x w : Nat} (hx : x < r) (hw : w < 3) : gTo f1 f2 inf x w = mTd K x w := by
  obtain ⟨h1, h2, -, -, h5⟩ := h.2 x hx
  rcases (show w = 0 ∨ w = 1 ∨ w = 2 by omega) with rfl | rfl | rfl
  · show gAt 30 f1 (nI x) = _
    rw [gAt_in (by omega) (by decide), h1]; rfl
  · show gAt 30 f2 (nI x) = _
    rw [gAt_in (by omega) (by decide), h2]; rfl
  · show gB (gHas inf (nI x)) = gB (K.2.2.2 x)
    rw [gHas_bt (by omega), h5]
theorem broken_eq {K : Bk} {g r : Nat} {f1 f2 : Nat → Int32} {inf : Int32} (h : gOK K g r f1 f2 inf) (hg : g ≤ 10) (hr : r ≤ 30) {S : Nat} (hS : S < 1024) : gFst (gBr f1 f2 inf (nI S)) r = mBB K (-1) (-1) (nI S) := by
  rw [mBB_none, h.1]
  apply gFst_congr
  intro j hj
  obtain ⟨h1, h2, h3, h4, h5⟩ := h.2 j hj
  unfold gBr mP
  rw [gHas_bt (by omega), h5, gAt_in (by omega) (by decide), gAt_in (by omega) (by decide), h1, h2, gHolds_hol (by omega) hS, gHolds_hol (by omega) hS, mHo_hol (by omega) hS, mHo_hol (by omega) hS]
theorem gTi_ct {K : Bk} {g : Nat} (hg : g ≤ 10) (hK : Kg K g) {se : Nat → Int32} {c : Nat} (h : LF K g se c) {a b : Nat} (ha : a < 2 * g) (hb : b < 2 * g) : ∀ n, n ≤ c → gTi se (nI a) (nI b) n = fb_sm (fun i => if (hol a (sg g se i) && !hol b (sg g se i)) = true then 1 else 0) n
  | 0, _ => rfl
  | n + 1, hn => by
    have hc := h.2
    obtain ⟨-, k⟩ := LF_sat hK h (i := n) (by omega)
    have ka := k a ha
    have kb := k b hb
    rw [gTi, gAt_in (by omega) (by decide), gHas_bt (by omega), gHas_bt (by omega), gTi_ct hg hK h ha hb n (by omega), fb_sm_succ]
    cases h1 : bt (se n) a <;> cases h2 : bt (se n) b <;> cases h3 : hol a (sg g se n) <;> cases h4 : hol b (sg g se n) <;> simp_all
theorem ct_parts (p q : Nat → Bool) : ∀ n, fb_ct p n = fb_ct (fun k => p k && !q k) n + fb_ct (fun k => p k && q k) n
  | 0 => rfl
  | n + 1 => by
    have := ct_parts p q n
    rw [fb_ct_succ, fb_ct_succ, fb_ct_succ, this]
    cases p n <;> cases q n <;> simp <;> omega
theorem tight_eq {K : Bk} {g : Nat} (hg : g ≤ 10) (hK : Kg K g) (hr : K.1 ≤ 30) {se : Nat → Int32} {c : Nat} (h : LF K g se c) {a b : Nat} (ha : a < 2 * g) (hb : b < 2 * g) : nI (gTi se (nI a) (nI b) c) = mAll K (-1) (-1) g - mAll K (nI a) (nI b) g := by
  rw [mAll_ct hg hK hr, mAll_two hg hK hr (by omega) (by omega), gTi_ct hg hK h ha hb c (Nat.le_refl c), LF_sum hK h (fun S => if (hol a S && !hol b S) = true then 1 else 0)]
  have e1 := ct_parts (sb K) (fun S => hol a S && !hol b S) (2 ^ g)
  have e2 : fb_sm (fun S => if sb K S = true then (if (hol a S && !hol b S) = true then 1 else 0) else 0) (2 ^ g) = fb_ct (fun k => sb K k && (hol a k && !hol b k)) (2 ^ g) := by
    rw [← fb_sm_ct]
    apply fb_sm_cong
    intro k _
    cases sb K k <;> simp
  rw [e2, pk_sub (by omega)]
  congr 1
  omega
theorem fits_eq {K : Bk} {g : Nat} (hg : g ≤ 10) (hK : Kg K g) (hr : K.1 ≤ 30) {cl : Nat → Int32} (hc : gCls K cl) : gFt cl g = mPo (mAll K (-1) (-1) g) := by
  have h2 := pow_le10 hg
  have h3 := fb_ct_le (sb K) (2 ^ g)
  have e : mPo (mAll K (-1) (-1) g) = true ↔ gFt cl g = true := by
    rw [gFt_iff hc hg, fits_iff hK, mAll_ct hg hK hr]
    unfold mPo
    rw [decide_eq_true_iff, show (0 : Int32) = nI 0 from rfl, nI_leI (by omega) (by decide)]
    constructor
    · intro q
      obtain ⟨S, s1, s2⟩ := fb_ct_pos.mp (show 0 < fb_ct (sb K) (2 ^ g) by omega)
      exact ⟨S, s1, sb_iff.mp s2⟩
    · rintro ⟨S, s1, s2⟩
      have := fb_ct_pos.mpr ⟨S, s1, sb_iff.mpr s2⟩
      omega
  cases h : gFt cl g
  · cases h' : mPo (mAll K (-1) (-1) g)
    · rfl
    · rw [e.mp h'] at h; cases h
  · exact (e.mpr h).symm
theorem gmA_iff {p : Nat → Bool} : ∀ {n : Nat}, gmA p n = true ↔ ∀ i, i < n → p i = true
  | 0 => ⟨fun _ i hi => absurd hi (Nat.not_lt_zero i), fun _ => rfl⟩
  | n + 1 => by
    rw [gmA, Bool.and_eq_true, gmA_iff (n := n)]
    exact ⟨fun ⟨h1, h2⟩ i hi => (Nat.lt_or_ge i n).elim (h1 i) (fun q => by rw [show i = n by omega]; exact h2), fun h => ⟨fun i hi => h i (by omega), h n (by omega)⟩⟩
theorem forced_eq {K : Bk} {g : Nat} (hg : g ≤ 10) (hK : Kg K g) (hr : K.1 ≤ 30) {cl : Nat → Int32} (hc : gCls K cl) {u : Nat} (hu : u < 2 * g) : (gFt cl g && gVain 20 cl (nI (u ^^^ 1))) = mFo K (-1) (-1) (nI u) g := by
  have h2 := pow_le10 hg
  have hu1 := xor1_lt hu
  unfold mFo
  rw [← fits_eq hg hK hr hc, cl_vain hc (by omega), xor1_xor1]
  cases hf : gFt cl g
  · rfl
  · rw [Bool.true_and, Bool.true_and]
    have hT := (gFt_iff hc hg).mp hf
    have e : gmA (mFp K (-1) (-1) (nI u)) (2 ^ g) = true ↔ fo K (u ^^^ 1) u = true := by
      rw [gmA_iff, fo_iff]
      have hp : ∀ S, S < 2 ^ g → (mFp K (-1) (-1) (nI u) S = true ↔ (satp K S → hol u S = true)) := fun S hS => by
        unfold mFp
        rw [mHo_hol (by omega) (by omega), Bool.or_eq_true, decide_eq_true_iff, mBB_sat hg hK hr (by omega)]
        exact ⟨fun q s => q.elim (fun n => absurd s n) id, fun q => (Classical.em (satp K S)).elim (fun s => Or.inr (q s)) Or.inl⟩
      constructor
      · intro h
        apply Classical.byContradiction
        intro hn
        obtain ⟨S, s1, s2, s3⟩ := ext_sat hK hT (CC_add (K := K) (g := g) (E := fun _ => False) ⟨fun _ _ _ h _ => h, fun _ _ h => h.elim⟩ (c := u ^^^ 1) hu1 (fun h => h) (by rw [xor1_xor1]; exact hn))
        have q1 := s3 (u ^^^ 1) hu1 (Or.inr (fol_refl _ _))
        rw [hol_xor] at q1
        have q2 := (hp S s1).mp (h S s1) s2
        rw [q2] at q1; cases q1
      · intro h S hS
        refine (hp S hS).mpr (fun s => ?_)
        cases hh : hol u S
        · have q1 : hol (u ^^^ 1) S = true := by rw [hol_xor, hh]; rfl
          rw [sat_fol s h q1] at hh; cases hh
        · rfl
    cases h : fo K (u ^^^ 1) u
    · cases h' : gmA (mFp K (-1) (-1) (nI u)) (2 ^ g)
      · rfl
      · rw [e.mp h'] at h; cases h
    · exact (e.mpr h).symm
theorem gGB_bt {K : Bk} {cl : Nat → Int32} (hc : gCls K cl) {a : Nat} (ha : a < 20) {y : Nat} (hy : y < 32) : ∀ i, i ≤ 20 → (bt (gGB cl (nI a) i) y = true ↔ ∃ o, o < i ∧ o / 2 = y ∧ fo K a o = true ∧ fo K o a = true)
  | 0, _ => by
    rw [gGB, b_0]
    exact ⟨fun h => absurd h (by decide), fun ⟨o, ho, _⟩ => absurd ho (Nat.not_lt_zero o)⟩
  | i + 1, hi => by
    have ih := gGB_bt hc ha hy i (by omega)
    have e0 : nI i >>> ((1 : Int32) &&& 31) = nI (i / 2) := pk_shrN (by omega) _ 1 (by decide)
    rw [gGB, cl_has hc ha (by omega), cl_has hc (by omega) (by omega), e0]
    by_cases c : fo K a i = true ∧ fo K i a = true
    · rw [if_pos c, b_or, Bool.or_eq_true, ih, bt_one (by omega) hy, decide_eq_true_iff]
      constructor
      · rintro (⟨o, ho, q⟩ | q)
        · exact ⟨o, by omega, q⟩
        · exact ⟨i, by omega, q.symm, c⟩
      · rintro ⟨o, ho, q1, q2⟩
        rcases Nat.lt_or_ge o i with d | d
        · exact Or.inl ⟨o, d, q1, q2⟩
        · rw [show o = i by omega] at q1; exact Or.inr q1.symm
    · rw [if_neg c, ih]
      constructor
      · rintro ⟨o, ho, q⟩; exact ⟨o, by omega, q⟩
      · rintro ⟨o, ho, q1, q2⟩
        rcases Nat.lt_or_ge o i with d | d
        · exact ⟨o, d, q1, q2⟩
        · rw [show o = i by omega] at q2; exact absurd q2 c
theorem mGs_ct (K : Bk) (x : Nat) : ∀ n, mGs K x n = nI (fb_ct (fun y => mGo K x y 4) n)
  | 0 => rfl
  | n + 1 => by rw [mGs, mGs_ct K x n, gB_nI, nI_add, fb_ct_succ]
theorem fo_turn {K : Bk} {u v : Nat} : fo K (u ^^^ 1) (v ^^^ 1) = fo K v u := by
  rcases h : fo K v u with _ | _
  · rcases h' : fo K (u ^^^ 1) (v ^^^ 1) with _ | _
    · rfl
    · have := fol_turn (fo_iff.mp h')
      rw [xor1_xor1, xor1_xor1] at this
      rw [fo_iff.mpr this] at h; cases h
  · exact fo_iff.mpr (fol_turn (fo_iff.mp h))
theorem mGo_eq (K : Bk) (x y : Nat) : mGo K x y 4 = ((fo K (2 * x) (2 * y) && fo K (2 * y) (2 * x)) || (fo K (2 * x) (2 * y + 1) && fo K (2 * y + 1) (2 * x))) := by
  have t1 := fo_turn (K := K) (u := 2 * x) (v := 2 * y)
  have t2 := fo_turn (K := K) (u := 2 * y) (v := 2 * x)
  have t3 := fo_turn (K := K) (u := 2 * x) (v := 2 * y + 1)
  have t4 := fo_turn (K := K) (u := 2 * y + 1) (v := 2 * x)
  rw [xor1_even (x := 2 * x) (by omega), xor1_even (x := 2 * y) (by omega)] at t1 t2
  rw [xor1_even (x := 2 * x) (by omega), xor1_odd (x := 2 * y + 1) (by omega), show 2 * y + 1 - 1 = 2 * y by omega] at t3 t4
  simp only [mGo, Bool.false_or, show 0 / 2 = 0 from rfl, show 0 % 2 = 0 from rfl, show 1 / 2 = 0 from rfl, show 1 % 2 = 1 from rfl, show 2 / 2 = 1 from rfl, show 2 % 2 = 0 from rfl, show 3 / 2 = 1 from rfl, show 3 % 2 = 1 from rfl, Nat.add_zero]
  rw [t1, t2, t3, t4]
  cases fo K (2 * x) (2 * y) <;> cases fo K (2 * y) (2 * x) <;> cases fo K (2 * x) (2 * y + 1) <;> cases fo K (2 * y + 1) (2 * x) <;> rfl
theorem bound_eq {K : Bk} {g : Nat} (hg : g ≤ 10) {cl : Nat → Int32} (hc : gCls K cl) {x : Nat} (hx : x < g) : gBC (gGB cl (nI (2 * x)) (2 * g)) = mGs K x g := by
  rw [gBC_eq, mGs_ct]
  congr 1
  rw [show (32 : Nat) = g + (32 - g) by omega, fb_ct_split]
  have e1 : fb_ct (fun i => bt (gGB cl (nI (2 * x)) (2 * g)) i) g = fb_ct (fun y => mGo K x y 4) g := fb_ct_cong (fun y hy => by
    have := gGB_bt hc (a := 2 * x) (by omega) (y := y) (by omega) (2 * g) (by omega)
    rw [mGo_eq]
    have e : (∃ o, o < 2 * g ∧ o / 2 = y ∧ fo K (2 * x) o = true ∧ fo K o (2 * x) = true) ↔ ((fo K (2 * x) (2 * y) && fo K (2 * y) (2 * x)) || (fo K (2 * x) (2 * y + 1) && fo K (2 * y + 1) (2 * x))) = true := by
      rw [Bool.or_eq_true, Bool.and_eq_true, Bool.and_eq_true]
      constructor
      · rintro ⟨o, h1, h2, h3⟩
        rcases (show o = 2 * y ∨ o = 2 * y + 1 by omega) with q | q
        · rw [q] at h3; exact Or.inl h3
        · rw [q] at h3; exact Or.inr h3
      · rintro (h | h)
        · exact ⟨2 * y, by omega, by omega, h⟩
        · exact ⟨2 * y + 1, by omega, by omega, h⟩
    rw [e] at this
    cases h1 : bt (gGB cl (nI (2 * x)) (2 * g)) y
    · cases h2 : ((fo K (2 * x) (2 * y) && fo K (2 * y) (2 * x)) || (fo K (2 * x) (2 * y + 1) && fo K (2 * y + 1) (2 * x)))
      · rfl
      · rw [this.mpr h2] at h1; cases h1
    · exact (this.mp h1).symm)
  have e2 : fb_ct (fun k => bt (gGB cl (nI (2 * x)) (2 * g)) (g + k)) (32 - g) = 0 := fb_ct_zero.mpr (fun k hk => by
    rcases h : bt (gGB cl (nI (2 * x)) (2 * g)) (g + k) with _ | _
    · rfl
    · obtain ⟨o, h1, h2, -⟩ := (gGB_bt hc (a := 2 * x) (by omega) (y := g + k) (by omega) (2 * g) (by omega)).mp h
      omega)
  rw [e1, e2, Nat.add_zero]
theorem guest_eq {K : Bk} {g : Nat} (hg : g ≤ 10) (hK : Kg K g) (hr : K.1 ≤ 30) {cl : Nat → Int32} (hc : gCls K cl) {x w : Nat} (hx : x < g) (hw : w < 4) : gGu cl g x w = mGu K (-1) (-1) g x w := by
  unfold mGu
  rcases (show w = 0 ∨ w = 1 ∨ w = 2 ∨ w = 3 by omega) with rfl | rfl | rfl | rfl
  · rw [if_pos (by decide), ← forced_eq hg hK hr hc (u := 2 * x + 0) (by omega), Nat.add_zero, ← nI_xor1]; rfl
  · rw [if_pos (by decide), ← forced_eq hg hK hr hc (u := 2 * x + 1) (by omega), xor1_odd (by omega), show 2 * x + 1 - 1 = 2 * x by omega]; rfl
  · rw [if_neg (by decide), if_pos rfl, ← cl_torn hc (by omega)]; rfl
  · rw [if_neg (by decide), if_neg (by decide), ← bound_eq hg hc hx]; rfl
theorem mCi_ct (K : Bk) : ∀ n, mCi K n = nI (fb_ct K.2.2.2 n)
  | 0 => rfl
  | n + 1 => by rw [mCi, mCi_ct K n, gB_nI, nI_add, fb_ct_succ]
theorem force_eq {K : Bk} {g r : Nat} {f1 f2 : Nat → Int32} {inf : Int32} (h : gOK K g r f1 f2 inf) (hr : r ≤ 30) (hz : ∀ j, r ≤ j → j < 32 → bt inf j = false) : gBC inf = mCi K r := by
  rw [gBC_eq, mCi_ct]
  congr 1
  rw [show (32 : Nat) = r + (32 - r) by omega, fb_ct_split]
  have e1 : fb_ct (fun i => bt inf i) r = fb_ct K.2.2.2 r := fb_ct_cong (fun k hk => (h.2 k hk).2.2.2.2)
  have e2 : fb_ct (fun k => bt inf (r + k)) (32 - r) = 0 := fb_ct_zero.mpr (fun k hk => hz _ (by omega) (by omega))
  rw [e1, e2, Nat.add_zero]
theorem Kg_20 {K : Bk} {g : Nat} (hg : g ≤ 10) (hK : Kg K g) : Bk20 K := fun j hj => by have := hK j hj; omega
theorem count_eq {K : Bk} {g r : Nat} {f1 f2 : Nat → Int32} {inf : Int32} (h : gOK K g r f1 f2 inf) (hg : g ≤ 10) (hr : r ≤ 30) (hz : ∀ j, r ≤ j → j < 32 → bt inf j = false) (hK : Kg K g) {cl : Nat → Int32} (hc : gCls K cl) {w : Nat} (hw : w < 6) : gCo cl g r inf w = mCo K g r w := by
  rcases (show w = 0 ∨ w = 1 ∨ w = 2 ∨ w = 3 ∨ w = 4 ∨ w = 5 by omega) with rfl | rfl | rfl | rfl | rfl | rfl
  · rfl
  · rfl
  · exact force_eq h hr hz
  · exact cl_CT hc g hg
  · exact cl_CV hc (2 * g) (by omega)
  · exact cl_CP (Kg_20 hg hK) hc (2 * g) (by omega)
theorem gOK_Kg {K : Bk} {g r : Nat} {f1 f2 : Nat → Int32} {inf : Int32} (h : gOK K g r f1 f2 inf) : Kg K g := fun j hj => by
  obtain ⟨-, -, h3, h4, -⟩ := h.2 j (by rw [← h.1]; exact hj)
  exact ⟨h3, h4⟩
/-! ===== without one rule ===== -/
noncomputable def ft (K : Bk) (g : Nat) : Bool := decide (mCt K g = 0)
noncomputable def gBp (K : Bk) (g j : Nat) : Bool := K.2.2.2 j && ft (kL K (nI j)) g
theorem gFt_ft {K : Bk} {cl : Nat → Int32} (h : gCls K cl) {g : Nat} (hg : g ≤ 10) : gFt cl g = ft K g := by
  unfold gFt ft
  rw [cl_CT h g hg]
theorem ft_iff {K : Bk} {g : Nat} (hg : g ≤ 10) : ft K g = true ↔ ∀ x, x < g → ¬ tornP K x := by
  unfold ft
  rw [decide_eq_true_iff, mCt_0 hg]
theorem bool_eq {a b : Bool} (h : a = true ↔ b = true) : a = b := by
  cases a <;> cases b
  · rfl
  · exact absurd (h.mpr rfl) (by decide)
  · exact absurd (h.mp rfl) (by decide)
  · rfl
theorem ft_congr {K L : Bk} {g : Nat} (hg : g ≤ 10) (h : ∀ u v, ed K u v ↔ ed L u v) : ft K g = ft L g := by
  apply bool_eq
  rw [ft_iff hg, ft_iff hg]
  unfold tornP
  simp only [fol_congr h]
theorem ft_mAll {K : Bk} {g : Nat} (hg : g ≤ 10) (hK : Kg K g) (hr : K.1 ≤ 30) : ft K g = mPo (mAll K (-1) (-1) g) := by
  have h2 := pow_le10 hg
  have h3 := fb_ct_le (sb K) (2 ^ g)
  apply bool_eq
  rw [ft_iff hg, fits_iff hK, mAll_ct hg hK hr]
  unfold mPo
  rw [decide_eq_true_iff, show (0 : Int32) = nI 0 from rfl, nI_leI (by omega) (by decide)]
  constructor
  · rintro ⟨S, s1, s2⟩
    have := fb_ct_pos.mpr ⟨S, s1, sb_iff.mpr s2⟩
    omega
  · intro q
    obtain ⟨S, s1, s2⟩ := fb_ct_pos.mp (show 0 < fb_ct (sb K) (2 ^ g) by omega)
    exact ⟨S, s1, sb_iff.mp s2⟩
theorem blame_eq {K : Bk} {g : Nat} (hg : g ≤ 10) (hK : Kg K g) (hr : K.1 ≤ 30) {cl : Nat → Int32} (hc : gCls K cl) : (if gFt cl g = true then -1 else gFst (gBp K g) K.1) = mBl K (-1) (-1) g K.1 := by
  unfold mBl
  rw [fits_eq hg hK hr hc]
  congr 1
  apply gFst_congr
  intro j hj
  unfold gBp mBp
  rw [ft_congr hg (kL_one hr (x := j) (by omega)), ft_mAll (K := mKo K j) hg hK hr]
/-! ===== the seating that is told ===== -/
theorem gPut_0 {n j : Nat} (hj : 0 < j) (hn : j < 2 ^ 31) (f : Nat → Int32) (v : Int32) : gPut n f (nI j) v 0 = f 0 := by
  unfold gPut
  rw [if_neg (nI_pos hn)]
  split
  · rfl
  · rw [nI_clamp hn]
    have : ¬ 0 = j := by omega
    simp [upd, this]
theorem gSt_ge (cl : Nat → Int32) (co : Int32) (se : Nat → Int32) (c : Nat) : ∀ i, c ≤ (gSt cl co se c i).2
  | 0 => Nat.le_refl _
  | i + 1 => by
    have h := gSt_ge cl co se c i
    simp only [gSt]
    split
    · exact h
    · split
      · exact h
      · split
        · exact h
        · show c ≤ (gSt cl co se c i).2 + 1; omega
theorem gSt_first (cl : Nat → Int32) (co : Int32) (se : Nat → Int32) {c : Nat} (hc0 : 0 < c) (hc : c ≤ 1024) : ∀ i, 1 ≤ i → i ≤ c → (gSt cl co se c i).1 0 = (gSt cl co se c 1).1 0
  | 0, h, _ => absurd h (by omega)
  | i + 1, _, hi => by
    rcases Nat.eq_zero_or_pos i with e | e
    · rw [e]
    · have ih := gSt_first cl co se hc0 hc i e (by omega)
      have h1 := gSt_ge cl co se c i
      have h2 := gSt_le cl co se c i
      rw [gSt]
      split
      · exact ih
      · split
        · show gPut _ _ _ _ 0 = _; rw [gPut_0 e (by omega)]; exact ih
        · split
          · show gPut _ _ _ _ 0 = _; rw [gPut_0 e (by omega)]; exact ih
          · show gPut _ (gPut _ _ _ _) _ _ 0 = _; rw [gPut_0 (by omega) (by omega), gPut_0 e (by omega)]; exact ih
/-- entry 0 when a guest is settled -/
theorem first_step {K : Bk} {cl : Nat → Int32} (hc : gCls K cl) {t : Nat} (ht : t < 10) (se : Nat → Int32) {c : Nat} (hc0 : 0 < c) (hc1 : c ≤ 1024) :
    ((bt (se 0) (2 * t) = true ∨ bt (se 0) (2 * t + 1) = true) ∧ (gSt cl (nI (2 * t)) se c c).1 0 = se 0) ∨
    (bt (se 0) (2 * t) = false ∧ bt (se 0) (2 * t + 1) = false ∧ fol K (2 * t) (2 * t + 1) ∧ (gSt cl (nI (2 * t)) se c c).1 0 = se 0 ||| cl (2 * t + 1)) ∨
    (bt (se 0) (2 * t) = false ∧ bt (se 0) (2 * t + 1) = false ∧ ¬ fol K (2 * t) (2 * t + 1) ∧ (gSt cl (nI (2 * t)) se c c).1 0 = se 0 ||| cl (2 * t)) := by
  have e1 : (2 * t) ^^^ 1 = 2 * t + 1 := xor1_even (by omega)
  have w1 : gVain 20 cl (nI (2 * t)) = true ↔ fol K (2 * t) (2 * t + 1) := by rw [cl_vain hc (by omega), e1, fo_iff]
  rw [gSt_first cl _ se hc0 hc1 c (by omega) (Nat.le_refl c)]
  have z : gSt cl (nI (2 * t)) se c 0 = (se, c) := rfl
  have u0 : ∀ v, gPut 1024 se (nI 0) v 0 = v := fun v => by rw [gPut_in (by decide) (by decide)]; simp [upd]
  rw [gSt, z, gAt_in (by decide) (by decide), nI_xor1, e1, gHas_bt (by omega), gHas_bt (by omega), gAt_in (by omega) (by decide), gAt_in (by omega) (by decide)]
  show (_ ∧ _ = se 0) ∨ _
  by_cases c1 : bt (se 0) (2 * t) = true ∨ bt (se 0) (2 * t + 1) = true
  · rw [if_pos c1]; exact Or.inl ⟨c1, rfl⟩
  · have n1 : bt (se 0) (2 * t) = false := by
      rcases hh : bt (se 0) (2 * t) with _ | _
      · rfl
      · exact absurd (Or.inl hh) c1
    have n2 : bt (se 0) (2 * t + 1) = false := by
      rcases hh : bt (se 0) (2 * t + 1) with _ | _
      · rfl
      · exact absurd (Or.inr hh) c1
    rw [if_neg c1]
    right
    by_cases c2 : gVain 20 cl (nI (2 * t)) = true
    · rw [if_pos c2]
      exact Or.inl ⟨n1, n2, w1.mp c2, u0 _⟩
    · rw [if_neg c2]
      refine Or.inr ⟨n1, n2, fun q => c2 (w1.mpr q), ?_⟩
      split
      · exact u0 _
      · show gPut 1024 (gPut 1024 se (nI 0) _) (nI c) _ 0 = _
        rw [gPut_0 hc0 (by omega)]; exact u0 _
/-- what entry 0 is at each guest: its own choices make all of it -/
theorem first_inv {K : Bk} {g : Nat} (hg : g ≤ 10) (hK : Kg K g) {cl : Nat → Int32} (hc : gCls K cl) (se : Nat → Int32) (hf : gFt cl g = true) : ∀ t, t ≤ g → 0 < (gLs cl se g t).2 ∧
    ∀ S, satp K S → (∀ x, x < t → S.testBit x = bt ((gLs cl se g t).1 0) (2 * x)) → SB g ((gLs cl se g t).1 0) S
  | 0, _ => by
    rw [gLs, gF0, if_pos hf]
    refine ⟨Nat.zero_lt_one, fun S _ _ u hu q => ?_⟩
    have e : gPut 1024 se 0 0 = upd se 0 0 := gPut_in (j := 0) (by decide) (by decide) se 0
    rw [e] at q
    simp [upd, b_0] at q
  | t + 1, ht => by
    obtain ⟨h1, h2⟩ := first_inv hg hK hc se hf t (by omega)
    obtain ⟨l1, l2, l3⟩ := list_LI hg hK hc se t (by omega)
    obtain ⟨m1, -, -⟩ := list_LI hg hK hc se (t + 1) ht
    have hle := gLs_le' cl se g (i := t) (by omega)
    have hge := gSt_ge cl (nI (2 * t)) (gLs cl se g t).1 (gLs cl se g t).2 (gLs cl se g t).2
    have hm2 : (2 : Int32) * nI t = nI (2 * t) := pk_mul 2 t
    rw [gLs, hm2] at m1 ⊢
    refine ⟨by omega, fun S hS hag => ?_⟩
    have d1 := l1.1 0 h1
    have d2 := m1.1 0 (by omega)
    have st := first_step hc (t := t) (by omega) (gLs cl se g t).1 h1 hle
    obtain ⟨e, he⟩ : ∃ z, z = (gLs cl se g t).1 0 := ⟨_, rfl⟩
    obtain ⟨e', he'⟩ : ∃ z, z = (gSt cl (nI (2 * t)) (gLs cl se g t).1 (gLs cl se g t).2 (gLs cl se g t).2).1 0 := ⟨_, rfl⟩
    rw [← he] at d1 h2 st
    rw [← he'] at d2 hag st ⊢
    have sub : ∀ u, bt e u = true → bt e' u = true := fun u q => by
      rcases st with ⟨-, r⟩ | ⟨-, -, -, r⟩ | ⟨-, -, -, r⟩
      · rw [r]; exact q
      · rw [r, b_or, q]; rfl
      · rw [r, b_or, q]; rfl
    have old : ∀ x, x < t → S.testBit x = bt e (2 * x) := fun x hx => by
      rw [hag x (by omega)]
      rcases d1.2 x hx with q | q
      · rw [q, sub _ q]
      · have n1 : bt e (2 * x) = false := by
          rcases hh : bt e (2 * x) with _ | _
          · rfl
          · have := d1.1.1.2 (2 * x) (by omega) hh
            rw [xor1_even (by omega)] at this
            exact absurd q this
        rw [n1]
        rcases hh : bt e' (2 * x) with _ | _
        · rfl
        · have := d2.1.1.2 (2 * x) (by omega) hh
          rw [xor1_even (by omega)] at this
          exact absurd (sub _ q) this
    have s0 := h2 S hS old
    rcases st with ⟨-, r⟩ | ⟨n1, n2, n3, r⟩ | ⟨n1, n2, n3, r⟩
    · rw [r]; exact s0
    · rw [r]
      refine (SB_or hg hc (by omega) hS).mpr ⟨s0, ?_⟩
      have y : bt e' (2 * t + 1) = true := by rw [r, b_or, (hc (2 * t + 1) (2 * t + 1) (by omega) (by omega)).mpr (fol_refl _ _), Bool.or_true]
      have n : bt e' (2 * t) = false := by
        rcases hh : bt e' (2 * t) with _ | _
        · rfl
        · have := d2.1.1.2 (2 * t) (by omega) hh
          rw [xor1_even (by omega)] at this
          exact absurd y this
      rw [hol_21, hag t (by omega), n]; rfl
    · rw [r]
      refine (SB_or hg hc (by omega) hS).mpr ⟨s0, ?_⟩
      have y : bt e' (2 * t) = true := by rw [r, b_or, (hc (2 * t) (2 * t) (by omega) (by omega)).mpr (fol_refl _ _), Bool.or_true]
      rw [hol_2, hag t (by omega), y]
/-- entry 0 only grows, and keeps what it decided -/
theorem first_keep {K : Bk} {g : Nat} (hg : g ≤ 10) (hK : Kg K g) {cl : Nat → Int32} (hc : gCls K cl) (se : Nat → Int32) (hf : gFt cl g = true) {t : Nat} : ∀ t', t ≤ t' → t' ≤ g → ∀ u, bt ((gLs cl se g t).1 0) u = true → bt ((gLs cl se g t').1 0) u = true
  | 0, h, _ => fun u q => by rw [show t = 0 by omega] at q; exact q
  | t' + 1, h, h2 => fun u q => by
    rcases Nat.lt_or_ge t' t with c | c
    · rw [show t = t' + 1 by omega] at q; exact q
    · have ih := first_keep hg hK hc se hf t' c (by omega) u q
      have h1 := (first_inv hg hK hc se hf t' (by omega)).1
      have hle := gLs_le' cl se g (i := t') (by omega)
      have hm2 : (2 : Int32) * nI t' = nI (2 * t') := pk_mul 2 t'
      rw [gLs, hm2]
      rcases first_step hc (t := t') (by omega) (gLs cl se g t').1 h1 hle with ⟨-, r⟩ | ⟨-, -, -, r⟩ | ⟨-, -, -, r⟩
      · rw [r]; exact ih
      · rw [r, b_or, ih]; rfl
      · rw [r, b_or, ih]; rfl
