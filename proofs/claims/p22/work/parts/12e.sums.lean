/-! SUMS OVER THE LIST ARE SUMS OVER ALL SETS. -/
theorem gFst_iff {p : Nat → Bool} {n : Nat} (hn : n < 2 ^ 31) : gFst p n = -1 ↔ ∀ j, j < n → p j = false := by
  constructor
  · intro h j hj
    rcases hh : p j with _ | _
    · rfl
    · obtain ⟨k, k1, k2, k3⟩ := fb_first (p := fun j => p j = true) ⟨j, hj, hh⟩
      have := gFst_hit (p := p) (i := k) (by omega) k2 (fun i hi => by
        have := k3 i hi
        cases hc : p i <;> simp_all) k1
      rw [this] at h
      exact absurd h (nI_nm1 (by omega))
  · exact gFst_no
theorem gFst_congr {p q : Nat → Bool} : ∀ {n : Nat}, (∀ j, j < n → p j = q j) → gFst p n = gFst q n
  | 0, _ => rfl
  | n + 1, h => by rw [gFst, gFst, gFst_congr (fun j hj => h j (by omega)), h n (by omega)]
theorem mP_eq {K : Bk} {g : Nat} (hg : g ≤ 10) (hK : Kg K g) {S : Nat} (hS : S < 1024) {j : Nat} (hj : j < K.1) : mP K (nI S) j = (K.2.2.2 j && hol (K.2.1 j) S && !hol (K.2.2.1 j) S) := by
  obtain ⟨k1, k2⟩ := hK j hj
  unfold mP
  rw [mHo_hol (by omega) hS, mHo_hol (by omega) hS]
theorem sat_iff {K : Bk} {g : Nat} (hg : g ≤ 10) (hK : Kg K g) (hr : K.1 ≤ 30) {S : Nat} (hS : S < 1024) : gFst (mP K (nI S)) K.1 = -1 ↔ satp K S := by
  rw [gFst_iff (by omega)]
  constructor
  · intro h j hj ho hA
    have := h j hj
    rw [mP_eq hg hK hS hj, ho, hA] at this
    simpa using this
  · intro h j hj
    rw [mP_eq hg hK hS hj]
    cases ho : K.2.2.2 j
    · rfl
    · cases hA : hol (K.2.1 j) S
      · rfl
      · rw [h j hj ho hA]; rfl
theorem mBB_none (K : Bk) (v : Int32) : mBB K (-1) (-1) v = gFst (mP K v) K.1 := by
  unfold mBB
  rw [if_neg (c := ¬ (-1 : Int32) = -1 ∧ mHo (-1) v = true ∧ mHo (-1) v = false) (fun h => h.1 rfl)]
  split
  · rename_i h; exact h.symm
  · rfl
theorem mBB_sat {K : Bk} {g : Nat} (hg : g ≤ 10) (hK : Kg K g) (hr : K.1 ≤ 30) {S : Nat} (hS : S < 1024) : mBB K (-1) (-1) (nI S) = -1 ↔ satp K S := by
  rw [mBB_none, sat_iff hg hK hr hS]
theorem mBB_two {K : Bk} {g : Nat} (hg : g ≤ 10) (hK : Kg K g) (hr : K.1 ≤ 30) {S : Nat} (hS : S < 1024) {a b : Nat} (ha : a < 20) (hb : b < 20) : mBB K (nI a) (nI b) (nI S) = -1 ↔ satp K S ∧ ¬ (hol a S = true ∧ hol b S = false) := by
  unfold mBB
  rw [mHo_hol ha hS, mHo_hol hb hS]
  by_cases c : gFst (mP K (nI S)) K.1 = -1
  · rw [if_pos c]
    have c1 := (sat_iff hg hK hr hS).mp c
    by_cases d : hol a S = true ∧ hol b S = false
    · rw [if_pos ⟨nI_nm1 (by omega), d⟩]
      exact ⟨fun h => absurd h (by decide), fun h => absurd d h.2⟩
    · rw [if_neg (fun h => d h.2)]
      exact ⟨fun _ => ⟨c1, d⟩, fun _ => rfl⟩
  · rw [if_neg c]
    exact ⟨fun h => absurd h c, fun h => absurd ((sat_iff hg hK hr hS).mpr h.1) c⟩
noncomputable def sb (K : Bk) (S : Nat) : Bool := @decide (satp K S) (Classical.propDecidable _)
theorem sb_iff {K : Bk} {S : Nat} : sb K S = true ↔ satp K S := by unfold sb; exact @decide_eq_true_iff _ (Classical.propDecidable _)
theorem mSW_ct (K : Bk) (x1 x2 v fi : Int32) : ∀ n, mSW K x1 x2 v fi n = nI (fb_ct (fun i => decide ((nI i &&& (((1 : Int32) <<< (fi &&& 31)) - 1)) = v ∧ mBB K x1 x2 (nI i) = -1)) n)
  | 0 => rfl
  | n + 1 => by
    rw [mSW, mSW_ct K x1 x2 v fi n, fb_ct_succ, ← nI_add]
    congr 1
    simp only [decide_eq_true_iff]
    split <;> rfl
theorem pow_le10 {g : Nat} (hg : g ≤ 10) : 2 ^ g ≤ 1024 := Nat.pow_le_pow_right (n := 2) (by decide) hg
theorem mAll_ct {K : Bk} {g : Nat} (hg : g ≤ 10) (hK : Kg K g) (hr : K.1 ≤ 30) : mAll K (-1) (-1) g = nI (fb_ct (sb K) (2 ^ g)) := by
  have h2 := pow_le10 hg
  unfold mAll
  rw [mSW_ct]
  congr 1
  apply fb_ct_cong
  intro S hS
  have e : (nI S &&& (((1 : Int32) <<< ((0 : Int32) &&& 31)) - 1)) = 0 := by
    rw [show (((1 : Int32) <<< ((0 : Int32) &&& 31)) - 1) = nI 0 from by decide, nx_and, Nat.and_zero]; rfl
  have h := mBB_sat hg hK hr (S := S) (by omega)
  rcases hh : sb K S with _ | _
  · have : ¬ satp K S := fun q => by rw [sb_iff.mpr q] at hh; cases hh
    simp [h, this]
  · simp [e, h, sb_iff.mp hh]
theorem dec_b {p : Prop} [Decidable p] {b : Bool} (h : p ↔ b = true) : decide p = b := by
  cases b
  · exact decide_eq_false (fun q => absurd (h.mp q) (by decide))
  · exact decide_eq_true (h.mpr rfl)
theorem mAll_two {K : Bk} {g : Nat} (hg : g ≤ 10) (hK : Kg K g) (hr : K.1 ≤ 30) {a b : Nat} (ha : a < 20) (hb : b < 20) : mAll K (nI a) (nI b) g = nI (fb_ct (fun S => sb K S && !(hol a S && !hol b S)) (2 ^ g)) := by
  have h2 := pow_le10 hg
  unfold mAll
  rw [mSW_ct]
  congr 1
  apply fb_ct_cong
  intro S hS
  have e : (nI S &&& (((1 : Int32) <<< ((0 : Int32) &&& 31)) - 1)) = 0 := by
    rw [show (((1 : Int32) <<< ((0 : Int32) &&& 31)) - 1) = nI 0 from by decide, nx_and, Nat.and_zero]; rfl
  have h := mBB_two hg hK hr (S := S) (by omega) ha hb
  show decide ((nI S &&& (((1 : Int32) <<< ((0 : Int32) &&& 31)) - 1)) = 0 ∧ mBB K (nI a) (nI b) (nI S) = -1) = (sb K S && !(hol a S && !hol b S))
  have e2 : ((nI S &&& (((1 : Int32) <<< ((0 : Int32) &&& 31)) - 1)) = 0 ∧ mBB K (nI a) (nI b) (nI S) = -1) ↔ satp K S ∧ ¬ (hol a S = true ∧ hol b S = false) := ⟨fun q => h.mp q.2, fun q => ⟨e, h.mpr q⟩⟩
  refine dec_b (e2.trans ?_)
  rw [Bool.and_eq_true, sb_iff]
  cases hol a S <;> cases hol b S <;> simp
theorem fb_sm_ct (p : Nat → Bool) : ∀ n, fb_sm (fun i => if p i = true then 1 else 0) n = fb_ct p n
  | 0 => rfl
  | n + 1 => by rw [fb_sm_succ, fb_ct_succ, fb_sm_ct p n]
/-- a list without repetition that has just what p has -/
theorem bij_sum (φ : Nat → Nat) : ∀ (n m : Nat) (σ : Nat → Nat) (p : Nat → Bool), (∀ i, i < n → σ i < m ∧ p (σ i) = true) → (∀ i j, i < n → j < n → σ i = σ j → i = j) → (∀ S, S < m → p S = true → ∃ i, i < n ∧ σ i = S) →
    fb_sm (fun i => φ (σ i)) n = fb_sm (fun S => if p S = true then φ S else 0) m
  | 0, m, σ, p, h1, h2, h3 => by
    have : ∀ S, S < m → p S = false := fun S hS => by
      rcases hh : p S with _ | _
      · rfl
      · obtain ⟨i, hi, -⟩ := h3 S hS hh; exact absurd hi (Nat.not_lt_zero i)
    have e : fb_sm (fun S => if p S = true then φ S else 0) m = fb_sm (fun _ => 0) m := fb_sm_cong (fun k hk => by rw [this k hk]; rfl)
    rw [e, fb_sm_const, Nat.mul_zero]; rfl
  | n + 1, m, σ, p, h1, h2, h3 => by
    have ih := bij_sum φ n m σ (fun S => if S = σ n then false else p S)
      (fun i hi => ⟨(h1 i (by omega)).1, by
        have : ¬ σ i = σ n := fun q => by have := h2 i n (by omega) (by omega) q; omega
        simp only [this, if_false]; exact (h1 i (by omega)).2⟩)
      (fun i j hi hj q => h2 i j (by omega) (by omega) q)
      (fun S hS q => by
        by_cases c : S = σ n
        · simp [c] at q
        · simp only [c, if_false] at q
          obtain ⟨i, hi, e⟩ := h3 S hS q
          rcases Nat.lt_or_ge i n with d | d
          · exact ⟨i, d, e⟩
          · rw [show i = n by omega] at e; exact absurd e.symm c)
    obtain ⟨k1, k2⟩ := h1 n (by omega)
    have e := fb_sm_upd (fun S => if p S = true then φ S else 0) 0 k1
    simp only [k2, if_true, Nat.add_zero] at e
    have e2 : fb_sm (fun S => if (fun S => if S = σ n then false else p S) S = true then φ S else 0) m = fb_sm (fun k => if k = σ n then 0 else if p k = true then φ k else 0) m := fb_sm_cong (fun k _ => by
      by_cases c : k = σ n <;> simp [c])
    rw [fb_sm_succ, ih, e2, e]
/-! ===== the final list ===== -/
/-- entry i as a set of guests -/
def sg (g : Nat) (se : Nat → Int32) (i : Nat) : Nat := bn (fun x => bt (se i) (2 * x)) g
/-- the list, done -/
def LF (K : Bk) (g : Nat) (se : Nat → Int32) (c : Nat) : Prop := LI K g se c (fun _ x => x < g) ∧ c ≤ 1024
theorem sg_bit {g : Nat} {se : Nat → Int32} {i x : Nat} (hx : x < g) : (sg g se i).testBit x = bt (se i) (2 * x) := by
  unfold sg; rw [bn_bit]; simp [hx]
theorem LF_sat {K : Bk} {g : Nat} (hK : Kg K g) {se : Nat → Int32} {c : Nat} (h : LF K g se c) {i : Nat} (hi : i < c) : satp K (sg g se i) ∧ ∀ u, u < 2 * g → (hol u (sg g se i) = true ↔ bt (se i) u = true) := by
  obtain ⟨h1, h2⟩ := h.1.1 i hi
  exact full_sat hK h1.1 (fun x hx => h2 x hx) (fun x hx => by rw [sg_bit hx])
theorem LF_SB {K : Bk} {g : Nat} (hK : Kg K g) {se : Nat → Int32} {c : Nat} (h : LF K g se c) {i : Nat} (hi : i < c) {S : Nat} (hS : S < 2 ^ g) : SB g (se i) S ↔ sg g se i = S := by
  obtain ⟨k1, k2⟩ := LF_sat hK h hi
  constructor
  · intro q
    apply nat_bits (bn_lt _ g) hS
    intro x hx
    show (sg g se i).testBit x = S.testBit x
    rw [sg_bit hx]
    rcases (h.1.1 i hi).2 x hx with r | r
    · rw [r]; have := q (2 * x) (by omega) r; rw [hol_2] at this; exact this.symm
    · have := q (2 * x + 1) (by omega) r
      rw [hol_21] at this
      have r2 : bt (se i) (2 * x) = false := by
        rcases hh : bt (se i) (2 * x) with _ | _
        · rfl
        · have := (h.1.1 i hi).1.1.2 (2 * x) (by omega) hh
          rw [xor1_even (by omega)] at this
          exact absurd r this
      rw [r2]
      simpa using this
  · intro q u hu r
    rw [← q]; exact (k2 u hu).mpr r
theorem LF_sum {K : Bk} {g : Nat} (hK : Kg K g) {se : Nat → Int32} {c : Nat} (h : LF K g se c) (φ : Nat → Nat) : fb_sm (fun i => φ (sg g se i)) c = fb_sm (fun S => if sb K S = true then φ S else 0) (2 ^ g) := by
  apply bij_sum φ c (2 ^ g) (sg g se) (sb K)
  · intro i hi; exact ⟨bn_lt _ g, sb_iff.mpr (LF_sat hK h hi).1⟩
  · intro i j hi hj q
    have k1 := (LF_sat hK h hi).1
    exact h.1.2.2 _ (bn_lt _ g) k1 i j hi hj ((LF_SB hK h hi (bn_lt _ g)).mpr rfl) ((LF_SB hK h hj (bn_lt _ g)).mpr q.symm)
  · intro S hS q
    obtain ⟨i, hi, r⟩ := h.1.2.1 S hS (sb_iff.mp q)
    exact ⟨i, hi, (LF_SB hK h hi hS).mp r⟩
theorem LF_count {K : Bk} {g : Nat} (hK : Kg K g) {se : Nat → Int32} {c : Nat} (h : LF K g se c) : c = fb_ct (sb K) (2 ^ g) := by
  have := LF_sum hK h (fun _ => 1)
  rw [fb_sm_const, fb_sm_ct, Nat.mul_one] at this
  exact this
theorem LF_of {K : Bk} {g : Nat} (hg : g ≤ 10) (hK : Kg K g) {cl : Nat → Int32} (hc : gCls K cl) (se : Nat → Int32) : LF K g (gLs cl se g g).1 (gLs cl se g g).2 := ⟨(list_LI hg hK hc se g (Nat.le_refl g)).1, gLs_le' cl se g hg⟩
/-! ===== how many come ===== -/
def pc (S : Nat) : Nat := fb_ct (fun x => S.testBit x) 10
theorem pc_le (S : Nat) : pc S ≤ 10 := fb_ct_le _ 10
theorem bt_mask : ∀ v, v < 32 → bt 349525 v = (decide (v % 2 = 0) && decide (v < 20)) := by decide +kernel
theorem ct_even (q : Nat → Bool) : ∀ n, fb_ct (fun v => q v && decide (v % 2 = 0)) (2 * n) = fb_ct (fun x => q (2 * x)) n
  | 0 => rfl
  | n + 1 => by
    rw [show 2 * (n + 1) = 2 * n + 1 + 1 by omega, fb_ct_succ, fb_ct_succ, ct_even q n, fb_ct_succ]
    have e1 : (2 * n) % 2 = 0 := by omega
    have e2 : ¬ (2 * n + 1) % 2 = 0 := by omega
    simp [e1, e2]
theorem cnt_eq {K : Bk} {g : Nat} (hg : g ≤ 10) (hK : Kg K g) {se : Nat → Int32} {c : Nat} (h : LF K g se c) {i : Nat} (hi : i < c) : gBC (gAt 1024 se (nI i) &&& 349525) = nI (pc (sg g se i)) := by
  have hc := h.2
  rw [gAt_in (by omega) (by decide), gBC_eq]
  congr 1
  rw [show (32 : Nat) = 2 * 10 + 12 from rfl, fb_ct_split]
  have e1 : fb_ct (fun k => bt (se i &&& 349525) k) (2 * 10) = pc (sg g se i) := by
    have e0 : fb_ct (fun k => bt (se i &&& 349525) k) (2 * 10) = fb_ct (fun v => bt (se i) v && decide (v % 2 = 0)) (2 * 10) := fb_ct_cong (fun k hk => by
      rw [b_and, bt_mask k (by omega)]
      have : k < 20 := by omega
      simp [this])
    rw [e0, ct_even]
    apply fb_ct_cong
    intro x hx
    rcases Nat.lt_or_ge x g with c1 | c1
    · rw [sg_bit c1]
    · rw [(h.1.1 i hi).1.2 (2 * x) (by omega) (by omega)]
      unfold sg; rw [bn_bit]
      have : ¬ x < g := by omega
      simp [this]
  have e2 : fb_ct (fun k => bt (se i &&& 349525) (2 * 10 + k)) 12 = 0 := fb_ct_zero.mpr (fun k hk => by
    rw [b_and, bt_mask _ (by omega)]
    have : ¬ (2 * 10 + k < 20) := by omega
    simp [this])
  rw [e1, e2, Nat.add_zero]
theorem bit_val {S i : Nat} (hS : S < 1024) (hi : i < 32) : (nI S >>> (nI i &&& 31)) &&& 1 = nI (if S.testBit i = true then 1 else 0) := by
  have e3 : nI S >>> (nI i &&& 31) = nI (S / 2 ^ i) := pk_shrN (by omega) _ i (gs_l i hi)
  rw [e3, show (1 : Int32) = nI 1 from rfl, nx_and, Nat.and_one_is_mod, Nat.testBit_eq_decide_div_mod_eq]
  congr 1
  rcases Nat.mod_two_eq_zero_or_one (S / 2 ^ i) with q | q <;> simp [q]
theorem mSz_eq {S : Nat} (hS : S < 1024) : ∀ n, n ≤ 10 → mSz (nI S) n = nI (fb_ct (fun x => S.testBit x) n)
  | 0, _ => rfl
  | n + 1, hn => by rw [mSz, mSz_eq hS n (by omega), bit_val hS (by omega), nI_add, fb_ct_succ]
theorem mSz_pc {S : Nat} (hS : S < 1024) : mSz (nI S) 10 = nI (pc S) := mSz_eq hS 10 (Nat.le_refl _)
/-- the sum of all who come -/
theorem gSu_sum {K : Bk} {g : Nat} (hg : g ≤ 10) (hK : Kg K g) {se : Nat → Int32} {c : Nat} (h : LF K g se c) : ∀ n, n ≤ c → gSu se n = nI (fb_sm (fun i => pc (sg g se i)) n)
  | 0, _ => rfl
  | n + 1, hn => by rw [gSu, gSu_sum hg hK h n (by omega), cnt_eq hg hK h (by omega), nI_add, fb_sm_succ]
theorem mSu_sum {K : Bk} {g : Nat} (hg : g ≤ 10) (hK : Kg K g) (hr : K.1 ≤ 30) : ∀ n, n ≤ 1024 → mSu K (-1) (-1) n = nI (fb_sm (fun S => if sb K S = true then pc S else 0) n)
  | 0, _ => rfl
  | n + 1, hn => by
    rw [mSu, mSu_sum hg hK hr n (by omega), fb_sm_succ, ← nI_add]
    congr 1
    have h := mBB_sat hg hK hr (S := n) (by omega)
    rcases hh : sb K n with _ | _
    · have : ¬ satp K n := fun q => by rw [sb_iff.mpr q] at hh; cases hh
      rw [if_neg (fun q => this (h.mp q))]; rfl
    · rw [if_pos (h.mpr (sb_iff.mp hh)), mSz_pc (by omega)]; rfl
theorem mean_eq {K : Bk} {g : Nat} (hg : g ≤ 10) (hK : Kg K g) (hr : K.1 ≤ 30) {se : Nat → Int32} {c : Nat} (h : LF K g se c) : gSu se c = mSu K (-1) (-1) (2 ^ g) := by
  rw [gSu_sum hg hK h c (Nat.le_refl c), mSu_sum hg hK hr _ (pow_le10 hg), LF_sum hK h pc]
theorem all_eq {K : Bk} {g : Nat} (hg : g ≤ 10) (hK : Kg K g) (hr : K.1 ≤ 30) {se : Nat → Int32} {c : Nat} (h : LF K g se c) : nI c = mAll K (-1) (-1) g := by
  rw [mAll_ct hg hK hr, ← LF_count hK h]
/-! ===== the fewest, the most ===== -/
theorem gFe_min {K : Bk} {g : Nat} (hg : g ≤ 10) (hK : Kg K g) {se : Nat → Int32} {c : Nat} (h : LF K g se c) : ∀ n, 0 < n → n ≤ c → ∃ k, k ≤ 10 ∧ gFe se n = nI k ∧ (∃ i, i < n ∧ pc (sg g se i) = k) ∧ ∀ i, i < n → k ≤ pc (sg g se i)
  | 0, h0, _ => absurd h0 (Nat.lt_irrefl 0)
  | n + 1, _, hn => by
    have hc := h.2
    have hp := pc_le (sg g se n)
    rw [gFe, cnt_eq hg hK h (by omega)]
    rcases Nat.eq_zero_or_pos n with e | e
    · subst e
      rw [if_pos (Or.inl (show nI 0 = 0 from rfl))]
      exact ⟨_, hp, rfl, ⟨0, by omega, rfl⟩, fun i hi => by rw [show i = 0 by omega]; exact Nat.le_refl _⟩
    · obtain ⟨k, k1, k2, ⟨j, j1, j2⟩, k3⟩ := gFe_min hg hK h n e (by omega)
      have hn0 : ¬ nI n = 0 := fun q => by have := (nI_eq (b := 0) (by omega) (by decide)).mp q; omega
      rw [k2]
      by_cases d : nI (pc (sg g se n)) < nI k
      · rw [if_pos (Or.inr d)]
        have d2 := (nI_ltI (by omega) (by omega)).mp d
        refine ⟨_, hp, rfl, ⟨n, by omega, rfl⟩, fun i hi => ?_⟩
        rcases Nat.lt_or_ge i n with z | z
        · have := k3 i z; omega
        · rw [show i = n by omega]; exact Nat.le_refl _
      · rw [if_neg (fun q => q.elim hn0 d)]
        have d2 : ¬ pc (sg g se n) < k := fun q => d ((nI_ltI (by omega) (by omega)).mpr q)
        refine ⟨k, k1, rfl, ⟨j, by omega, j2⟩, fun i hi => ?_⟩
        rcases Nat.lt_or_ge i n with z | z
        · exact k3 i z
        · rw [show i = n by omega]; omega
theorem mFe_min {K : Bk} {g : Nat} (hg : g ≤ 10) (hK : Kg K g) (hr : K.1 ≤ 30) : ∀ n, n ≤ 1024 → (mFe K (-1) (-1) n = -1 ∧ ∀ S, S < n → ¬ satp K S) ∨ ∃ k, k ≤ 10 ∧ mFe K (-1) (-1) n = nI k ∧ (∃ S, S < n ∧ satp K S ∧ pc S = k) ∧ ∀ S, S < n → satp K S → k ≤ pc S
  | 0, _ => Or.inl ⟨rfl, fun S hS => absurd hS (Nat.not_lt_zero S)⟩
  | n + 1, hn => by
    have hb := mBB_sat hg hK hr (S := n) (by omega)
    have hp := pc_le n
    rw [mFe, mSz_pc (by omega)]
    by_cases c : satp K n
    · rcases mFe_min hg hK hr n (by omega) with ⟨h1, h2⟩ | ⟨k, k1, k2, ⟨S, s1, s2, s3⟩, k3⟩
      · rw [if_pos ⟨hb.mpr c, Or.inl h1⟩]
        refine Or.inr ⟨_, hp, rfl, ⟨n, by omega, c, rfl⟩, fun S hS q => ?_⟩
        rcases Nat.lt_or_ge S n with z | z
        · exact absurd q (h2 S z)
        · rw [show S = n by omega]; exact Nat.le_refl _
      · rw [k2]
        by_cases d : nI (pc n) < nI k
        · rw [if_pos ⟨hb.mpr c, Or.inr d⟩]
          have d2 := (nI_ltI (by omega) (by omega)).mp d
          refine Or.inr ⟨_, hp, rfl, ⟨n, by omega, c, rfl⟩, fun S hS q => ?_⟩
          rcases Nat.lt_or_ge S n with z | z
          · have := k3 S z q; omega
          · rw [show S = n by omega]; exact Nat.le_refl _
        · rw [if_neg (fun q => q.2.elim (nI_nm1 (by omega)) d)]
          have d2 : ¬ pc n < k := fun q => d ((nI_ltI (by omega) (by omega)).mpr q)
          refine Or.inr ⟨k, k1, rfl, ⟨S, by omega, s2, s3⟩, fun T hT q => ?_⟩
          rcases Nat.lt_or_ge T n with z | z
          · exact k3 T z q
          · rw [show T = n by omega]; omega
    · rw [if_neg (fun q => c (hb.mp q.1))]
      rcases mFe_min hg hK hr n (by omega) with ⟨h1, h2⟩ | ⟨k, k1, k2, ⟨S, s1, s2, s3⟩, k3⟩
      · refine Or.inl ⟨h1, fun S hS => ?_⟩
        rcases Nat.lt_or_ge S n with z | z
        · exact h2 S z
        · rw [show S = n by omega]; exact c
      · refine Or.inr ⟨k, k1, k2, ⟨S, by omega, s2, s3⟩, fun T hT q => ?_⟩
        rcases Nat.lt_or_ge T n with z | z
        · exact k3 T z q
        · rw [show T = n by omega] at q; exact absurd q c
theorem nm1_lt {k : Nat} (hk : k < 2 ^ 31) : (-1 : Int32) < nI k := by
  rw [Int32.lt_iff_toInt_lt, nI_toInt hk, show (-1 : Int32).toInt = -1 from by decide]; omega
theorem gMo_max {K : Bk} {g : Nat} (hg : g ≤ 10) (hK : Kg K g) {se : Nat → Int32} {c : Nat} (h : LF K g se c) : ∀ n, 0 < n → n ≤ c → ∃ k, k ≤ 10 ∧ gMo se n = nI k ∧ (∃ i, i < n ∧ pc (sg g se i) = k) ∧ ∀ i, i < n → pc (sg g se i) ≤ k
  | 0, h0, _ => absurd h0 (Nat.lt_irrefl 0)
  | n + 1, _, hn => by
    have hc := h.2
    have hp := pc_le (sg g se n)
    rw [gMo, cnt_eq hg hK h (by omega)]
    rcases Nat.eq_zero_or_pos n with e | e
    · subst e
      rw [gMo, if_pos (nm1_lt (by omega))]
      exact ⟨_, hp, rfl, ⟨0, by omega, rfl⟩, fun i hi => by rw [show i = 0 by omega]; exact Nat.le_refl _⟩
    · obtain ⟨k, k1, k2, ⟨j, j1, j2⟩, k3⟩ := gMo_max hg hK h n e (by omega)
      rw [k2]
      by_cases d : nI k < nI (pc (sg g se n))
      · rw [if_pos d]
        have d2 := (nI_ltI (by omega) (by omega)).mp d
        refine ⟨_, hp, rfl, ⟨n, by omega, rfl⟩, fun i hi => ?_⟩
        rcases Nat.lt_or_ge i n with z | z
        · have := k3 i z; omega
        · rw [show i = n by omega]; exact Nat.le_refl _
      · rw [if_neg d]
        have d2 : ¬ k < pc (sg g se n) := fun q => d ((nI_ltI (by omega) (by omega)).mpr q)
        refine ⟨k, k1, rfl, ⟨j, by omega, j2⟩, fun i hi => ?_⟩
        rcases Nat.lt_or_ge i n with z | z
        · exact k3 i z
        · rw [show i = n by omega]; omega
theorem mMo_max {K : Bk} {g : Nat} (hg : g ≤ 10) (hK : Kg K g) (hr : K.1 ≤ 30) : ∀ n, n ≤ 1024 → (mMo K (-1) (-1) n = -1 ∧ ∀ S, S < n → ¬ satp K S) ∨ ∃ k, k ≤ 10 ∧ mMo K (-1) (-1) n = nI k ∧ (∃ S, S < n ∧ satp K S ∧ pc S = k) ∧ ∀ S, S < n → satp K S → pc S ≤ k
  | 0, _ => Or.inl ⟨rfl, fun S hS => absurd hS (Nat.not_lt_zero S)⟩
  | n + 1, hn => by
    have hb := mBB_sat hg hK hr (S := n) (by omega)
    have hp := pc_le n
    rw [mMo, mSz_pc (by omega)]
    by_cases c : satp K n
    · rw [if_pos (hb.mpr c)]
      rcases mMo_max hg hK hr n (by omega) with ⟨h1, h2⟩ | ⟨k, k1, k2, ⟨S, s1, s2, s3⟩, k3⟩
      · rw [h1, if_pos (nm1_lt (by omega))]
        refine Or.inr ⟨_, hp, rfl, ⟨n, by omega, c, rfl⟩, fun S hS q => ?_⟩
        rcases Nat.lt_or_ge S n with z | z
        · exact absurd q (h2 S z)
        · rw [show S = n by omega]; exact Nat.le_refl _
      · rw [k2]
        by_cases d : nI k < nI (pc n)
        · rw [if_pos d]
          have d2 := (nI_ltI (by omega) (by omega)).mp d
          refine Or.inr ⟨_, hp, rfl, ⟨n, by omega, c, rfl⟩, fun S hS q => ?_⟩
          rcases Nat.lt_or_ge S n with z | z
          · have := k3 S z q; omega
          · rw [show S = n by omega]; exact Nat.le_refl _
        · rw [if_neg d]
          have d2 : ¬ k < pc n := fun q => d ((nI_ltI (by omega) (by omega)).mpr q)
          refine Or.inr ⟨k, k1, rfl, ⟨S, by omega, s2, s3⟩, fun T hT q => ?_⟩
          rcases Nat.lt_or_ge T n with z | z
          · exact k3 T z q
          · rw [show T = n by omega]; omega
    · rw [if_neg (fun q => c (hb.mp q))]
      rcases mMo_max hg hK hr n (by omega) with ⟨h1, h2⟩ | ⟨k, k1, k2, ⟨S, s1, s2, s3⟩, k3⟩
      · refine Or.inl ⟨h1, fun S hS => ?_⟩
        rcases Nat.lt_or_ge S n with z | z
        · exact h2 S z
        · rw [show S = n by omega]; exact c
      · refine Or.inr ⟨k, k1, k2, ⟨S, by omega, s2, s3⟩, fun T hT q => ?_⟩
        rcases Nat.lt_or_ge T n with z | z
        · exact k3 T z q
        · rw [show T = n by omega] at q; exact absurd q c
theorem few_eq {K : Bk} {g : Nat} (hg : g ≤ 10) (hK : Kg K g) (hr : K.1 ≤ 30) {se : Nat → Int32} {c : Nat} (h : LF K g se c) : gFe se c = mFe K (-1) (-1) (2 ^ g) := by
  rcases mFe_min hg hK hr _ (pow_le10 hg) with ⟨h1, h2⟩ | ⟨k, k1, k2, ⟨S, s1, s2, s3⟩, k3⟩
  · have e : c = 0 := by
      rcases Nat.eq_zero_or_pos c with e | e
      · exact e
      · exact absurd (LF_sat hK h e).1 (h2 _ (bn_lt _ g))
    rw [h1, e]; rfl
  · obtain ⟨i, i1, i2⟩ := h.1.2.1 S s1 s2
    have i3 := (LF_SB hK h i1 s1).mp i2
    obtain ⟨k', q1, q2, ⟨j, j1, j2⟩, q3⟩ := gFe_min hg hK h c (by omega) (Nat.le_refl c)
    have := q3 i i1
    have := k3 _ (bn_lt _ g) (LF_sat hK h j1).1
    have e : k = k' := by
      rw [i3, s3] at *
      have : k ≤ pc (sg g se j) := this
      omega
    rw [q2, k2, e]
theorem most_eq {K : Bk} {g : Nat} (hg : g ≤ 10) (hK : Kg K g) (hr : K.1 ≤ 30) {se : Nat → Int32} {c : Nat} (h : LF K g se c) : gMo se c = mMo K (-1) (-1) (2 ^ g) := by
  rcases mMo_max hg hK hr _ (pow_le10 hg) with ⟨h1, h2⟩ | ⟨k, k1, k2, ⟨S, s1, s2, s3⟩, k3⟩
  · have e : c = 0 := by
      rcases Nat.eq_zero_or_pos c with e | e
      · exact e
      · exact absurd (LF_sat hK h e).1 (h2 _ (bn_lt _ g))
    rw [h1, e]; rfl
  · obtain ⟨i, i1, i2⟩ := h.1.2.1 S s1 s2
    have i3 := (LF_SB hK h i1 s1).mp i2
    obtain ⟨k', q1, q2, ⟨j, j1, j2⟩, q3⟩ := gMo_max hg hK h c (by omega) (Nat.le_refl c)
    have a1 := q3 i i1
    have a2 := k3 _ (bn_lt _ g) (LF_sat hK h j1).1
    have a3 : pc (sg g se j) ≤ k := a2
    rw [i3, s3] at a1
    have e : k = k' := by omega
    rw [q2, k2, e]
