/-! WHAT FOLLOWS, as a graph. A book of rules: how many, their first wishes, their second ones, which are in force. -/
abbrev Bk : Type := Nat × (Nat → Nat) × (Nat → Nat) × (Nat → Bool)
def ed (K : Bk) (u v : Nat) : Prop := ∃ j, j < K.1 ∧ K.2.2.2 j = true ∧ ((K.2.1 j = u ∧ K.2.2.1 j = v) ∨ (K.2.2.1 j ^^^ 1 = u ∧ K.2.1 j ^^^ 1 = v))
/-- v is reached from u by exactly n rules and turnings -/
def rk (K : Bk) : Nat → Nat → Nat → Prop
  | 0, u, v => u = v
  | n + 1, u, v => ∃ x, rk K n u x ∧ ed K x v
def fol (K : Bk) (u v : Nat) : Prop := ∃ n, rk K n u v
noncomputable def fo (K : Bk) (u v : Nat) : Bool := @decide (fol K u v) (Classical.propDecidable _)
theorem fo_iff {K : Bk} {u v : Nat} : fo K u v = true ↔ fol K u v := by unfold fo; exact @decide_eq_true_iff _ (Classical.propDecidable _)
theorem di_ex (K : Bk) (u v : Nat) : ∃ x : Int32, (fol K u v → ∃ n, x = nI n ∧ rk K n u v ∧ ∀ m, m < n → ¬ rk K m u v) ∧ (¬ fol K u v → x = -1) := by
  rcases Classical.em (fol K u v) with h | h
  · obtain ⟨n, h1, h2⟩ := pk_least (fun n => rk K n u v) h
    exact ⟨nI n, fun _ => ⟨n, rfl, h1, h2⟩, fun q => absurd h q⟩
  · exact ⟨-1, fun q => absurd q h, fun _ => rfl⟩
noncomputable def di (K : Bk) (u v : Nat) : Int32 := Classical.choose (di_ex K u v)
theorem di_spec (K : Bk) (u v : Nat) : (fol K u v → ∃ n, di K u v = nI n ∧ rk K n u v ∧ ∀ m, m < n → ¬ rk K m u v) ∧ (¬ fol K u v → di K u v = -1) := Classical.choose_spec (di_ex K u v)
def Bk20 (K : Bk) : Prop := ∀ j, j < K.1 → K.2.1 j < 20 ∧ K.2.2.1 j < 20
theorem xor1_lt {x n : Nat} (h : x < 2 * n) : x ^^^ 1 < 2 * n := by
  rcases Nat.mod_two_eq_zero_or_one x with q | q
  · have e : x ^^^ 1 = x + 1 := by
      obtain ⟨y, rfl⟩ : ∃ y, x = 2 * y := ⟨x / 2, by omega⟩
      apply Nat.eq_of_testBit_eq
      intro i
      cases i with
      | zero => simp
      | succ i => simp [Nat.testBit_succ, Nat.xor_div_two]; congr 1; omega
    omega
  · have e : x ^^^ 1 = x - 1 := by
      obtain ⟨y, rfl⟩ : ∃ y, x = 2 * y + 1 := ⟨x / 2, by omega⟩
      apply Nat.eq_of_testBit_eq
      intro i
      cases i with
      | zero => simp
      | succ i => simp [Nat.testBit_succ, Nat.xor_div_two]; congr 1; omega
    omega
theorem ed20 {K : Bk} (hK : Bk20 K) {u v : Nat} (h : ed K u v) : v < 20 := by
  obtain ⟨j, hj, -, ⟨-, rfl⟩ | ⟨-, rfl⟩⟩ := h
  · exact (hK j hj).2
  · exact xor1_lt (n := 10) (hK j hj).1
/-! ===== the spreading, with its queue: q i the i-th wish, d i how far it is ===== -/
def B0 (K : Bk) (a many : Nat) (ro fa : Nat → Int32) (q d : Nat → Nat) : Prop :=
  many = fb_ct (fun v => decide (¬ fa v = -1)) 20 ∧ (∀ i, i < many → q i < 20 ∧ ro i = nI (q i) ∧ fa (q i) = nI (d i) ∧ d i ≤ i ∧ rk K (d i) a (q i)) ∧
  (∀ v, v < 20 → ¬ fa v = -1 → ∃ i, i < many ∧ q i = v) ∧ (0 < many ∧ q 0 = a) ∧ (∀ i i', i ≤ i' → i' < many → d i ≤ d i')
def BF (many k : Nat) (q d : Nat → Nat) (v : Nat) : Prop := ∃ i, i < many ∧ q i = v ∧ d i ≤ d k + 1
def BS (K : Bk) (a k many : Nat) (ro fa : Nat → Int32) (q d : Nat → Nat) : Prop :=
  B0 K a many ro fa q d ∧ k < many ∧ (∀ i, i < k → ∀ v, ed K (q i) v → BF many i q d v) ∧ (∀ i, i < many → d i ≤ d k + 1)
def BO (K : Bk) (a k many : Nat) (ro fa : Nat → Int32) : Prop := ∃ q d : Nat → Nat,
  B0 K a many ro fa q d ∧ k ≤ many ∧ (∀ i, i < k → ∀ v, ed K (q i) v → BF many i q d v) ∧ (k < many → ∀ i, i < many → d i ≤ d k + 1)
def BJ (K : Bk) (a k j w many : Nat) (ro fa : Nat → Int32) : Prop := ∃ q d : Nat → Nat,
  BS K a k many ro fa q d ∧ q k = w ∧ ∀ j', j' < j → K.2.2.2 j' = true → (K.2.1 j' = w → BF many k q d (K.2.2.1 j')) ∧ (K.2.2.1 j' ^^^ 1 = w → BF many k q d (K.2.1 j' ^^^ 1))
def BH (K : Bk) (a k j w many : Nat) (ro fa : Nat → Int32) : Prop := ∃ q d : Nat → Nat,
  BS K a k many ro fa q d ∧ q k = w ∧ (∀ j', j' < j → K.2.2.2 j' = true → (K.2.1 j' = w → BF many k q d (K.2.2.1 j')) ∧ (K.2.2.1 j' ^^^ 1 = w → BF many k q d (K.2.1 j' ^^^ 1))) ∧ (K.2.1 j = w → BF many k q d (K.2.2.1 j))
theorem B0_le {K : Bk} {a many : Nat} {ro fa : Nat → Int32} {q d : Nat → Nat} (h : B0 K a many ro fa q d) : many ≤ 20 := by
  rw [h.1]; exact fb_ct_le _ 20
theorem B0_room {K : Bk} {a many : Nat} {ro fa : Nat → Int32} {q d : Nat → Nat} (h : B0 K a many ro fa q d) {t : Nat} (ht : t < 20) (hf : fa t = -1) : many < 20 := by
  rcases Nat.lt_or_ge many 20 with c | c
  · exact c
  · have e : fb_ct (fun v => decide (¬ fa v = -1)) 20 = 20 := by rw [← h.1]; have := B0_le h; omega
    have := fb_ct_all.mp e t ht
    simp [hf] at this
theorem BJ_le {K : Bk} {a k j w many : Nat} {ro fa : Nat → Int32} (h : BJ K a k j w many ro fa) : many ≤ 20 ∧ k < many := by
  obtain ⟨q, d, h, -⟩ := h; exact ⟨B0_le h.1, h.2.1⟩
theorem BO_le {K : Bk} {a k many : Nat} {ro fa : Nat → Int32} (h : BO K a k many ro fa) : many ≤ 20 ∧ k ≤ many := by
  obtain ⟨q, d, h, h2, -⟩ := h; exact ⟨B0_le h, h2⟩
theorem BJ_room {K : Bk} {a k j w many : Nat} {ro fa : Nat → Int32} (h : BJ K a k j w many ro fa) {t : Nat} (ht : t < 20) (hf : fa t = -1) : many < 20 := by
  obtain ⟨q, d, h, -⟩ := h; exact B0_room h.1 ht hf
theorem BH_room {K : Bk} {a k j w many : Nat} {ro fa : Nat → Int32} (h : BH K a k j w many ro fa) {t : Nat} (ht : t < 20) (hf : fa t = -1) : many < 20 := by
  obtain ⟨q, d, h, -⟩ := h; exact B0_room h.1 ht hf
/-- what put makes of the three -/
def mPn (fa : Nat → Int32) (many t : Nat) : Nat := if fa t = -1 then many + 1 else many
def mPr (ro fa : Nat → Int32) (many t : Nat) : Nat → Int32 := if fa t = -1 then upd ro many (nI t) else ro
def mPf (fa : Nat → Int32) (t : Nat) (v : Int32) : Nat → Int32 := if fa t = -1 then upd fa t v else fa
theorem nI_ne1 {n : Nat} (h : n < 2 ^ 31) : ¬ nI n = -1 := nI_nm1 h
theorem BS_put {K : Bk} {a k many : Nat} {ro fa : Nat → Int32} {q d : Nat → Nat} (h : BS K a k many ro fa q d) {t : Nat} (ht : t < 20) (he : ed K (q k) t) :
    ∃ q' d' : Nat → Nat, BS K a k (mPn fa many t) (mPr ro fa many t) (mPf fa t (fa (q k) + 1)) q' d' ∧ q' k = q k ∧ (∀ v, BF many k q d v → BF (mPn fa many t) k q' d' v) ∧ BF (mPn fa many t) k q' d' t := by
  obtain ⟨h0, hk, hp, hb⟩ := h
  obtain ⟨g1, g2, g3, g4, g5⟩ := id h0
  have hm := B0_le h0
  rcases Classical.em (fa t = -1) with hf | hf
  · have hr := B0_room h0 ht hf
    have hn : mPn fa many t = many + 1 := if_pos hf
    have hro : mPr ro fa many t = upd ro many (nI t) := if_pos hf
    have hfa : ∀ v, mPf fa t v = upd fa t v := fun v => if_pos hf
    obtain ⟨gk1, gk2, gk3, gk4, gk5⟩ := g2 k hk
    have hs : fa (q k) + 1 = nI (d k + 1) := by rw [gk3]; exact nI_1 (d k)
    rw [hn, hro, hfa, hs]
    have hqt : ∀ i, i < many → q i ≠ t := fun i hi e => by
      have := (g2 i hi).2.2.1
      have h4 := (g2 i hi).2.2.2.1
      rw [e, hf] at this
      exact nI_ne1 (n := d i) (by omega) this.symm
    refine ⟨fun i => if i = many then t else q i, fun i => if i = many then d k + 1 else d i, ⟨⟨?_, ?_, ?_, ?_, ?_⟩, by omega, ?_, ?_⟩, ?_, ?_, ?_⟩
    · have e := fb_ct_upd (fun v => decide (¬ fa v = -1)) true ht
      rw [if_neg (by simp [hf]), if_pos rfl, ← g1] at e
      rw [← e, Nat.add_zero]
      apply fb_ct_cong
      intro v _
      by_cases hv : v = t
      · subst hv; simp [upd, nI_ne1 (n := d k + 1) (by omega)]
      · simp [upd, hv]
    · intro i hi
      by_cases c : i = many
      · subst c
        simp only [if_true]
        refine ⟨ht, by simp [upd], by simp [upd], by omega, q k, gk5, he⟩
      · have hi2 : i < many := by omega
        simp only [c, if_false]
        obtain ⟨e1, e2, e3, e4, e5⟩ := g2 i hi2
        exact ⟨e1, by simp [upd, c, e2], by simp [upd, hqt i hi2, e3], e4, e5⟩
    · intro v hv hfv
      by_cases c : v = t
      · exact ⟨many, by omega, by simp [c]⟩
      · simp only [upd, c, if_false] at hfv
        obtain ⟨i, hi, e⟩ := g3 v hv hfv
        exact ⟨i, by omega, by show (if i = many then t else q i) = v; rw [if_neg (by omega)]; exact e⟩
    · exact ⟨by omega, by simp only; rw [if_neg (by omega)]; exact g4.2⟩
    · intro i i' h1 h2
      by_cases c : i' = many
      · by_cases c2 : i = many
        · simp [c, c2]
        · simp only [c, c2, if_true, if_false]; exact hb i (by omega)
      · simp only [c, if_false]; rw [if_neg (by omega)]; exact g5 i i' h1 (by omega)
    · intro i hi v hv
      simp only at hv
      rw [if_neg (by omega)] at hv
      obtain ⟨i', e1, e2, e3⟩ := hp i hi v hv
      exact ⟨i', by omega, by simp only; rw [if_neg (by omega)]; exact e2, by simp only; rw [if_neg (by omega), if_neg (by omega)]; exact e3⟩
    · intro i hi
      simp only
      rw [if_neg (show ¬ k = many by omega)]
      by_cases c : i = many
      · simp [c]
      · rw [if_neg c]; exact hb i (by omega)
    · simp only; rw [if_neg (by omega)]
    · rintro v ⟨i, e1, e2, e3⟩
      exact ⟨i, by omega, by simp only; rw [if_neg (by omega)]; exact e2, by simp only; rw [if_neg (by omega), if_neg (by omega)]; exact e3⟩
    · exact ⟨many, by omega, by simp, by simp only [if_true]; rw [if_neg (by omega)]; exact Nat.le_refl _⟩
  · have hn : mPn fa many t = many := if_neg hf
    have hro : mPr ro fa many t = ro := if_neg hf
    have hfa : ∀ v, mPf fa t v = fa := fun v => if_neg hf
    rw [hn, hro, hfa]
    refine ⟨q, d, ⟨h0, hk, hp, hb⟩, rfl, fun v hv => hv, ?_⟩
    obtain ⟨i, hi, e⟩ := g3 t ht hf
    exact ⟨i, hi, e, hb i hi⟩
theorem BJ_skip {K : Bk} {a k j w many : Nat} {ro fa : Nat → Int32} (h : BJ K a k j w many ro fa) (ho : K.2.2.2 j = false) : BJ K a k (j + 1) w many ro fa := by
  obtain ⟨q, d, h1, h2, h3⟩ := h
  refine ⟨q, d, h1, h2, fun j' hj hon => ?_⟩
  rcases Nat.lt_or_ge j' j with c | c
  · exact h3 j' c hon
  · rw [show j' = j by omega, ho] at hon; cases hon
theorem BJ_no {K : Bk} {a k j w many : Nat} {ro fa : Nat → Int32} (h : BJ K a k j w many ro fa) (hn : ¬ K.2.1 j = w) : BH K a k j w many ro fa := by
  obtain ⟨q, d, h1, h2, h3⟩ := h
  exact ⟨q, d, h1, h2, h3, fun e => absurd e hn⟩
theorem BJ_yes {K : Bk} (hK : Bk20 K) {a k j w many : Nat} {ro fa : Nat → Int32} (h : BJ K a k j w many ro fa) (hj : j < K.1) (ho : K.2.2.2 j = true) (hn : K.2.1 j = w) : BH K a k j w (mPn fa many (K.2.2.1 j)) (mPr ro fa many (K.2.2.1 j)) (mPf fa (K.2.2.1 j) (fa w + 1)) := by
  obtain ⟨q, d, h1, h2, h3⟩ := h
  subst h2
  obtain ⟨q', d', g1, g2, g3, g4⟩ := BS_put h1 (hK j hj).2 ⟨j, hj, ho, Or.inl ⟨hn, rfl⟩⟩
  exact ⟨q', d', g1, g2, fun j' hj' hon => ⟨fun e => g3 _ ((h3 j' hj' hon).1 e), fun e => g3 _ ((h3 j' hj' hon).2 e)⟩, fun _ => g4⟩
theorem BH_no {K : Bk} {a k j w many : Nat} {ro fa : Nat → Int32} (h : BH K a k j w many ro fa) (hn : ¬ K.2.2.1 j ^^^ 1 = w) : BJ K a k (j + 1) w many ro fa := by
  obtain ⟨q, d, h1, h2, h3, h4⟩ := h
  refine ⟨q, d, h1, h2, fun j' hj hon => ?_⟩
  rcases Nat.lt_or_ge j' j with c | c
  · exact h3 j' c hon
  · rw [show j' = j by omega]; exact ⟨h4, fun e => absurd e hn⟩
theorem BH_yes {K : Bk} (hK : Bk20 K) {a k j w many : Nat} {ro fa : Nat → Int32} (h : BH K a k j w many ro fa) (hj : j < K.1) (ho : K.2.2.2 j = true) (hn : K.2.2.1 j ^^^ 1 = w) : BJ K a k (j + 1) w (mPn fa many (K.2.1 j ^^^ 1)) (mPr ro fa many (K.2.1 j ^^^ 1)) (mPf fa (K.2.1 j ^^^ 1) (fa w + 1)) := by
  obtain ⟨q, d, h1, h2, h3, h4⟩ := h
  subst h2
  obtain ⟨q', d', g1, g2, g3, g5⟩ := BS_put h1 (xor1_lt (n := 10) (hK j hj).1) ⟨j, hj, ho, Or.inr ⟨hn, rfl⟩⟩
  refine ⟨q', d', g1, g2, fun j' hj' hon => ?_⟩
  rcases Nat.lt_or_ge j' j with c | c
  · exact ⟨fun e => g3 _ ((h3 j' c hon).1 e), fun e => g3 _ ((h3 j' c hon).2 e)⟩
  · rw [show j' = j by omega]; exact ⟨fun e => g3 _ (h4 e), fun _ => g5⟩
theorem BO_J {K : Bk} {a k many : Nat} {ro fa : Nat → Int32} (h : BO K a k many ro fa) (hk : k < many) : ∃ w, w < 20 ∧ ro k = nI w ∧ BJ K a k 0 w many ro fa := by
  obtain ⟨q, d, h0, h1, h2, h3⟩ := h
  obtain ⟨e1, e2, -⟩ := h0.2.1 k hk
  exact ⟨q k, e1, e2, q, d, ⟨h0, hk, h2, h3 hk⟩, rfl, fun j' hj => absurd hj (Nat.not_lt_zero j')⟩
theorem BJ_O {K : Bk} {a k w many : Nat} {ro fa : Nat → Int32} (h : BJ K a k K.1 w many ro fa) : BO K a (k + 1) many ro fa := by
  obtain ⟨q, d, ⟨h0, hk, hp, hb⟩, hw, h3⟩ := h
  refine ⟨q, d, h0, by omega, fun i hi v hv => ?_, fun hk1 i hi => ?_⟩
  · rcases Nat.lt_or_ge i k with c | c
    · exact hp i c v hv
    · have e : i = k := by omega
      subst e
      obtain ⟨j, hj, hon, ⟨e1, e2⟩ | ⟨e1, e2⟩⟩ := hv
      · rw [← e2]; exact (h3 j hj hon).1 (by rw [e1, hw])
      · rw [← e2]; exact (h3 j hj hon).2 (by rw [e1, hw])
  · have h5 := h0.2.2.2.2 k (k + 1) (by omega) hk1
    have h6 := hb i hi
    omega
theorem BO_init (K : Bk) {a : Nat} (ha : a < 20) (ro fa : Nat → Int32) (hf : ∀ v, v < 20 → fa v = -1) : BO K a 0 (mPn fa 0 a) (mPr ro fa 0 a) (mPf fa a 0) := by
  have h1 : mPn fa 0 a = 1 := if_pos (hf a ha)
  have h2 : mPr ro fa 0 a = upd ro 0 (nI a) := if_pos (hf a ha)
  have h3 : mPf fa a 0 = upd fa a 0 := if_pos (hf a ha)
  rw [h1, h2, h3]
  have z : ¬ (0 : Int32) = -1 := by decide
  refine ⟨fun _ => a, fun _ => 0, ⟨?_, ?_, ?_, ⟨by omega, rfl⟩, fun _ _ _ _ => Nat.le_refl _⟩, by omega, fun i hi => absurd hi (Nat.not_lt_zero i), fun _ _ _ => by simp⟩
  · have e := fb_ct_upd (fun v => decide (¬ fa v = -1)) true ha
    have e0 : fb_ct (fun v => decide (¬ fa v = -1)) 20 = 0 := fb_ct_zero.mpr (fun v hv => by simp [hf v hv])
    rw [if_neg (by simp [hf a ha]), if_pos rfl, e0] at e
    rw [show (1 : Nat) = 0 + 1 from rfl, ← e, Nat.add_zero]
    apply fb_ct_cong
    intro v _
    by_cases hv : v = a
    · subst hv; simp [upd]
    · simp [upd, hv]
  · intro i hi
    have e : i = 0 := by omega
    subst e
    exact ⟨ha, by simp [upd], by simp [upd]; rfl, Nat.le_refl _, rfl⟩
  · intro v hv h
    by_cases c : v = a
    · exact ⟨0, by omega, c.symm⟩
    · simp [upd, c, hf v hv] at h
theorem BO_end {K : Bk} (hK : Bk20 K) {a many : Nat} {ro fa : Nat → Int32} (h : BO K a many many ro fa) : (∀ v, v < 20 → fa v = di K a v) ∧ many = fb_ct (fun v => fo K a v) 20 ∧ ∀ v, v < 20 → (fo K a v = true ∧ ∃ n, n < 20 ∧ di K a v = nI n ∧ rk K n a v) ∨ (fo K a v = false ∧ di K a v = -1) := by
  obtain ⟨q, d, ⟨g1, g2, g3, g4, g5⟩, -, h2, -⟩ := h
  have hm : many ≤ 20 := by rw [g1]; exact fb_ct_le _ 20
  have hr : ∀ n v, rk K n a v → ∃ i, i < many ∧ q i = v ∧ d i ≤ n := by
    intro n
    induction n with
    | zero => intro v hv; exact ⟨0, g4.1, g4.2.trans hv, by have := (g2 0 g4.1).2.2.2.1; omega⟩
    | succ n ih =>
      rintro v ⟨x, hx, he⟩
      obtain ⟨i, hi, e1, e2⟩ := ih x hx
      obtain ⟨i', f1, f2, f3⟩ := h2 i hi v (by rw [e1]; exact he)
      exact ⟨i', f1, f2, by omega⟩
  have hv : ∀ v, v < 20 → (fol K a v ∧ (∃ n, n < 20 ∧ fa v = nI n ∧ di K a v = nI n ∧ rk K n a v)) ∨ (¬ fol K a v ∧ fa v = -1 ∧ di K a v = -1) := by
    intro v hv
    rcases Classical.em (fol K a v) with c | c
    · obtain ⟨n, e1, e2, e3⟩ := (di_spec K a v).1 c
      obtain ⟨i, i1, i2, i3⟩ := hr n v e2
      obtain ⟨f1, f2, f3, f4, f5⟩ := g2 i i1
      rw [i2] at f3 f5
      have e : d i = n := by
        rcases Nat.lt_or_ge (d i) n with z | z
        · exact absurd f5 (e3 _ z)
        · omega
      exact Or.inl ⟨c, n, by omega, by rw [f3, e], e1, e2⟩
    · refine Or.inr ⟨c, ?_, (di_spec K a v).2 c⟩
      rcases Classical.em (fa v = -1) with z | z
      · exact z
      · obtain ⟨i, i1, i2⟩ := g3 v hv z
        exact absurd ⟨d i, by rw [← i2]; exact (g2 i i1).2.2.2.2⟩ c
  have hno : ∀ v, ¬ fol K a v → fo K a v = false := fun v c => by
    rcases hh : fo K a v with _ | _
    · rfl
    · exact absurd (fo_iff.mp hh) c
  refine ⟨fun v h => ?_, ?_, fun v h => ?_⟩
  · rcases hv v h with ⟨-, n, -, e1, e2, -⟩ | ⟨-, e1, e2⟩ <;> rw [e1, e2]
  · rw [g1]
    apply fb_ct_cong
    intro v h
    rcases hv v h with ⟨c, n, hn, e1, -, -⟩ | ⟨c, e1, -⟩
    · rw [fo_iff.mpr c, e1]; simp [nI_ne1 (n := n) (by omega)]
    · rw [e1, hno v c]; simp
  · rcases hv v h with ⟨c, n, h', -, e2, e3⟩ | ⟨c, -, e2⟩
    · exact Or.inl ⟨fo_iff.mpr c, n, h', e2, e3⟩
    · exact Or.inr ⟨hno v c, e2⟩
theorem xor1_even {x : Nat} (h : x % 2 = 0) : x ^^^ 1 = x + 1 := by
  obtain ⟨y, rfl⟩ : ∃ y, x = 2 * y := ⟨x / 2, by omega⟩
  apply Nat.eq_of_testBit_eq
  intro i
  cases i with
  | zero => simp
  | succ i => simp [Nat.testBit_succ, Nat.xor_div_two]; congr 1; omega
theorem xor1_odd {x : Nat} (h : x % 2 = 1) : x ^^^ 1 = x - 1 := by
  obtain ⟨y, rfl⟩ : ∃ y, x = 2 * y + 1 := ⟨x / 2, by omega⟩
  apply Nat.eq_of_testBit_eq
  intro i
  cases i with
  | zero => simp
  | succ i => simp [Nat.testBit_succ, Nat.xor_div_two]; congr 1; omega
