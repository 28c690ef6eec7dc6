/-! SEATINGS: a rule ties two wishes; what is closed and agrees with itself grows to a seating. -/
def hol (w S : Nat) : Bool := if w % 2 = 0 then S.testBit (w / 2) else !S.testBit (w / 2)
theorem xor1_div (w : Nat) : (w ^^^ 1) / 2 = w / 2 := by
  rcases Nat.mod_two_eq_zero_or_one w with h | h
  · rw [xor1_even h]; omega
  · rw [xor1_odd h]; omega
theorem xor1_mod (w : Nat) : (w ^^^ 1) % 2 = 1 - w % 2 := by
  rcases Nat.mod_two_eq_zero_or_one w with h | h
  · rw [xor1_even h]; omega
  · rw [xor1_odd h]; omega
theorem hol_xor (w S : Nat) : hol (w ^^^ 1) S = !hol w S := by
  unfold hol
  rw [xor1_div, xor1_mod]
  rcases Nat.mod_two_eq_zero_or_one w with h | h <;> simp [h]
theorem hol_2 (x S : Nat) : hol (2 * x) S = S.testBit x := by unfold hol; rw [if_pos (by omega), show 2 * x / 2 = x by omega]
theorem hol_21 (x S : Nat) : hol (2 * x + 1) S = !S.testBit x := by unfold hol; rw [if_neg (by omega), show (2 * x + 1) / 2 = x by omega]
theorem gHolds_hol {w S : Nat} (hw : w < 20) (hS : S < 1024) : gHolds (nI w) (nI S) = hol w S := by
  unfold gHolds hol
  rw [show (1 : Int32) = nI 1 from rfl, nx_and, Nat.and_one_is_mod, show (nI 1 &&& 31) = nI 1 from by decide, show nI w >>> nI 1 = nI (w / 2) from pk_shrN (by omega) (nI 1) 1 (by decide), gHas_bt (by omega), bt_nI (by omega)]
  rcases Nat.mod_two_eq_zero_or_one w with h | h
  · rw [h, if_pos (show nI 0 = 0 from rfl), if_pos rfl]
  · rw [h, if_neg (show ¬ nI 1 = 0 by decide), if_neg (by decide)]
theorem mHo_hol {w S : Nat} (hw : w < 20) (hS : S < 1024) : mHo (nI w) (nI S) = hol w S := by
  unfold mHo hol
  have e1 : nI w / 2 = nI (w / 2) := pk_div (d := 2) (by omega) (by decide) (by decide)
  have e2 : nI w - nI w / 2 * 2 = nI (w % 2) := pk_rem (d := 2) (by omega) (by decide) (by decide)
  have e3 : nI S >>> (nI (w / 2) &&& 31) = nI (S / 2 ^ (w / 2)) := pk_shrN (by omega) _ (w / 2) (gs_l (w / 2) (by omega))
  have e4 : nI (S / 2 ^ (w / 2)) &&& 1 = nI (S / 2 ^ (w / 2) % 2) := by rw [show (1 : Int32) = nI 1 from rfl, nx_and, Nat.and_one_is_mod]
  have e5 : (1 : Int32) - nI (w % 2) = nI (1 - w % 2) := pk_sub (b := w % 2) (a := 1) (by omega)
  rw [e2, e1, e3, e4, e5, Nat.testBit_eq_decide_div_mod_eq]
  obtain ⟨z, hz⟩ : ∃ z, z = S / 2 ^ (w / 2) % 2 := ⟨_, rfl⟩
  rw [← hz]
  have hz2 : z < 2 := by omega
  have e6 : (nI z = nI (1 - w % 2)) ↔ z = 1 - w % 2 := nI_eq (by omega) (by omega)
  have e7 : decide (nI z = nI (1 - w % 2)) = decide (z = 1 - w % 2) := by simp only [e6]
  rw [e7]
  rcases Nat.mod_two_eq_zero_or_one w with h | h <;> rw [h] <;> rcases (show z = 0 ∨ z = 1 by omega) with q | q <;> rw [q] <;> decide
def satp (K : Bk) (S : Nat) : Prop := ∀ j, j < K.1 → K.2.2.2 j = true → hol (K.2.1 j) S = true → hol (K.2.2.1 j) S = true
theorem sat_ed {K : Bk} {S u v : Nat} (h : satp K S) (e : ed K u v) (hu : hol u S = true) : hol v S = true := by
  obtain ⟨j, hj, ho, ⟨rfl, rfl⟩ | ⟨rfl, rfl⟩⟩ := e
  · exact h j hj ho hu
  · rw [hol_xor] at hu ⊢
    have := h j hj ho
    cases h1 : hol (K.2.1 j) S
    · rfl
    · rw [this h1] at hu; cases hu
theorem sat_fol {K : Bk} {S u v : Nat} (h : satp K S) (e : fol K u v) (hu : hol u S = true) : hol v S = true := by
  obtain ⟨n, e⟩ := e
  induction n generalizing v with
  | zero => cases e; exact hu
  | succ n ih => obtain ⟨x, h1, h2⟩ := e; exact sat_ed h h2 (ih h1)
def Kg (K : Bk) (g : Nat) : Prop := ∀ j, j < K.1 → K.2.1 j < 2 * g ∧ K.2.2.1 j < 2 * g
/-- closed, and never a wish with what is against it -/
def CC (K : Bk) (g : Nat) (E : Nat → Prop) : Prop := (∀ u v, u < 2 * g → E u → fol K u v → E v) ∧ ∀ u, u < 2 * g → E u → ¬ E (u ^^^ 1)
theorem CC_congr {K : Bk} {g : Nat} (hK : Kg K g) {E F : Nat → Prop} (h : ∀ u, u < 2 * g → (E u ↔ F u)) (hE : CC K g E) : CC K g F :=
  ⟨fun u v hu q f => (h v (fol_lt hK hu f)).mp (hE.1 u v hu ((h u hu).mpr q) f), fun u hu q r => hE.2 u hu ((h u hu).mpr q) ((h _ (xor1_lt hu)).mpr r)⟩
theorem CC_add {K : Bk} {g : Nat} {E : Nat → Prop} (hE : CC K g E) {c : Nat} (hc : c < 2 * g) (hn : ¬ E (c ^^^ 1)) (hv : ¬ fol K c (c ^^^ 1)) : CC K g (fun u => E u ∨ fol K c u) := by
  constructor
  · rintro u v hu (q | q) f
    · exact Or.inl (hE.1 u v hu q f)
    · exact Or.inr (fol_trans q f)
  · rintro u hu (q | q) (r | r)
    · exact hE.2 u hu q r
    · have := fol_turn r
      rw [xor1_xor1] at this
      exact hn (hE.1 u _ hu q this)
    · exact hn (hE.1 _ _ (xor1_lt hu) r (fol_turn q))
    · have := fol_turn r
      rw [xor1_xor1] at this
      exact hv (fol_trans q this)
def bn (p : Nat → Bool) : Nat → Nat
  | 0 => 0
  | n + 1 => bn p n + (if p n = true then 2 ^ n else 0)
theorem bn_lt (p : Nat → Bool) : ∀ n, bn p n < 2 ^ n
  | 0 => by simp [bn]
  | n + 1 => by
    have := bn_lt p n
    rw [bn, Nat.pow_succ]
    split <;> omega
theorem bn_bit (p : Nat → Bool) (i : Nat) : ∀ n, (bn p n).testBit i = (decide (i < n) && p i)
  | 0 => by simp [bn]
  | n + 1 => by
    have h := bn_lt p n
    rw [bn]
    by_cases c : p n = true
    · rw [if_pos c, Nat.add_comm, show 2 ^ n + bn p n = 2 ^ n * 1 + bn p n by rw [Nat.mul_one], Nat.testBit_two_pow_mul_add _ h]
      by_cases d : i < n
      · rw [if_pos d, bn_bit p i n]; simp [d, show i < n + 1 by omega]
      · rw [if_neg d]
        by_cases e : i = n
        · subst e; simp [c]
        · have h9 : ¬ i < n + 1 := by omega
          have h8 : Nat.testBit 1 (i - n) = false := by
            rw [show i - n = (i - n - 1) + 1 by omega, Nat.testBit_succ]
            simp
          rw [h8]
          simp [h9]
    · rw [if_neg c, Nat.add_zero, bn_bit p i n]
      by_cases e : i = n
      · subst e; simp; simpa using c
      · by_cases d : i < n
        · simp [d, show i < n + 1 by omega]
        · simp [d, show ¬ i < n + 1 by omega]
theorem nat_bits {g S T : Nat} (hS : S < 2 ^ g) (hT : T < 2 ^ g) (h : ∀ x, x < g → S.testBit x = T.testBit x) : S = T := by
  apply Nat.eq_of_testBit_eq
  intro i
  rcases Nat.lt_or_ge i g with c | c
  · exact h i c
  · have h2 : 2 ^ g ≤ 2 ^ i := Nat.pow_le_pow_right (by decide) c
    rw [Nat.testBit_lt_two_pow (by omega), Nat.testBit_lt_two_pow (by omega)]
/-- a full one is a seating -/
theorem full_sat {K : Bk} {g : Nat} (hK : Kg K g) {E : Nat → Prop} (hE : CC K g E) (hd : ∀ x, x < g → E (2 * x) ∨ E (2 * x + 1)) {S : Nat} (hS : ∀ x, x < g → (S.testBit x = true ↔ E (2 * x))) : satp K S ∧ ∀ u, u < 2 * g → (hol u S = true ↔ E u) := by
  have hu : ∀ u, u < 2 * g → (hol u S = true ↔ E u) := by
    intro u hu
    rcases Nat.mod_two_eq_zero_or_one u with h | h
    · obtain ⟨x, rfl⟩ : ∃ x, u = 2 * x := ⟨u / 2, by omega⟩
      rw [hol_2]; exact hS x (by omega)
    · obtain ⟨x, rfl⟩ : ∃ x, u = 2 * x + 1 := ⟨u / 2, by omega⟩
      rw [hol_21]
      have h1 := hS x (by omega)
      have h2 := hE.2 (2 * x) (by omega)
      rw [xor1_even (by omega)] at h2
      constructor
      · intro q
        rcases hd x (by omega) with r | r
        · rw [h1.mpr r] at q; cases q
        · exact r
      · intro q
        cases hh : S.testBit x
        · rfl
        · exact absurd q (h2 (h1.mp hh))
  refine ⟨fun j hj ho hA => ?_, hu⟩
  obtain ⟨k1, k2⟩ := hK j hj
  exact (hu _ k2).mpr (hE.1 _ _ k1 ((hu _ k1).mp hA) (fol_ed ⟨j, hj, ho, Or.inl ⟨rfl, rfl⟩⟩))
def tornP (K : Bk) (x : Nat) : Prop := fol K (2 * x) (2 * x + 1) ∧ fol K (2 * x + 1) (2 * x)
theorem ext_step {K : Bk} {g : Nat} (hf : ∀ x, x < g → ¬ tornP K x) {E : Nat → Prop} (hE : CC K g E) : ∀ t, t ≤ g → ∃ F : Nat → Prop, CC K g F ∧ (∀ u, E u → F u) ∧ ∀ x, x < t → F (2 * x) ∨ F (2 * x + 1)
  | 0, _ => ⟨E, hE, fun _ h => h, fun x hx => absurd hx (Nat.not_lt_zero x)⟩
  | t + 1, ht => by
    obtain ⟨F, h1, h2, h3⟩ := ext_step hf hE t (by omega)
    have e1 : (2 * t) ^^^ 1 = 2 * t + 1 := xor1_even (by omega)
    have e2 : (2 * t + 1) ^^^ 1 = 2 * t := by rw [xor1_odd (by omega)]; omega
    have done : ∀ G : Nat → Prop, CC K g G → (∀ u, F u → G u) → (G (2 * t) ∨ G (2 * t + 1)) → ∃ F : Nat → Prop, CC K g F ∧ (∀ u, E u → F u) ∧ ∀ x, x < t + 1 → F (2 * x) ∨ F (2 * x + 1) := fun G g1 g2 g3 =>
      ⟨G, g1, fun u q => g2 u (h2 u q), fun x hx => by
        rcases Nat.lt_or_ge x t with c | c
        · exact (h3 x c).imp (g2 _) (g2 _)
        · rw [show x = t by omega]; exact g3⟩
    rcases Classical.em (F (2 * t)) with c1 | c1
    · exact done F h1 (fun _ h => h) (Or.inl c1)
    · rcases Classical.em (F (2 * t + 1)) with c2 | c2
      · exact done F h1 (fun _ h => h) (Or.inr c2)
      · rcases Classical.em (fol K (2 * t) (2 * t + 1)) with c3 | c3
        · have c4 : ¬ fol K (2 * t + 1) (2 * t) := fun q => hf t (by omega) ⟨c3, q⟩
          exact done _ (CC_add h1 (c := 2 * t + 1) (by omega) (by rw [e2]; exact c1) (by rw [e2]; exact c4)) (fun _ h => Or.inl h) (Or.inr (Or.inr (fol_refl _ _)))
        · exact done _ (CC_add h1 (c := 2 * t) (by omega) (by rw [e1]; exact c2) (by rw [e1]; exact c3)) (fun _ h => Or.inl h) (Or.inl (Or.inr (fol_refl _ _)))
/-- what is closed and agrees with itself is part of a seating, if nobody is torn -/
theorem ext_sat {K : Bk} {g : Nat} (hK : Kg K g) (hf : ∀ x, x < g → ¬ tornP K x) {E : Nat → Prop} (hE : CC K g E) : ∃ S, S < 2 ^ g ∧ satp K S ∧ ∀ u, u < 2 * g → E u → hol u S = true := by
  obtain ⟨F, h1, h2, h3⟩ := ext_step hf hE g (Nat.le_refl g)
  have hS : ∀ x, x < g → ((bn (fun x => @decide (F (2 * x)) (Classical.propDecidable _)) g).testBit x = true ↔ F (2 * x)) := fun x hx => by
    rw [bn_bit]
    simp only [hx, decide_true, Bool.true_and]
    exact @decide_eq_true_iff _ (Classical.propDecidable _)
  obtain ⟨g1, g2⟩ := full_sat hK h1 h3 hS
  exact ⟨_, bn_lt _ g, g1, fun u hu q => (g2 u hu).mpr (h2 u q)⟩
theorem sat_untorn {K : Bk} {S : Nat} (h : satp K S) (x : Nat) : ¬ tornP K x := by
  rintro ⟨h1, h2⟩
  cases c : hol (2 * x) S
  · have c2 : hol (2 * x + 1) S = true := by rw [hol_21, ← hol_2, c]; rfl
    rw [sat_fol h h2 c2] at c; cases c
  · have := sat_fol h h1 c
    rw [hol_21, ← hol_2, c] at this; cases this
theorem fits_iff {K : Bk} {g : Nat} (hK : Kg K g) : (∀ x, x < g → ¬ tornP K x) ↔ ∃ S, S < 2 ^ g ∧ satp K S := by
  constructor
  · intro hf
    obtain ⟨S, h1, h2, -⟩ := ext_sat hK hf (E := fun _ => False) ⟨fun _ _ _ h _ => h, fun _ _ h => h.elim⟩
    exact ⟨S, h1, h2⟩
  · rintro ⟨S, -, h⟩ x _
    exact sat_untorn h x
theorem mTo_iff {K : Bk} {x : Nat} : mTo K x = true ↔ tornP K x := by
  unfold mTo tornP
  rw [Bool.and_eq_true, fo_iff, fo_iff, xor1_even (by omega), xor1_odd (by omega), show 2 * x + 1 - 1 = 2 * x by omega]
theorem mCt_nI (K : Bk) : ∀ i, mCt K i = nI (fb_ct (mTo K) i)
  | 0 => rfl
  | i + 1 => by rw [mCt, mCt_nI K i, gB_nI, nI_add, fb_ct_succ]
theorem mCt_0 {K : Bk} {g : Nat} (hg : g ≤ 10) : mCt K g = 0 ↔ ∀ x, x < g → ¬ tornP K x := by
  have h1 := fb_ct_le (mTo K) g
  rw [mCt_nI, show (0 : Int32) = nI 0 from rfl, nI_eq (by omega) (by decide), fb_ct_zero]
  constructor
  · intro h x hx q
    have := h x hx
    rw [mTo_iff.mpr q] at this
    cases this
  · intro h x hx
    rcases hh : mTo K x with _ | _
    · rfl
    · exact absurd (mTo_iff.mp hh) (h x hx)
theorem gFt_iff {K : Bk} {cl : Nat → Int32} (h : gCls K cl) {g : Nat} (hg : g ≤ 10) : gFt cl g = true ↔ ∀ x, x < g → ¬ tornP K x := by
  unfold gFt
  rw [decide_eq_true_iff, cl_CT h g hg, mCt_0 hg]
