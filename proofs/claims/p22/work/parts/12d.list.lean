/-! THE LIST OF SEATINGS: entry by entry closed, agreeing with itself; each seating has just one. -/
def SB (g : Nat) (x : Int32) (S : Nat) : Prop := ∀ u, u < 2 * g → bt x u = true → hol u S = true
def EN (K : Bk) (g : Nat) (x : Int32) : Prop := CC K g (fun u => bt x u = true) ∧ ∀ u, 2 * g ≤ u → u < 32 → bt x u = false
def LI (K : Bk) (g : Nat) (se : Nat → Int32) (c : Nat) (dec : Nat → Nat → Prop) : Prop :=
  (∀ i, i < c → EN K g (se i) ∧ ∀ x, dec i x → bt (se i) (2 * x) = true ∨ bt (se i) (2 * x + 1) = true) ∧
  (∀ S, S < 2 ^ g → satp K S → ∃ i, i < c ∧ SB g (se i) S) ∧
  ∀ S, S < 2 ^ g → satp K S → ∀ i i', i < c → i' < c → SB g (se i) S → SB g (se i') S → i = i'
theorem LI_dec {K : Bk} {g : Nat} {se : Nat → Int32} {c : Nat} {dec dec' : Nat → Nat → Prop} (h : LI K g se c dec) (hd : ∀ i x, i < c → dec' i x → dec i x ∨ bt (se i) (2 * x) = true ∨ bt (se i) (2 * x + 1) = true) : LI K g se c dec' :=
  ⟨fun i hi => ⟨(h.1 i hi).1, fun x q => (hd i x hi q).elim ((h.1 i hi).2 x) id⟩, h.2.1, h.2.2⟩
theorem LI_set {K : Bk} {g : Nat} {se : Nat → Int32} {c : Nat} {dec dec' : Nat → Nat → Prop} (h : LI K g se c dec) {i : Nat} (hi : i < c) {y : Int32} (hy : EN K g y) (hyd : ∀ x, dec' i x → bt y (2 * x) = true ∨ bt y (2 * x + 1) = true)
    (hd : ∀ j x, j < c → j ≠ i → dec' j x → dec j x) (hS : ∀ S, satp K S → (SB g y S ↔ SB g (se i) S)) : LI K g (upd se i y) c dec' := by
  have hq : ∀ S, satp K S → ∀ j, (SB g (upd se i y j) S ↔ SB g (se j) S) := fun S hs j => by
    by_cases e : j = i
    · subst e; simp only [upd, if_true]; exact hS S hs
    · simp [upd, e]
  refine ⟨fun j hj => ?_, fun S h1 h2 => ?_, fun S h1 h2 j j' hj hj' q q' => ?_⟩
  · by_cases e : j = i
    · subst e; simp only [upd, if_true]; exact ⟨hy, hyd⟩
    · simp only [upd, e, if_false]; exact ⟨(h.1 j hj).1, fun x q => (h.1 j hj).2 x (hd j x hj e q)⟩
  · obtain ⟨j, hj, q⟩ := h.2.1 S h1 h2
    exact ⟨j, hj, (hq S h2 j).mpr q⟩
  · exact h.2.2 S h1 h2 j j' hj hj' ((hq S h2 j).mp q) ((hq S h2 j').mp q')
theorem LI_two {K : Bk} {g : Nat} {se : Nat → Int32} {c : Nat} {dec dec' : Nat → Nat → Prop} (h : LI K g se c dec) {i : Nat} (hi : i < c) {y z : Int32} (hy : EN K g y) (hz : EN K g z) (hyd : ∀ x, dec' i x → bt y (2 * x) = true ∨ bt y (2 * x + 1) = true) (hzd : ∀ x, dec' c x → bt z (2 * x) = true ∨ bt z (2 * x + 1) = true)
    (hd : ∀ j x, j < c → j ≠ i → dec' j x → dec j x) (hS : ∀ S, satp K S → (SB g (se i) S ↔ SB g y S ∨ SB g z S)) (hN : ∀ S, SB g y S → SB g z S → False) : LI K g (upd (upd se i y) c z) (c + 1) dec' := by
  have ei : ∀ j, j < c → upd (upd se i y) c z j = if j = i then y else se j := fun j hj => by
    have : ¬ j = c := by omega
    simp [upd, this]
  have ec : upd (upd se i y) c z c = z := by simp [upd]
  refine ⟨fun j hj => ?_, fun S h1 h2 => ?_, fun S h1 h2 j j' hj hj' q q' => ?_⟩
  · rcases Nat.lt_or_ge j c with c1 | c1
    · rw [ei j c1]
      by_cases e : j = i
      · subst e; rw [if_pos rfl]; exact ⟨hy, hyd⟩
      · rw [if_neg e]; exact ⟨(h.1 j c1).1, fun x q => (h.1 j c1).2 x (hd j x c1 e q)⟩
    · have e : j = c := by omega
      subst e; rw [ec]; exact ⟨hz, hzd⟩
  · obtain ⟨j, hj, q⟩ := h.2.1 S h1 h2
    by_cases e : j = i
    · subst e
      rcases (hS S h2).mp q with q | q
      · exact ⟨j, by omega, by rw [ei j hj, if_pos rfl]; exact q⟩
      · exact ⟨c, by omega, by rw [ec]; exact q⟩
    · exact ⟨j, by omega, by rw [ei j hj, if_neg e]; exact q⟩
  · have key : ∀ j, j < c + 1 → SB g (upd (upd se i y) c z j) S → (j < c ∧ SB g (se j) S ∧ (j = i → SB g y S)) ∨ (j = c ∧ SB g z S ∧ SB g (se i) S) := fun j hj q => by
      rcases Nat.lt_or_ge j c with c1 | c1
      · rw [ei j c1] at q
        by_cases e : j = i
        · subst e; rw [if_pos rfl] at q; exact Or.inl ⟨c1, (hS S h2).mpr (Or.inl q), fun _ => q⟩
        · rw [if_neg e] at q; exact Or.inl ⟨c1, q, fun r => absurd r e⟩
      · have e : j = c := by omega
        subst e; rw [ec] at q; exact Or.inr ⟨rfl, q, (hS S h2).mpr (Or.inr q)⟩
    rcases key j hj q with ⟨a1, a2, a3⟩ | ⟨a1, a2, a3⟩ <;> rcases key j' hj' q' with ⟨b1, b2, b3⟩ | ⟨b1, b2, b3⟩
    · exact h.2.2 S h1 h2 j j' a1 b1 a2 b2
    · have e := h.2.2 S h1 h2 j i a1 hi a2 b3
      exact (hN S (a3 e) b2).elim
    · have e := h.2.2 S h1 h2 j' i b1 hi b2 a3
      exact (hN S (b3 e) a2).elim
    · omega
/-- an entry with all that follows from one more wish -/
theorem EN_or {K : Bk} {g : Nat} (hg : g ≤ 10) (hK : Kg K g) {cl : Nat → Int32} (hc : gCls K cl) {x : Int32} (hx : EN K g x) {w : Nat} (hw : w < 2 * g) (hn : bt x (w ^^^ 1) = false) (hv : ¬ fol K w (w ^^^ 1)) : EN K g (x ||| cl w) := by
  have hu : ∀ u, u < 32 → (bt (x ||| cl w) u = true ↔ bt x u = true ∨ fol K w u) := fun u hu => by
    rw [b_or, Bool.or_eq_true, hc w u (by omega) hu]
  refine ⟨CC_congr hK (fun u h => (hu u (by omega)).symm) (CC_add hx.1 hw (by simp [hn]) hv), fun u h1 h2 => ?_⟩
  rcases hh : bt (x ||| cl w) u with _ | _
  · rfl
  · rcases (hu u h2).mp hh with q | q
    · rw [hx.2 u h1 h2] at q; cases q
    · have := fol_lt hK hw q; omega
theorem SB_or {K : Bk} {g : Nat} (hg : g ≤ 10) {cl : Nat → Int32} (hc : gCls K cl) {x : Int32} {w : Nat} (hw : w < 2 * g) {S : Nat} (hS : satp K S) : SB g (x ||| cl w) S ↔ SB g x S ∧ hol w S = true := by
  constructor
  · intro h
    refine ⟨fun u hu q => h u hu (by rw [b_or, q]; rfl), h w hw ?_⟩
    rw [b_or, (hc w w (by omega) (by omega)).mpr (fol_refl K w), Bool.or_true]
  · rintro ⟨h1, h2⟩ u hu q
    rw [b_or, Bool.or_eq_true] at q
    rcases q with q | q
    · exact h1 u hu q
    · exact sat_fol hS ((hc w u (by omega) (by omega)).mp q) h2
/-- one guest settled in the first i entries -/
theorem settle_LI {K : Bk} {g : Nat} (hg : g ≤ 10) (hK : Kg K g) {cl : Nat → Int32} (hc : gCls K cl) {t : Nat} (ht : t < g) {se : Nat → Int32} {c : Nat} (hc5 : c ≤ 512) (hT : 0 < c → ¬ tornP K t) (h0 : LI K g se c (fun _ x => x < t)) :
    ∀ i, i ≤ c → LI K g (gSt cl (nI (2 * t)) se c i).1 (gSt cl (nI (2 * t)) se c i).2 (fun j x => x < t ∨ (x = t ∧ (j < i ∨ c ≤ j))) ∧ c ≤ (gSt cl (nI (2 * t)) se c i).2 ∧ (gSt cl (nI (2 * t)) se c i).2 ≤ c + i
  | 0, _ => by
    refine ⟨LI_dec h0 (fun i x hi q => ?_), Nat.le_refl _, Nat.le_refl _⟩
    have hi : i < c := hi
    rcases q with q | ⟨-, q⟩
    · exact Or.inl q
    · omega
  | i + 1, hi => by
    obtain ⟨ih, ih2, ih3⟩ := settle_LI hg hK hc ht hc5 hT h0 i (by omega)
    obtain ⟨s, hs⟩ : ∃ z, z = (gSt cl (nI (2 * t)) se c i).1 := ⟨_, rfl⟩
    obtain ⟨k, hk⟩ : ∃ z, z = (gSt cl (nI (2 * t)) se c i).2 := ⟨_, rfl⟩
    rw [← hs, ← hk] at ih
    rw [← hk] at ih2 ih3
    have hik : i < k := by omega
    have e1 : (2 * t) ^^^ 1 = 2 * t + 1 := xor1_even (by omega)
    have e2 : (2 * t + 1) ^^^ 1 = 2 * t := by rw [xor1_odd (by omega)]; omega
    have hx := (ih.1 i hik).1
    have hxd := (ih.1 i hik).2
    have hT := hT (by omega)
    have hd0 : ∀ j x, j < k → j ≠ i → (x < t ∨ (x = t ∧ (j < i + 1 ∨ c ≤ j))) → (x < t ∨ (x = t ∧ (j < i ∨ c ≤ j))) := fun j x hj hne q => by omega
    rw [gSt, ← hs, ← hk, gAt_in (by omega) (by decide), nI_xor1, e1, gHas_bt (by omega), gHas_bt (by omega), gAt_in (by omega) (by decide), gAt_in (by omega) (by decide)]
    by_cases c1 : bt (s i) (2 * t) = true ∨ bt (s i) (2 * t + 1) = true
    · rw [if_pos c1]
      have hp : gSt cl (nI (2 * t)) se c i = (s, k) := by rw [hs, hk]
      rw [hp]
      refine ⟨LI_dec ih (fun j x hj q => ?_), ih2, by show k ≤ _; omega⟩
      by_cases e : j = i
      · subst e
        rcases q with q | ⟨q, -⟩
        · exact Or.inl (Or.inl q)
        · subst q; exact Or.inr c1
      · exact Or.inl (hd0 j x hj e q)
    · rw [if_neg c1]
      have n1 : bt (s i) (2 * t) = false := by
        rcases hh : bt (s i) (2 * t) with _ | _
        · rfl
        · exact absurd (Or.inl hh) c1
      have n2 : bt (s i) (2 * t + 1) = false := by
        rcases hh : bt (s i) (2 * t + 1) with _ | _
        · rfl
        · exact absurd (Or.inr hh) c1
      have w1 : gVain 20 cl (nI (2 * t)) = true ↔ fol K (2 * t) (2 * t + 1) := by rw [cl_vain hc (by omega), e1, fo_iff]
      have w2 : gVain 20 cl (nI (2 * t + 1)) = true ↔ fol K (2 * t + 1) (2 * t) := by rw [cl_vain hc (by omega), e2, fo_iff]
      have yes : ∀ w, w < 2 * g → w < 20 → bt (s i ||| cl w) w = true := fun w hw _ => by
        rw [b_or, (hc w w (by omega) (by omega)).mpr (fol_refl K w), Bool.or_true]
      have keep : ∀ w x, x < t → bt (s i ||| cl w) (2 * x) = true ∨ bt (s i ||| cl w) (2 * x + 1) = true := fun w x hx => by
        rcases hxd x (Or.inl hx) with q | q
        · exact Or.inl (by rw [b_or, q]; rfl)
        · exact Or.inr (by rw [b_or, q]; rfl)
      by_cases c2 : gVain 20 cl (nI (2 * t)) = true
      · rw [if_pos c2, gPut_in (by omega) (by decide)]
        have c3 := w1.mp c2
        have c4 : ¬ fol K (2 * t + 1) (2 * t) := fun q => hT ⟨c3, q⟩
        refine ⟨LI_set ih hik (EN_or hg hK hc hx (w := 2 * t + 1) (by omega) (by rw [e2]; exact n1) (by rw [e2]; exact c4)) (fun x q => ?_) hd0 (fun S hS => ?_), ih2, by show k ≤ _; omega⟩
        · rcases q with q | ⟨q, -⟩
          · exact keep _ x q
          · subst q; exact Or.inr (yes _ (by omega) (by omega))
        · rw [SB_or hg hc (by omega) hS]
          refine ⟨fun q => q.1, fun q => ⟨q, ?_⟩⟩
          cases hh : hol (2 * t) S
          · rw [hol_21, ← hol_2, hh]; rfl
          · exact sat_fol hS c3 hh
      · rw [if_neg c2]
        have c3 : ¬ fol K (2 * t) (2 * t + 1) := fun q => c2 (w1.mpr q)
        have y1 := EN_or hg hK hc hx (w := 2 * t) (by omega) (by rw [e1]; exact n2) (by rw [e1]; exact c3)
        by_cases c4 : gVain 20 cl (nI (2 * t + 1)) = true
        · rw [if_pos c4, gPut_in (by omega) (by decide)]
          have c5 := w2.mp c4
          refine ⟨LI_set ih hik y1 (fun x q => ?_) hd0 (fun S hS => ?_), ih2, by show k ≤ _; omega⟩
          · rcases q with q | ⟨q, -⟩
            · exact keep _ x q
            · subst q; exact Or.inl (yes _ (by omega) (by omega))
          · rw [SB_or hg hc (by omega) hS]
            refine ⟨fun q => q.1, fun q => ⟨q, ?_⟩⟩
            cases hh : hol (2 * t) S
            · have h21 : hol (2 * t + 1) S = true := by rw [hol_21, ← hol_2, hh]; rfl
              rw [sat_fol hS c5 h21] at hh; cases hh
            · rfl
        · rw [if_neg c4, gPut_in (by omega) (by decide), gPut_in (by omega) (by decide)]
          have c5 : ¬ fol K (2 * t + 1) (2 * t) := fun q => c4 (w2.mpr q)
          have y2 := EN_or hg hK hc hx (w := 2 * t + 1) (by omega) (by rw [e2]; exact n1) (by rw [e2]; exact c5)
          refine ⟨LI_two ih hik y1 y2 (fun x q => ?_) (fun x q => ?_) hd0 (fun S hS => ?_) (fun S q r => ?_), by show c ≤ k + 1; omega, by show k + 1 ≤ _; omega⟩
          · rcases q with q | ⟨q, -⟩
            · exact keep _ x q
            · subst q; exact Or.inl (yes _ (by omega) (by omega))
          · rcases q with q | ⟨q, -⟩
            · exact keep _ x q
            · subst q; exact Or.inr (yes _ (by omega) (by omega))
          · rw [SB_or hg hc (by omega) hS, SB_or hg hc (by omega) hS]
            constructor
            · intro q
              cases hh : hol (2 * t) S
              · exact Or.inr ⟨q, by rw [hol_21, ← hol_2, hh]; rfl⟩
              · exact Or.inl ⟨q, rfl⟩
            · rintro (q | q)
              · exact q.1
              · exact q.1
          · have r1 := q (2 * t) (by omega) (yes _ (by omega) (by omega))
            have r2 := r (2 * t + 1) (by omega) (yes _ (by omega) (by omega))
            rw [hol_21, ← hol_2, r1] at r2; cases r2
theorem LI_zero {K : Bk} {g : Nat} (hK : Kg K g) {se : Nat → Int32} {dec : Nat → Nat → Prop} (hT : ¬ ∀ x, x < g → ¬ tornP K x) : LI K g se 0 dec :=
  ⟨fun i hi => absurd hi (Nat.not_lt_zero i), fun S h1 h2 => absurd ((fits_iff hK).mpr ⟨S, h1, h2⟩) hT, fun S h1 h2 => absurd ((fits_iff hK).mpr ⟨S, h1, h2⟩) hT⟩
theorem list_LI {K : Bk} {g : Nat} (hg : g ≤ 10) (hK : Kg K g) {cl : Nat → Int32} (hc : gCls K cl) (se : Nat → Int32) : ∀ t, t ≤ g → LI K g (gLs cl se g t).1 (gLs cl se g t).2 (fun _ x => x < t) ∧ (gLs cl se g t).2 ≤ 2 ^ t ∧ ((0 < (gLs cl se g t).2) → ∀ x, x < g → ¬ tornP K x)
  | 0, _ => by
    have hf := gFt_iff hc hg
    rw [gLs, gF0]
    by_cases c : gFt cl g = true
    · rw [if_pos c]
      have e : gPut 1024 se 0 0 = upd se 0 0 := gPut_in (j := 0) (by decide) (by decide) se 0
      rw [e]
      refine ⟨⟨fun i hi => ?_, fun S h1 h2 => ⟨0, Nat.zero_lt_one, fun u hu q => ?_⟩, fun S h1 h2 i i' hi hi' _ _ => by have hi : i < 1 := hi; have hi' : i' < 1 := hi'; omega⟩, Nat.le_refl _, fun _ => hf.mp c⟩
      · have hi : i < 1 := hi
        have e : i = 0 := by omega
        subst e
        refine ⟨⟨⟨fun u v hu q => ?_, fun u hu q => ?_⟩, fun u h1 h2 => ?_⟩, fun x hx => absurd hx (Nat.not_lt_zero x)⟩
        · simp [upd, b_0] at q
        · simp [upd, b_0] at q
        · simp [upd, b_0]
      · simp [upd, b_0] at q
    · rw [if_neg c]
      exact ⟨LI_zero hK (fun q => c (hf.mpr q)), Nat.zero_le _, fun q => absurd q (Nat.lt_irrefl 0)⟩
  | t + 1, ht => by
    obtain ⟨h1, h2, h3⟩ := list_LI hg hK hc se t (by omega)
    have h512 : 2 ^ t ≤ 512 := Nat.pow_le_pow_right (n := 2) (by decide) (show t ≤ 9 by omega)
    have hs := settle_LI hg hK hc (t := t) (by omega) (by omega) (fun q => h3 q t (by omega)) h1 _ (Nat.le_refl _)
    rw [gLs, show (2 : Int32) * nI t = nI (2 * t) from pk_mul 2 t]
    refine ⟨LI_dec hs.1 (fun i x hi q => Or.inl ?_), by rw [Nat.pow_succ]; omega, fun q => ?_⟩
    · rcases Nat.lt_or_ge x t with c | c
      · exact Or.inl c
      · have q : x < t + 1 := q
        exact Or.inr ⟨by omega, by omega⟩
    · rcases Nat.lt_or_ge 0 (gLs cl se g t).2 with c | c
      · exact h3 c
      · exfalso
        have := hs.2.2
        omega
