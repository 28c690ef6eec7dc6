/-! SHORTEST WAYS, as a table grows: interior wishes below k only. -/
def rkI (K : Bk) (k : Nat) : Nat → Nat → Nat → Prop
  | 0, u, v => u = v
  | d + 1, u, v => ∃ x, rkI K k d u x ∧ ed K x v ∧ (d = 0 ∨ x < k)
theorem rkI_up {K : Bk} {k : Nat} : ∀ {d u v : Nat}, rkI K (k + 1) d u v → rkI K k d u v ∨ ∃ d1 d2, d1 + d2 ≤ d ∧ rkI K k d1 u k ∧ rkI K k d2 k v
  | 0, _, _, h => Or.inl h
  | d + 1, u, v, h => by
    obtain ⟨x, h1, h2, h3⟩ := h
    have one : rkI K k 1 x v := ⟨x, rfl, h2, Or.inl rfl⟩
    rcases Nat.eq_zero_or_pos d with c | c
    · subst c
      exact Or.inl ⟨x, h1, h2, Or.inl rfl⟩
    · have hx : x < k + 1 := h3.resolve_left (by omega)
      rcases rkI_up h1 with q | ⟨d1, d2, q1, q2, q3⟩
      · rcases Nat.lt_or_ge x k with hk | hk
        · exact Or.inl ⟨x, q, h2, Or.inr hk⟩
        · have e : x = k := by omega
          subst e
          exact Or.inr ⟨d, 1, Nat.le_refl _, q, one⟩
      · rcases Nat.lt_or_ge x k with hk | hk
        · exact Or.inr ⟨d1, d2 + 1, by omega, q2, ⟨x, q3, h2, Or.inr hk⟩⟩
        · have e : x = k := by omega
          subst e
          exact Or.inr ⟨d1, 1, by omega, q2, one⟩
theorem rkI_all {K : Bk} {g : Nat} (hK : Kg K g) : ∀ {d u v : Nat}, u < 2 * g → rk K d u v → rkI K (2 * g) d u v
  | 0, _, _, _, h => h
  | d + 1, u, v, hu, h => by
    obtain ⟨x, h1, h2⟩ := h
    exact ⟨x, rkI_all hK hu h1, h2, Or.inr (fol_lt hK hu ⟨d, h1⟩)⟩
theorem rkI_0 {K : Bk} : ∀ {d u v : Nat}, rkI K 0 d u v → (d = 0 ∧ u = v) ∨ (d = 1 ∧ ed K u v)
  | 0, _, _, h => Or.inl ⟨rfl, h⟩
  | d + 1, u, v, h => by
    obtain ⟨x, h1, h2, h3⟩ := h
    rcases h3 with c | c
    · subst c
      have e : u = x := h1
      subst e
      exact Or.inr ⟨rfl, h2⟩
    · exact absurd c (Nat.not_lt_zero x)
/-- a way as a list of places -/
theorem rk_list {K : Bk} : ∀ {d u v : Nat}, rk K d u v → ∃ f : Nat → Nat, f 0 = u ∧ f d = v ∧ ∀ i, i < d → ed K (f i) (f (i + 1))
  | 0, u, _, h => ⟨fun _ => u, rfl, h, fun i hi => absurd hi (Nat.not_lt_zero i)⟩
  | d + 1, u, v, h => by
    obtain ⟨x, h1, h2⟩ := h
    obtain ⟨f, f1, f2, f3⟩ := rk_list h1
    refine ⟨fun i => if i = d + 1 then v else f i, ?_, if_pos rfl, fun i hi => ?_⟩
    · show (if 0 = d + 1 then v else f 0) = u
      rw [if_neg (by omega)]; exact f1
    · show ed K (if i = d + 1 then v else f i) (if i + 1 = d + 1 then v else f (i + 1))
      rw [if_neg (by omega)]
      by_cases c : i = d
      · subst c
        rw [if_pos rfl, f2]; exact h2
      · rw [if_neg (by omega)]; exact f3 i (by omega)
theorem rk_part {K : Bk} {f : Nat → Nat} {d : Nat} (h : ∀ i, i < d → ed K (f i) (f (i + 1))) {i : Nat} : ∀ n, i + n ≤ d → rk K n (f i) (f (i + n))
  | 0, _ => rfl
  | n + 1, hn => ⟨f (i + n), rk_part h n (by omega), h (i + n) (by omega)⟩
theorem rk_short {K : Bk} (hK : Bk20 K) {u v : Nat} (hu : u < 20) (h : fol K u v) : ∃ d, d < 20 ∧ rk K d u v ∧ ∀ m, m < d → ¬ rk K m u v := by
  obtain ⟨d, h1, h2⟩ := pk_least (fun n => rk K n u v) h
  refine ⟨d, ?_, h1, h2⟩
  rcases Nat.lt_or_ge d 20 with c | c
  · exact c
  · exfalso
    obtain ⟨f, f1, f2, f3⟩ := rk_list h1
    have hf : ∀ i, i < d + 1 → f i < 20 := fun i hi => by
      have q := rk_part f3 (i := 0) i (by omega)
      rw [Nat.zero_add, f1] at q
      exact fol_lt20 hK hu ⟨i, q⟩
    obtain ⟨i, j, q1, q2, q3⟩ := fb_twice (n := d + 1) (m := 20) hf (by omega)
    have w1 := rk_part f3 (i := 0) i (by omega)
    have w2 := rk_part f3 (i := j) (d - j) (by omega)
    rw [Nat.zero_add, f1, q3] at w1
    rw [show j + (d - j) = d by omega, f2] at w2
    exact h2 (i + (d - j)) (by omega) (rk_trans w1 w2)
def FA (K : Bk) (n : Nat) (D : Nat → Nat → Nat) : Prop := ∀ a b, a < n → b < n → D a b ≤ 99 ∧ (D a b = 99 ∨ rk K (D a b) a b)
def FB (K : Bk) (n k : Nat) (D : Nat → Nat → Nat) : Prop := ∀ a b d, a < n → b < n → rkI K k d a b → D a b ≤ d
/-- phase k, all pairs ahead of (a, b) done; D0 as the phase found it -/
def FC (K : Bk) (n k a b : Nat) (D0 D : Nat → Nat → Nat) : Prop := FA K n D ∧ (∀ x y, x < n → y < n → D x y ≤ D0 x y) ∧ ∀ x y, x < n → y < n → (x < a ∨ (x = a ∧ y < b)) → D x y ≤ D0 x k + D0 k y
theorem FC_start {K : Bk} {n k : Nat} {D : Nat → Nat → Nat} (h : FA K n D) : FC K n k 0 0 D D := ⟨h, fun _ _ _ _ => Nat.le_refl _, fun x y _ _ q => by omega⟩
theorem FC_row {K : Bk} {n k a : Nat} {D0 D : Nat → Nat → Nat} (h : FC K n k a n D0 D) : FC K n k (a + 1) 0 D0 D := ⟨h.1, h.2.1, fun x y hx hy q => h.2.2 x y hx hy (by omega)⟩
theorem FC_step {K : Bk} {n k a b : Nat} {D0 D : Nat → Nat → Nat} (h : FC K n k a b D0 D) (hk : k < n) (ha : a < n) (hb : b < n) : FC K n k a (b + 1) D0 (D2 D a b (min (D a b) (D a k + D k b))) := by
  obtain ⟨h1, h2, h3⟩ := h
  refine ⟨fun x y hx hy => ?_, fun x y hx hy => ?_, fun x y hx hy q => ?_⟩
  · by_cases c : x = a ∧ y = b
    · obtain ⟨rfl, rfl⟩ := c
      rw [D2_at]
      have q1 := h1 x y hx hy
      rcases Nat.le_total (D x y) (D x k + D k y) with m | m
      · rw [Nat.min_eq_left m]; exact q1
      · rw [Nat.min_eq_right m]
        refine ⟨by omega, ?_⟩
        rcases Nat.lt_or_ge (D x k + D k y) 99 with z | z
        · have q2 := (h1 x k hx hk).2.resolve_left (by omega)
          have q3 := (h1 k y hk hy).2.resolve_left (by omega)
          exact Or.inr (rk_trans q2 q3)
        · exact Or.inl (by omega)
    · rw [D2_ne c]; exact h1 x y hx hy
  · by_cases c : x = a ∧ y = b
    · obtain ⟨rfl, rfl⟩ := c
      rw [D2_at]
      have := h2 x y hx hy
      omega
    · rw [D2_ne c]; exact h2 x y hx hy
  · by_cases c : x = a ∧ y = b
    · obtain ⟨rfl, rfl⟩ := c
      rw [D2_at]
      have := h2 x k hx hk
      have := h2 k y hk hy
      omega
    · rw [D2_ne c]; exact h3 x y hx hy (by omega)
theorem FC_end {K : Bk} {n k : Nat} {D0 D : Nat → Nat → Nat} (h : FC K n k n 0 D0 D) (hk : k < n) (h0 : FB K n k D0) : FB K n (k + 1) D := fun a b d ha hb q => by
  rcases rkI_up q with q | ⟨d1, d2, q1, q2, q3⟩
  · exact Nat.le_trans (h.2.1 a b ha hb) (h0 a b d ha hb q)
  · have p1 := h.2.2 a b ha hb (Or.inl ha)
    have p2 := h0 a k d1 ha hk q2
    have p3 := h0 k b d2 hk hb q3
    omega
/-- the table is told: just as far as it is -/
def FT (K : Bk) (n : Nat) (D : Nat → Nat → Nat) : Prop := ∀ a b, a < n → b < n → (fo K a b = true ∧ D a b < 20 ∧ di K a b = nI (D a b)) ∨ (fo K a b = false ∧ D a b = 99 ∧ di K a b = -1)
theorem F_told {K : Bk} {g : Nat} (hg : g ≤ 10) (hK : Kg K g) {D : Nat → Nat → Nat} (h1 : FA K (2 * g) D) (h2 : FB K (2 * g) (2 * g) D) : FT K (2 * g) D := fun a b ha hb => by
  have hK20 : Bk20 K := fun j hj => by have := hK j hj; omega
  rcases Classical.em (fol K a b) with c | c
  · obtain ⟨d, q1, q2, q3⟩ := rk_short hK20 (by omega) c
    have p1 := h2 a b d ha hb (rkI_all hK ha q2)
    have p2 := (h1 a b ha hb).2.resolve_left (by omega)
    have p3 : D a b = d := by
      rcases Nat.lt_or_ge (D a b) d with z | z
      · exact absurd p2 (q3 _ z)
      · omega
    obtain ⟨n, w1, w2, w3⟩ := (di_spec K a b).1 c
    have p4 : n = d := by
      rcases Nat.lt_trichotomy n d with z | z | z
      · exact absurd w2 (q3 _ z)
      · exact z
      · exact absurd q2 (w3 _ z)
    exact Or.inl ⟨fo_iff.mpr c, by omega, by rw [w1, p4, p3]⟩
  · refine Or.inr ⟨?_, ?_, (di_spec K a b).2 c⟩
    · cases hf : fo K a b
      · rfl
      · exact absurd (fo_iff.mp hf) c
    · rcases (h1 a b ha hb).2 with q | q
      · exact q
      · exact absurd ⟨_, q⟩ c
/-- the table as it is begun, i rules looked at -/
def edI (K : Bk) (i u v : Nat) : Prop := ∃ j, j < i ∧ K.2.2.2 j = true ∧ ed1 K j u v
def FR (K : Bk) (i n : Nat) (D : Nat → Nat → Nat) : Prop := ∀ a b, a < n → b < n → (a = b ∧ D a b = 0) ∨ (a ≠ b ∧ D a b = 1 ∧ edI K i a b) ∨ (a ≠ b ∧ D a b = 99 ∧ ¬ edI K i a b)
theorem edI_all {K : Bk} {u v : Nat} : edI K K.1 u v ↔ ed K u v := Iff.rfl
theorem FR_FA {K : Bk} {n : Nat} {D : Nat → Nat → Nat} (h : FR K K.1 n D) : FA K n D := fun a b ha hb => by
  rcases h a b ha hb with ⟨q1, q2⟩ | ⟨q1, q2, q3⟩ | ⟨q1, q2, q3⟩
  · exact ⟨by omega, Or.inr (by rw [q2]; exact q1)⟩
  · exact ⟨by omega, Or.inr (by rw [q2]; exact ⟨a, rfl, edI_all.mp q3⟩)⟩
  · exact ⟨by omega, Or.inl q2⟩
theorem FR_FB {K : Bk} {n : Nat} {D : Nat → Nat → Nat} (h : FR K K.1 n D) : FB K n 0 D := fun a b d ha hb q => by
  rcases rkI_0 q with ⟨p1, p2⟩ | ⟨p1, p2⟩
  · rcases h a b ha hb with ⟨q1, q2⟩ | ⟨q1, q2, q3⟩ | ⟨q1, q2, q3⟩
    · omega
    · exact absurd p2 q1
    · exact absurd p2 q1
  · rcases h a b ha hb with ⟨q1, q2⟩ | ⟨q1, q2, q3⟩ | ⟨q1, q2, q3⟩
    · omega
    · omega
    · exact absurd (edI_all.mpr p2) q3
/-- the two places of one rule -/
def Dr (D : Nat → Nat → Nat) (a b : Nat) : Nat → Nat → Nat := if 1 < D a b then D2 D a b 1 else D
theorem Dr_at {D : Nat → Nat → Nat} {a b x y : Nat} : Dr D a b x y = if x = a ∧ y = b then (if 1 < D a b then 1 else D a b) else D x y := by
  unfold Dr
  by_cases c : x = a ∧ y = b
  · obtain ⟨rfl, rfl⟩ := c
    rw [if_pos (⟨rfl, rfl⟩ : x = x ∧ y = y)]
    by_cases d : 1 < D x y
    · rw [if_pos d, if_pos d]; exact D2_at D x y 1
    · rw [if_neg d, if_neg d]
  · rw [if_neg c]
    by_cases d : 1 < D a b
    · rw [if_pos d]; exact D2_ne c
    · rw [if_neg d]
theorem FR_skip {K : Bk} {i n : Nat} {D : Nat → Nat → Nat} (h : FR K i n D) (ho : K.2.2.2 i = false) : FR K (i + 1) n D := fun a b ha hb => by
  have e : edI K (i + 1) a b ↔ edI K i a b := ⟨fun ⟨j, q1, q2, q3⟩ => by
    by_cases c : j = i
    · subst c; rw [ho] at q2; cases q2
    · exact ⟨j, by omega, q2, q3⟩, fun ⟨j, q1, q2, q3⟩ => ⟨j, by omega, q2, q3⟩⟩
  rw [e]; exact h a b ha hb
theorem FR_rule {K : Bk} {i n : Nat} {D : Nat → Nat → Nat} (h : FR K i n D) (ho : K.2.2.2 i = true) (hne : K.2.1 i ≠ K.2.2.1 i) (h1 : K.2.1 i < n) (h2 : K.2.2.1 i < n) (h3 : K.2.1 i ^^^ 1 < n) (h4 : K.2.2.1 i ^^^ 1 < n) :
    FR K (i + 1) n (Dr (Dr D (K.2.1 i) (K.2.2.1 i)) (K.2.2.1 i ^^^ 1) (K.2.1 i ^^^ 1)) := fun a b ha hb => by
  have hne2 : K.2.2.1 i ^^^ 1 ≠ K.2.1 i ^^^ 1 := fun q => hne (by have := congrArg (· ^^^ 1) q; simp only [xor1_xor1] at this; exact this.symm)
  have e : edI K (i + 1) a b ↔ edI K i a b ∨ ((a = K.2.1 i ∧ b = K.2.2.1 i) ∨ (a = K.2.2.1 i ^^^ 1 ∧ b = K.2.1 i ^^^ 1)) := by
    constructor
    · rintro ⟨j, q1, q2, q3⟩
      by_cases c : j = i
      · subst c
        right
        rcases q3 with ⟨r1, r2⟩ | ⟨r1, r2⟩
        · exact Or.inl ⟨r1.symm, r2.symm⟩
        · exact Or.inr ⟨r1.symm, r2.symm⟩
      · exact Or.inl ⟨j, by omega, q2, q3⟩
    · rintro (⟨j, q1, q2, q3⟩ | q)
      · exact ⟨j, by omega, q2, q3⟩
      · refine ⟨i, by omega, ho, ?_⟩
        rcases q with ⟨r1, r2⟩ | ⟨r1, r2⟩
        · exact Or.inl ⟨r1.symm, r2.symm⟩
        · exact Or.inr ⟨r1.symm, r2.symm⟩
  have hd := h a b ha hb
  have w : ∀ {x y : Nat}, x < n → y < n → D x y = 0 ∧ x = y ∨ D x y = 1 ∨ D x y = 99 := fun {x y} hx hy => by
    rcases h x y hx hy with ⟨q1, q2⟩ | ⟨q1, q2, q3⟩ | ⟨q1, q2, q3⟩
    · exact Or.inl ⟨q2, q1⟩
    · exact Or.inr (Or.inl q2)
    · exact Or.inr (Or.inr q2)
  rw [e, Dr_at, Dr_at, Dr_at]
  by_cases c1 : a = K.2.2.1 i ^^^ 1 ∧ b = K.2.1 i ^^^ 1
  · rw [if_pos c1]
    have hab : a ≠ b := by rw [c1.1, c1.2]; exact hne2
    refine Or.inr (Or.inl ⟨hab, ?_, Or.inr (Or.inr c1)⟩)
    by_cases c2 : K.2.2.1 i ^^^ 1 = K.2.1 i ∧ K.2.1 i ^^^ 1 = K.2.2.1 i
    · rw [if_pos c2]
      rcases w h1 h2 with ⟨-, q⟩ | q | q
      · exact absurd q hne
      · simp [q]
      · simp [q]
    · rw [if_neg c2]
      have := w h4 h3
      split <;> omega
  · rw [if_neg c1]
    by_cases c2 : a = K.2.1 i ∧ b = K.2.2.1 i
    · rw [if_pos c2]
      have hab : a ≠ b := by rw [c2.1, c2.2]; exact hne
      refine Or.inr (Or.inl ⟨hab, ?_, Or.inr (Or.inl c2)⟩)
      have := w h1 h2
      split <;> omega
    · rw [if_neg c2]
      rcases hd with ⟨q1, q2⟩ | ⟨q1, q2, q3⟩ | ⟨q1, q2, q3⟩
      · exact Or.inl ⟨q1, q2⟩
      · exact Or.inr (Or.inl ⟨q1, q2, Or.inl q3⟩)
      · refine Or.inr (Or.inr ⟨q1, q2, fun q => ?_⟩)
        rcases q with q | q | q
        · exact q3 q
        · exact c2 q
        · exact c1 q
