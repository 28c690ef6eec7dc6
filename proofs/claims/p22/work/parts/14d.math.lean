/-! BY HAND: bits, wishes, sets, as the law's own helpers read them. -/
theorem qb_t {S x : Nat} (h : nI (S / 2 ^ x % 2) = 1) : S.testBit x = true := by
  have q := (nI_eq (a := S / 2 ^ x % 2) (b := 1) (by omega) (by decide)).mp h
  rw [Nat.testBit_eq_decide_div_mod_eq, decide_eq_true_iff]
  exact q
theorem qb_f {S x : Nat} (h : ¬ nI (S / 2 ^ x % 2) = 1) : S.testBit x = false := by
  rw [Nat.testBit_eq_decide_div_mod_eq, decide_eq_false_iff_not]
  intro q
  exact h (by rw [q]; rfl)
theorem gB_eq1 {b : Bool} (h : gB b = 1) : b = true := by cases b <;> first | rfl | exact absurd h (by decide)
theorem gB_ne1 {b : Bool} (h : ¬ gB b = 1) : b = false := by cases b <;> first | rfl | exact absurd (show gB true = 1 from rfl) h
theorem gB_eq0 {b : Bool} (h : gB b = 0) : b = false := gB_f h
theorem gB_same {a b : Bool} (h : gB a = gB b) : a = b := by cases a <;> cases b <;> first | rfl | exact absurd h (by decide)
theorem qh_a {S w : Nat} {b : Bool} (hw : ¬ w % 2 = 0) (hb : S.testBit (w / 2) = b) : hol w S = !b := by
  unfold hol; rw [if_neg hw, hb]
theorem qh_b {S w : Nat} {b : Bool} (hw : w % 2 = 0) (hb : S.testBit (w / 2) = b) : hol w S = b := by
  unfold hol; rw [if_pos hw, hb]
/-- rule j is broken by the set S -/
def qP (K : Bk) (S j : Nat) : Bool := K.2.2.2 j && hol (K.2.1 j) S && !hol (K.2.2.1 j) S
theorem qP_sat {K : Bk} (hr : K.1 ≤ 30) {S : Nat} : gFst (qP K S) K.1 = -1 ↔ satp K S := by
  rw [gFst_iff (by omega)]
  constructor
  · intro h j hj ho h1
    have q := h j hj
    unfold qP at q
    rw [ho, h1] at q
    cases hh : hol (K.2.2.1 j) S
    · rw [hh] at q; exact absurd q (by decide)
    · rfl
  · intro h j hj
    unfold qP
    cases ho : K.2.2.2 j
    · rfl
    · cases h1 : hol (K.2.1 j) S
      · rfl
      · rw [h j hj ho h1]; rfl
theorem gFst_cases (p : Nat → Bool) {n : Nat} (hn : n < 2 ^ 31) : gFst p n = -1 ∨ ∃ j, j < n ∧ gFst p n = nI j ∧ p j = true ∧ ∀ i, i < j → p i = false := by
  rcases Classical.em (∃ j, j < n ∧ p j = true) with ⟨j, hj, hp⟩ | h
  · obtain ⟨i, h1, h2⟩ := pk_least (fun i => p i = true) ⟨j, hp⟩
    have hi : i ≤ j := Nat.not_lt.mp (fun q => h2 j q hp)
    have h3 : ∀ k, k < i → p k = false := fun k hk => by
      cases hk2 : p k
      · rfl
      · exact absurd hk2 (h2 k hk)
    exact Or.inr ⟨i, by omega, gFst_hit (by omega) h1 h3 (by omega), h1, h3⟩
  · exact Or.inl (gFst_no (fun j hj => by
      cases hp : p j
      · rfl
      · exact absurd ⟨j, hj, hp⟩ h))
theorem qP_neg {K : Bk} (hr : K.1 ≤ 30) {S : Nat} (h : ¬ 0 ≤ gFst (qP K S) K.1) : satp K S := by
  rcases gFst_cases (qP K S) (n := K.1) (by omega) with q | ⟨j, h1, h2, -⟩
  · exact (qP_sat hr).mp q
  · rw [h2] at h
    exact absurd (nI_le (a := 0) (Nat.zero_le j) (by omega)) h
theorem qP_pos {K : Bk} (hr : K.1 ≤ 30) {S : Nat} (h : 0 ≤ gFst (qP K S) K.1) : ¬ satp K S := fun q => by
  rw [(qP_sat hr).mpr q] at h
  exact absurd h (by decide)
theorem sb_t {K : Bk} {S : Nat} (h : satp K S) : sb K S = true := sb_iff.mpr h
theorem sb_f {K : Bk} {S : Nat} (h : ¬ satp K S) : sb K S = false := by
  cases q : sb K S
  · rfl
  · exact absurd (sb_iff.mp q) h
/-- what the law keeps of a set -/
noncomputable def qS (K : Bk) (S : Nat) : Int32 := if sb K S = true then nI (pc S) else -1
theorem qS_y {K : Bk} {S : Nat} (h : satp K S) : qS K S = nI (pc S) := if_pos (sb_t h)
theorem qS_n {K : Bk} {S : Nat} (h : ¬ satp K S) : qS K S = -1 := if_neg (by rw [sb_f h]; decide)
theorem qS_neg {K : Bk} {S : Nat} (h : qS K S < 0) : ¬ satp K S := fun q => by
  rw [qS_y q] at h
  have := pc_le S
  exact absurd ((nI_ltI (a := pc S) (b := 0) (by omega) (by decide)).mp h) (by omega)
theorem qS_pos {K : Bk} {S : Nat} (h : ¬ qS K S < 0) : satp K S := Classical.byContradiction fun q => h (by rw [qS_n q]; decide)
theorem ct_cut {p : Nat → Bool} {a : Nat} : ∀ {b : Nat}, a ≤ b → (∀ i, a ≤ i → i < b → p i = false) → fb_ct p b = fb_ct p a
  | 0, h, _ => by rw [show a = 0 by omega]
  | b + 1, h, hp => by
    rcases Nat.eq_or_lt_of_le h with c | c
    · rw [c]
    · rw [fb_ct, hp b (by omega) (by omega), ct_cut (by omega) (fun i h1 h2 => hp i h1 (by omega))]
      rfl
theorem pc_g {g S : Nat} (hg : g ≤ 10) (hS : S < 2 ^ g) : fb_ct (fun x => S.testBit x) g = pc S :=
  (ct_cut hg (fun i h1 _ => Nat.testBit_lt_two_pow (Nat.lt_of_lt_of_le hS (Nat.pow_le_pow_right (by decide) h1)))).symm
theorem nI_min {a b : Nat} (ha : a < 2 ^ 31) (hb : b < 2 ^ 31) : (if nI b < nI a then nI b else nI a) = nI (min a b) := by
  by_cases c : b < a
  · rw [if_pos ((nI_ltI hb ha).mpr c), Nat.min_eq_right (by omega)]
  · rw [if_neg (fun q => c ((nI_ltI hb ha).mp q)), Nat.min_eq_left (by omega)]
/-- B is ahead of S: the first guest in whom they differ comes in B -/
def ahP (B S : Nat) : Prop := ∃ x, B.testBit x = true ∧ S.testBit x = false ∧ ∀ y, y < x → B.testBit y = S.testBit y
theorem ahP_trans {A B C : Nat} (h1 : ahP A B) (h2 : ahP B C) : ahP A C := by
  obtain ⟨x, a1, a2, a3⟩ := h1
  obtain ⟨y, b1, b2, b3⟩ := h2
  rcases Nat.lt_trichotomy x y with c | c | c
  · exact ⟨x, a1, by rw [← b3 x c]; exact a2, fun z hz => (a3 z hz).trans (b3 z (by omega))⟩
  · subst c
    rw [b1] at a2
    exact absurd a2 (by decide)
  · exact ⟨y, by rw [a3 y c]; exact b1, b2, fun z hz => (a3 z (by omega)).trans (b3 z hz)⟩
/-- two sets differ somewhere first -/
theorem q_low {g A B : Nat} (hA : A < 2 ^ g) (hB : B < 2 ^ g) (hne : A ≠ B) : ∃ z, z < g ∧ A.testBit z ≠ B.testBit z ∧ ∀ y, y < z → A.testBit y = B.testBit y := by
  have h : ∃ x, x < g ∧ A.testBit x ≠ B.testBit x := Classical.byContradiction fun q => hne (nat_bits hA hB (fun x hx => Classical.byContradiction fun c => q ⟨x, hx, c⟩))
  obtain ⟨x, hx, hxd⟩ := h
  obtain ⟨z, h1, h2⟩ := pk_least (fun x => A.testBit x ≠ B.testBit x) ⟨x, hxd⟩
  have hz : z ≤ x := Nat.not_lt.mp (fun q => h2 x q hxd)
  exact ⟨z, by omega, h1, fun y hy => Classical.byContradiction fun c => h2 y hy c⟩
/-- the best of the first n sets -/
def QB (K : Bk) (n : Nat) (x : Int32) : Prop := (x = -1 ∧ ∀ S, S < n → ¬ satp K S) ∨ ∃ B, B < n ∧ x = nI B ∧ satp K B ∧ ∀ S, S < n → satp K S → S ≠ B → ahP B S
theorem QB_none {K : Bk} {n : Nat} {x : Int32} (hn : n < 2 ^ 31) (h : QB K n x) (hx : x < 0) : ∀ S, S < n → ¬ satp K S := by
  rcases h with ⟨-, q⟩ | ⟨B, q1, q2, -⟩
  · exact q
  · rw [q2] at hx
    exact absurd ((nI_ltI (a := B) (b := 0) (by omega) (by decide)).mp hx) (by omega)
theorem QB_some {K : Bk} {n : Nat} {x : Int32} (h : QB K n x) (hx : ¬ x < 0) : ∃ B, B < n ∧ x = nI B ∧ satp K B ∧ ∀ S, S < n → satp K S → S ≠ B → ahP B S := by
  rcases h with ⟨q, -⟩ | q
  · rw [q] at hx; exact absurd (by decide) hx
  · exact q
theorem QB_skip {K : Bk} {n : Nat} {x : Int32} (h : QB K n x) (hs : ¬ satp K n) : QB K (n + 1) x := by
  rcases h with ⟨q1, q2⟩ | ⟨B, q1, q2, q3, q4⟩
  · exact Or.inl ⟨q1, fun S hS => by
      rcases Nat.lt_or_ge S n with c | c
      · exact q2 S c
      · rw [show S = n by omega]; exact hs⟩
  · exact Or.inr ⟨B, by omega, q2, q3, fun S hS hq hne => by
      rcases Nat.lt_or_ge S n with c | c
      · exact q4 S c hq hne
      · rw [show S = n by omega] at hq; exact absurd hq hs⟩
theorem QB_first {K : Bk} {n : Nat} (h : ∀ S, S < n → ¬ satp K S) (hs : satp K n) : QB K (n + 1) (nI n) := Or.inr ⟨n, by omega, rfl, hs, fun S hS hq hne => absurd hq (h S (by omega))⟩
theorem QB_keep {K : Bk} {n B z : Nat} (q1 : B < n) (q3 : satp K B) (q4 : ∀ S, S < n → satp K S → S ≠ B → ahP B S) (hz : n.testBit z ≠ B.testBit z) (hy : ∀ y, y < z → n.testBit y = B.testBit y) (hb : n.testBit z = false) : QB K (n + 1) (nI B) := by
  refine Or.inr ⟨B, by omega, rfl, q3, fun S hS hq hne => ?_⟩
  rcases Nat.lt_or_ge S n with c | c
  · exact q4 S c hq hne
  · rw [show S = n by omega]
    refine ⟨z, ?_, hb, fun y h => (hy y h).symm⟩
    cases h : B.testBit z
    · rw [h] at hz; exact absurd hb hz
    · rfl
theorem QB_new {K : Bk} {n B z : Nat} (q1 : B < n) (q4 : ∀ S, S < n → satp K S → S ≠ B → ahP B S) (hs : satp K n) (hz : n.testBit z ≠ B.testBit z) (hy : ∀ y, y < z → n.testBit y = B.testBit y) (hb : n.testBit z = true) : QB K (n + 1) (nI n) := by
  have hnB : ahP n B := by
    refine ⟨z, hb, ?_, hy⟩
    cases h : B.testBit z
    · rfl
    · rw [h] at hz; exact absurd hb hz
  refine Or.inr ⟨n, by omega, rfl, hs, fun S hS hq hne => ?_⟩
  by_cases c : S = B
  · rw [c]; exact hnB
  · exact ahP_trans hnB (q4 S (by omega) hq c)
/-- the first round of the table -/
def RI (n a b : Nat) (D : Nat → Nat → Nat) : Prop := ∀ x y, y < n → (x < a ∨ (x = a ∧ y < b)) → D x y = if x = y then 0 else 99
theorem RI_0 (n : Nat) (D : Nat → Nat → Nat) : RI n 0 0 D := fun x y _ h => absurd h (by omega)
theorem RI_row {n a : Nat} {D : Nat → Nat → Nat} (h : RI n a n D) : RI n (a + 1) 0 D := fun x y hy q => h x y hy (by omega)
theorem RI_eq {n a b : Nat} {D : Nat → Nat → Nat} (h : RI n a b D) (e : a = b) : RI n a (b + 1) (D2 D a b 0) := fun x y hy q => by
  by_cases c : x = a ∧ y = b
  · obtain ⟨rfl, rfl⟩ := c
    rw [D2_at, if_pos e]
  · rw [D2_ne c]; exact h x y hy (by omega)
theorem RI_ne {n a b : Nat} {D : Nat → Nat → Nat} (h : RI n a b D) (e : ¬ a = b) : RI n a (b + 1) (D2 D a b 99) := fun x y hy q => by
  by_cases c : x = a ∧ y = b
  · obtain ⟨rfl, rfl⟩ := c
    rw [D2_at, if_neg e]
  · rw [D2_ne c]; exact h x y hy (by omega)
theorem RI_FR {K : Bk} {n : Nat} {D : Nat → Nat → Nat} (h : RI n n 0 D) : FR K 0 n D := fun a b ha hb => by
  have q := h a b hb (Or.inl ha)
  by_cases c : a = b
  · rw [if_pos c] at q; exact Or.inl ⟨c, q⟩
  · rw [if_neg c] at q; exact Or.inr (Or.inr ⟨c, q, fun ⟨j, hj, _⟩ => absurd hj (Nat.not_lt_zero j)⟩)
theorem Dr_y {D : Nat → Nat → Nat} {a b : Nat} (h : 1 < D a b) : Dr D a b = D2 D a b 1 := if_pos h
theorem Dr_n {D : Nat → Nat → Nat} {a b : Nat} (h : ¬ 1 < D a b) : Dr D a b = D := if_neg h
theorem le1_of {n : Nat} (hn : n < 2 ^ 31) (h : nI n ≤ 1) : ¬ 1 < n := fun q => by
  have := (nI_leI (a := n) (b := 1) hn (by decide)).mp h
  omega
theorem lt1_of {n : Nat} (hn : n < 2 ^ 31) (h : ¬ nI n ≤ 1) : 1 < n := Nat.not_le.mp (fun q => h (nI_le (b := 1) q (by decide)))
theorem FR_le {K : Bk} {i n : Nat} {D : Nat → Nat → Nat} (h : FR K i n D) {a b : Nat} (ha : a < n) (hb : b < n) : D a b < 2 ^ 31 := by
  rcases h a b ha hb with ⟨-, q⟩ | ⟨-, q, -⟩ | ⟨-, q, -⟩ <;> rw [q] <;> decide
theorem FA_le {K : Bk} {n : Nat} {D : Nat → Nat → Nat} (h : FA K n D) {a b : Nat} (ha : a < n) (hb : b < n) : D a b ≤ 99 := (h a b ha hb).1
theorem D2_lt {D : Nat → Nat → Nat} {a b x y : Nat} (h : D x y < 2 ^ 31) : D2 D a b 1 x y < 2 ^ 31 := by
  unfold D2
  split
  · decide
  · exact h
theorem upS {fs q : Nat → Int32} {n : Nat} {v : Int32} (h : ∀ T, T < n → fs T = q T) (hv : v = q n) : ∀ T, T < n + 1 → upd fs n v T = q T := fun T hT => by
  unfold upd
  by_cases c : T = n
  · rw [if_pos c, c]; exact hv
  · rw [if_neg c]; exact h T (by omega)
theorem upd_is (f : Nat → Int32) (n : Nat) (v : Int32) : upd f n v n = v := if_pos rfl
theorem nI_pos0 (z : Nat) (h : z < 2 ^ 31) : 0 ≤ nI z := nI_le (a := 0) (Nat.zero_le z) h
/-- the row of a rule, as the law keeps it -/
def qF (K : Bk) : Nat → Nat → Int32 := fun i j => if j = 0 then nI (K.2.1 i) else if j = 1 then nI (K.2.2.1 i) else if j = 2 then gB (K.2.2.2 i) else 0
theorem qF_td {K : Bk} {i w : Nat} (hw : w < 3) : mTd K i w = qF K i w := by
  rcases (show w = 0 ∨ w = 1 ∨ w = 2 by omega) with rfl | rfl | rfl <;> rfl
theorem gB_not (b : Bool) : 1 - gB b = gB (!b) := by cases b <;> rfl
theorem qF_turn (K : Bk) (j : Nat) : va_up (qF K) j (upd (qF K j) 2 (gB (!K.2.2.2 j))) = qF (kTurn K j) := by
  funext x y
  unfold va_up upd qF kTurn
  by_cases c : x = j
  · subst c
    by_cases d : y = 2
    · subst d; simp
    · simp [d]
  · simp [c]
theorem qF_add {K : Bk} {r i wa wb : Nat} (h : i < r) : qF K i = qF (kAdd K r wa wb) i := by
  funext y
  have c : ¬ i = r := by omega
  simp [qF, kAdd, c]
theorem qF_new (K : Bk) (r wa wb : Nat) : qF (kAdd K r wa wb) r = upd (upd (upd (fun _ => 0) 0 (nI wa)) 1 (nI wb)) 2 1 := by
  funext y
  unfold qF upd
  by_cases c2 : y = 2
  · subst c2; simp [kAdd, gB]
  · by_cases c1 : y = 1
    · subst c1; simp [kAdd]
    · by_cases c0 : y = 0
      · subst c0; simp [kAdd]
      · simp [c0, c1, c2]
theorem qF_off {K : Bk} {r i wa wb : Nat} (h : i < r) : qF K i = qF (kTurn (kAdd K r wa wb) r) i := by
  funext y
  have c : ¬ i = r := by omega
  simp [qF, kAdd, kTurn, c]
theorem qF_newoff (K : Bk) (r wa wb : Nat) : qF (kTurn (kAdd K r wa wb) r) r = upd (upd (upd (fun _ => 0) 0 (nI wa)) 1 (nI wb)) 2 0 := by
  funext y
  unfold qF upd
  by_cases c2 : y = 2
  · subst c2; simp [kAdd, kTurn, gB]
  · by_cases c1 : y = 1
    · subst c1; simp [kAdd, kTurn]
    · by_cases c0 : y = 0
      · subst c0; simp [kAdd, kTurn]
      · simp [c0, c1, c2]
section QT3
variable {p : Program} {l : Launch} {e : Env} {R : Room} {s : State} {m : MethodId} {args : Array Value} {below : List Frame} {meth : Method} {c : Code} {H : Heap} {locs : List Loc} {cells slots : Nat} {Q : State → Prop} {cc : ByteArray} {pc : Nat} {ls : Array Slot} {rest : List Value}
theorem q_tab3 (hexec : p.tables.exec = Jvm.exec) (hb : c.code = cc) {d o0 o : Int} {len k tgt : Nat} (hdg : decode cc pc = .ok (.tableswitch d 0 3 #[o0, o, o, o], len)) (h : k = 1 ∨ k = 2 ∨ k = 3) (ht : (pc : Int) + o = (tgt : Int))
    (kk : W p l e R s m args below meth c H locs cells slots Q (F0 m tgt ls rest)) : W p l e R s m args below meth c H locs cells slots Q (F0 m pc ls (.int (nI k) :: rest)) := by
  rcases h with rfl | rfl | rfl
  · exact lv_tableIn (off := o) hexec hb hdg (by decide) (by decide) rfl ht kk
  · exact lv_tableIn (off := o) hexec hb hdg (by decide) (by decide) rfl ht kk
  · exact lv_tableIn (off := o) hexec hb hdg (by decide) (by decide) rfl ht kk
end QT3
