/-! THE LAW: what a round needs to know. -/
theorem brk_eq {K : Bk} {g r : Nat} {f1 f2 : Nat → Int32} {inf : Int32} (h : gOK K g r f1 f2 inf) (hg : g ≤ 10) (hr : r ≤ 30) {S : Nat} (hS : S < 1024) : gFst (gBr f1 f2 inf (nI S)) r = gFst (qP K S) r := by
  have hKr : K.1 = r := h.1
  rw [broken_eq h hg hr hS, mBB_none, hKr]
  exact gFst_congr (fun j hj => mP_eq hg (gOK_Kg h) hS (by omega))
theorem qP_nosat {K : Bk} {S j : Nat} (hj : j < K.1) (h : qP K S j = true) : ¬ satp K S := fun q => by
  unfold qP at h
  cases ho : K.2.2.2 j
  · simp [ho] at h
  · cases h1 : hol (K.2.1 j) S
    · simp [h1] at h
    · rw [q j hj ho h1, ho, h1] at h; exact absurd h (by decide)
theorem qP_off {K : Bk} {S j : Nat} {b : Bool} (h : b = qP K S j) : qP K S j = b := h.symm
theorem sb_add {K : Bk} {r wa wb S : Nat} (hKr : K.1 = r) : sb (kAdd K r wa wb) S = (sb K S && !(hol wa S && !hol wb S)) := by
  apply bool_eq
  rw [sb_iff, Bool.and_eq_true, sb_iff]
  constructor
  · intro h
    refine ⟨fun j hj ho h1 => ?_, ?_⟩
    · have c : ¬ j = r := by omega
      have q := h j (show j < r + 1 by omega)
      simp only [kAdd, c, if_false] at q
      exact q ho h1
    · have q := h r (show r < r + 1 by omega)
      simp only [kAdd, if_true] at q
      cases h1 : hol wa S
      · rfl
      · rw [q trivial h1]; rfl
  · rintro ⟨h, h2⟩ j hj ho h1
    have hj : j < r + 1 := hj
    by_cases c : j = r
    · subst c
      simp only [kAdd, if_true] at ho h1 ⊢
      rw [h1] at h2
      cases h3 : hol wb S
      · rw [h3] at h2; exact absurd h2 (by decide)
      · rfl
    · simp only [kAdd, c, if_false] at ho h1 ⊢
      exact h j (by omega) ho h1
theorem sb_off {K : Bk} {r wa wb S : Nat} (hKr : K.1 = r) : sb (kTurn (kAdd K r wa wb) r) S = sb K S := by
  apply bool_eq
  rw [sb_iff, sb_iff]
  constructor
  · intro h j hj ho h1
    have c : ¬ j = r := by omega
    have q := h j (show j < r + 1 by omega)
    simp only [kAdd, kTurn, c, if_false] at q
    exact q ho h1
  · intro h j hj ho h1
    have hj : j < r + 1 := hj
    by_cases c : j = r
    · subst c
      simp [kAdd, kTurn] at ho
    · simp only [kAdd, kTurn, c, if_false] at ho h1 ⊢
      exact h j (by omega) ho h1
theorem tight_nat {K : Bk} {g r : Nat} (hg : g ≤ 10) (hK : Kg K g) (hKr : K.1 = r) {se : Nat → Int32} {c : Nat} (h : LF K g se c) {a b : Nat} (ha : a < 2 * g) (hb : b < 2 * g) : c = gTi se (nI a) (nI b) c + fb_ct (sb (kAdd K r a b)) (2 ^ g) := by
  have h1 := gTi_ct hg hK h ha hb c (Nat.le_refl c)
  have h2 := LF_sum hK h (fun S => if (hol a S && !hol b S) = true then 1 else 0)
  have h3 : fb_sm (fun S => if sb K S = true then (if (hol a S && !hol b S) = true then 1 else 0) else 0) (2 ^ g) = fb_ct (fun S => sb K S && (hol a S && !hol b S)) (2 ^ g) := by
    rw [← fb_sm_ct]
    congr 1
    funext S
    cases sb K S <;> cases hol a S <;> cases hol b S <;> rfl
  have h4 : fb_ct (sb (kAdd K r a b)) (2 ^ g) = fb_ct (fun S => sb K S && !(hol a S && !hol b S)) (2 ^ g) := fb_ct_cong (fun S _ => sb_add hKr)
  have h5 := ct_parts (sb K) (fun S => hol a S && !hol b S) (2 ^ g)
  have h6 := LF_count hK h
  have h7 : fb_sm (fun i => if (hol a (sg g se i) && !hol b (sg g se i)) = true then 1 else 0) c = fb_sm (fun S => if sb K S = true then (if (hol a S && !hol b S) = true then 1 else 0) else 0) (2 ^ g) := h2
  rw [h1, h7, h3, h4]
  have h8 : fb_ct (sb K) (2 ^ g) = fb_ct (fun S => sb K S && !(hol a S && !hol b S)) (2 ^ g) + fb_ct (fun S => sb K S && (hol a S && !hol b S)) (2 ^ g) := h5
  omega
theorem seat_is {se : Nat → Int32} {g c : Nat} (hg : g ≤ 10) (hc : 0 < c) : gSeat se g c = nI (sg g se 0) := by
  unfold gSeat
  rw [if_neg (by omega)]
  have e0 : gAt 1024 se 0 = se 0 := gAt_in (n := 1024) (j := 0) (by decide) (by decide) _
  rw [e0, gGC_bn _ g hg]
  rfl
theorem sg_lt (g : Nat) (se : Nat → Int32) (i : Nat) : sg g se i < 2 ^ g := bn_lt _ g
theorem seat_neg {se : Nat → Int32} {g c : Nat} (hg : g ≤ 10) (hc : c < 2 ^ 31) : decide (¬ 0 ≤ gSeat se g c) = decide (nI c = 0) := by
  rcases Nat.eq_zero_or_pos c with h | h
  · subst h
    rfl
  · have h2 := sg_lt g se 0
    have h3 := pow_le10 hg
    rw [seat_is hg h, decide_eq_false (fun q => q (nI_pos0 _ (by omega))), decide_eq_false (show ¬ nI c = 0 from fun q => absurd ((nI_eq (b := 0) hc (by decide)).mp q) (by omega))]
theorem bitv (x b : Int32) : (x >>> (b &&& 31)) &&& 1 = gB (gHas x b) := by
  unfold gHas
  obtain ⟨j, hj, e⟩ := pk_andE (x >>> (b &&& 31)) (m := 1) 1 (by decide)
  rw [e]
  rcases (show j = 0 ∨ j = 1 by omega) with rfl | rfl <;> rfl
theorem kTurn_2 (K : Bk) (x : Nat) : kTurn (kTurn K x) x = K := by
  unfold kTurn
  have e : (fun j => if j = x then !(if j = x then !K.2.2.2 j else K.2.2.2 j) else if j = x then !K.2.2.2 j else K.2.2.2 j) = K.2.2.2 := by
    funext j
    by_cases c : j = x
    · simp [c]
    · simp [c]
  show (K.1, K.2.1, K.2.2.1, (fun j => if j = x then !(if j = x then !K.2.2.2 j else K.2.2.2 j) else if j = x then !K.2.2.2 j else K.2.2.2 j)) = K
  rw [e]
theorem add_fo {K : Bk} {r a b : Nat} : fo (kAdd K r a b) a b = true := fo_iff.mpr (fol_ed ⟨r, show r < r + 1 by omega, by simp [kAdd], Or.inl ⟨by simp [kAdd], by simp [kAdd]⟩⟩)
theorem off_ft {K : Bk} {g j : Nat} (hg : g ≤ 10) (hr : K.1 ≤ 30) (hj : j < K.1) (ho : K.2.2.2 j = true) : ft (kTurn K j) g = ft (kL K (nI j)) g := by
  refine ft_congr hg (fun u v => ed_congr (K := kTurn K j) (L := kL K (nI j)) rfl (fun i hi => ⟨rfl, rfl, ?_⟩) u v)
  have hi : i < K.1 := hi
  show (if i = j then !K.2.2.2 i else K.2.2.2 i) = (K.2.2.2 i && !decide (nI i = nI j))
  by_cases c : i = j
  · subst c
    rw [ho]; simp
  · have d : ¬ nI i = nI j := fun q => c ((nI_eq (by omega) (by omega)).mp q)
    simp [c, d]
theorem fo_step {K : Bk} {u j : Nat} (hj : j < K.1) (ho : K.2.2.2 j = true) (h : fo K u (K.2.1 j) = true) : fo K u (K.2.2.1 j) = true :=
  fo_iff.mpr (fol_trans (fo_iff.mp h) (fol_ed ⟨j, hj, ho, Or.inl ⟨rfl, rfl⟩⟩))
theorem fo_back {K : Bk} {u j : Nat} (hj : j < K.1) (ho : K.2.2.2 j = true) (h : fo K u (K.2.2.1 j ^^^ 1) = true) : fo K u (K.2.1 j ^^^ 1) = true :=
  fo_iff.mpr (fol_trans (fo_iff.mp h) (fol_ed ⟨j, hj, ho, Or.inr ⟨rfl, rfl⟩⟩))
theorem fo_self (K : Bk) (u : Nat) : fo K u u = true := fo_iff.mpr (fol_refl K u)
section QD9
variable {p : Program} {l : Launch} {e : Env} {R : Room} {s : State} {m : MethodId} {args : Array Value} {below : List Frame} {meth : Method} {c : Code} {H : Heap} {locs : List Loc} {cells slots : Nat} {Q : State → Prop} {d : Drawn}
/-- roads that meet again, whatever was drawn and made on them -/
theorem q_joinD {I : Heap → List Loc → Array Slot → Prop} {g1 : JFrame} (g2 : Array Slot → JFrame) (k1 n1 : Nat) (kk : ∀ (d1 : Drawn) (H1 : Heap) (locs1 : List Loc) (ls1 : Array Slot), s.drawn.sameBut d1 lw_cs → I H1 locs1 ls1 → W p l e R (s.setDrawn d1) m args below meth c H1 locs1 k1 n1 Q (g2 ls1))
    (k : (∀ (d1 : Drawn) (H1 : Heap) (locs1 : List Loc) (ls1 : Array Slot), s.drawn.sameBut d1 lw_cs → I H1 locs1 ls1 → W p l e R (s.setDrawn d1) m args below meth c H1 locs1 k1 n1 Q (g2 ls1)) → W p l e R (s.setDrawn d) m args below meth c H locs cells slots Q g1) : W p l e R (s.setDrawn d) m args below meth c H locs cells slots Q g1 := k kk
/-- the law's loop: its room grows by kc cells and kn slots a round, the record of draws may move -/
theorem law_rounds {pc k0 n0 : Nat} (kc kn N : Nat) (I : Nat → Heap → List Loc → Array Slot → Prop)
    (step : ∀ (i : Nat) (d : Drawn) (H : Heap) (locs : List Loc) (ls : Array Slot), i ≤ N → s.drawn.sameBut d lw_cs → I i H locs ls →
      (∀ (d1 : Drawn) (H1 : Heap) (locs1 : List Loc) (ls1 : Array Slot), i < N → s.drawn.sameBut d1 lw_cs → I (i + 1) H1 locs1 ls1 → W p l e R (s.setDrawn d1) m args below meth c H1 locs1 (k0 + kc * (i + 1)) (n0 + kn * (i + 1)) Q (F0 m pc ls1 [])) →
      W p l e R (s.setDrawn d) m args below meth c H locs (k0 + kc * i) (n0 + kn * i) Q (F0 m pc ls [])) {d : Drawn} {H : Heap} {locs : List Loc} {ls : Array Slot} (hd : s.drawn.sameBut d lw_cs) (h0 : I 0 H locs ls) : W p l e R (s.setDrawn d) m args below meth c H locs k0 n0 Q (F0 m pc ls []) := by
  have K : ∀ (n i : Nat) (d : Drawn) (H : Heap) (locs : List Loc) (ls : Array Slot), i ≤ N → N < i + n → s.drawn.sameBut d lw_cs → I i H locs ls → W p l e R (s.setDrawn d) m args below meth c H locs (k0 + kc * i) (n0 + kn * i) Q (F0 m pc ls []) := by
    intro n
    induction n with
    | zero => intro i d H locs ls h1 h2; exact absurd h2 (by omega)
    | succ n ih =>
      intro i d H locs ls h1 h2 hd h3
      exact step i d H locs ls h1 hd h3 (fun d1 H1 locs1 ls1 h4 h5 h6 => ih (i + 1) d1 H1 locs1 ls1 h4 (by omega) h5 h6)
  exact K (N + 1) 0 d H locs ls (Nat.zero_le N) (by omega) hd h0
end QD9
