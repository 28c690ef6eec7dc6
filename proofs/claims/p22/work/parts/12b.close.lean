/-! WHAT FOLLOWS, IN THE BOOK'S ROWS: link and close make what the graph says. -/
theorem fol_refl (K : Bk) (u : Nat) : fol K u u := ⟨0, rfl⟩
theorem rk_snoc {K : Bk} {n u x v : Nat} (h : rk K n u x) (e : ed K x v) : rk K (n + 1) u v := ⟨x, h, e⟩
theorem rk_trans {K : Bk} {u x : Nat} : ∀ {m v n : Nat}, rk K n u x → rk K m x v → rk K (n + m) u v
  | 0, _, _, h1, h2 => by cases h2; exact h1
  | _ + 1, _, _, h1, h2 => by obtain ⟨y, h3, h4⟩ := h2; exact rk_snoc (rk_trans h1 h3) h4
theorem fol_trans {K : Bk} {u x v : Nat} (h1 : fol K u x) (h2 : fol K x v) : fol K u v := by
  obtain ⟨n, h1⟩ := h1; obtain ⟨m, h2⟩ := h2; exact ⟨n + m, rk_trans h1 h2⟩
theorem fol_ed {K : Bk} {u v : Nat} (e : ed K u v) : fol K u v := ⟨1, u, rfl, e⟩
theorem ed_turn {K : Bk} {u v : Nat} (e : ed K u v) : ed K (v ^^^ 1) (u ^^^ 1) := by
  obtain ⟨j, hj, ho, ⟨rfl, rfl⟩ | ⟨rfl, rfl⟩⟩ := e
  · exact ⟨j, hj, ho, Or.inr ⟨rfl, rfl⟩⟩
  · exact ⟨j, hj, ho, Or.inl ⟨(xor1_xor1 _).symm, (xor1_xor1 _).symm⟩⟩
theorem fol_turn {K : Bk} {u v : Nat} (h : fol K u v) : fol K (v ^^^ 1) (u ^^^ 1) := by
  obtain ⟨n, h⟩ := h
  induction n generalizing v with
  | zero => cases h; exact fol_refl _ _
  | succ n ih => obtain ⟨x, h1, h2⟩ := h; exact fol_trans (fol_ed (ed_turn h2)) (ih h1)
theorem fol_lt {K : Bk} {n : Nat} (hK : ∀ j, j < K.1 → K.2.1 j < 2 * n ∧ K.2.2.1 j < 2 * n) {u v : Nat} (hu : u < 2 * n) (h : fol K u v) : v < 2 * n := by
  obtain ⟨m, h⟩ := h
  cases m with
  | zero => cases h; exact hu
  | succ m =>
    obtain ⟨x, -, j, hj, -, ⟨-, rfl⟩ | ⟨-, rfl⟩⟩ := h
    · exact (hK j hj).2
    · exact xor1_lt (hK j hj).1
theorem fol_lt20 {K : Bk} (hK : Bk20 K) {u v : Nat} (hu : u < 20) (h : fol K u v) : v < 20 := fol_lt (n := 10) hK hu h
/-- the book's numbers and what they hold -/
def gOK (K : Bk) (g r : Nat) (f1 f2 : Nat → Int32) (inf : Int32) : Prop := K.1 = r ∧ ∀ j, j < r → f1 j = nI (K.2.1 j) ∧ f2 j = nI (K.2.2.1 j) ∧ K.2.1 j < 2 * g ∧ K.2.2.1 j < 2 * g ∧ bt inf j = K.2.2.2 j
/-- the book without the rule whose number is left -/
def kL (K : Bk) (left : Int32) : Bk := (K.1, K.2.1, K.2.2.1, fun j => K.2.2.2 j && !decide (nI j = left))
def ed1 (K : Bk) (j u v : Nat) : Prop := (K.2.1 j = u ∧ K.2.2.1 j = v) ∨ (K.2.2.1 j ^^^ 1 = u ∧ K.2.1 j ^^^ 1 = v)
theorem gIn_at (f : Nat → Int32) : ∀ i j, gIn f i j = if j < i then (1 : Int32) <<< (nI j &&& 31) else f j
  | 0, j => by simp [gIn]
  | i + 1, j => by
    rw [gIn]
    by_cases c : j = i
    · subst c; simp [upd]
    · simp only [upd, c, if_false]
      rw [gIn_at f i j]
      by_cases d : j < i
      · rw [if_pos d, if_pos (by omega)]
      · rw [if_neg d, if_neg (by omega)]
theorem link_bt {f : Nat → Int32} {a b u v : Nat} (ha : a < 20) (hb : b < 32) (hv : v < 32) : bt (gLink 20 f (nI a) (nI b) u) v = true ↔ bt (f u) v = true ∨ (u = a ∧ v = b) := by
  unfold gLink
  rw [gPut_in ha (by decide), gAt_in ha (by decide)]
  by_cases c : u = a
  · subst c
    simp only [upd, if_true]
    rw [b_or, bt_one hb hv]
    by_cases d : v = b <;> simp [d]
  · simp [upd, c]
theorem gLk_bt {K : Bk} {g r : Nat} {f1 f2 : Nat → Int32} {inf left : Int32} (hOK : gOK K g r f1 f2 inf) (hg : g ≤ 10) (hr : r ≤ 30) (f : Nat → Int32) {u v : Nat} (hu : u < 20) (hv : v < 32) :
    ∀ i, i ≤ r → (bt (gLk f1 f2 inf left (gIn f 20) i u) v = true ↔ u = v ∨ ∃ j, j < i ∧ (kL K left).2.2.2 j = true ∧ ed1 K j u v)
  | 0, _ => by
    rw [gLk, gIn_at, if_pos hu, bt_one (by omega) hv]
    constructor
    · intro h; exact Or.inl (of_decide_eq_true h).symm
    · rintro (h | ⟨j, hj, -⟩)
      · exact decide_eq_true h.symm
      · exact absurd hj (Nat.not_lt_zero j)
  | i + 1, hi => by
    have ih := gLk_bt (left := left) hOK hg hr f hu hv i (by omega)
    obtain ⟨h1, h2, h3, h4, h5⟩ := hOK.2 i (by omega)
    have step : ∀ (P : Prop), (P ↔ (kL K left).2.2.2 i = true ∧ ed1 K i u v) → ((u = v ∨ ∃ j, j < i ∧ (kL K left).2.2.2 j = true ∧ ed1 K j u v) ∨ P ↔ u = v ∨ ∃ j, j < i + 1 ∧ (kL K left).2.2.2 j = true ∧ ed1 K j u v) := by
      intro P hP
      constructor
      · rintro ((h | ⟨j, hj, h⟩) | h)
        · exact Or.inl h
        · exact Or.inr ⟨j, by omega, h⟩
        · exact Or.inr ⟨i, by omega, hP.mp h⟩
      · rintro (h | ⟨j, hj, h⟩)
        · exact Or.inl (Or.inl h)
        · rcases Nat.lt_or_ge j i with c | c
          · exact Or.inl (Or.inr ⟨j, c, h⟩)
          · rw [show j = i by omega] at h; exact Or.inr (hP.mpr h)
    have no : (kL K left).2.2.2 i = false → ((u = v ∨ ∃ j, j < i ∧ (kL K left).2.2.2 j = true ∧ ed1 K j u v) ↔ u = v ∨ ∃ j, j < i + 1 ∧ (kL K left).2.2.2 j = true ∧ ed1 K j u v) := fun hf => by
      have := step False ⟨fun h => h.elim, fun h => by rw [hf] at h; cases h.1⟩
      rwa [or_false] at this
    rw [gLk]
    by_cases c : nI i = left
    · rw [if_pos c, ih]
      exact no (by simp [kL, c])
    · rw [if_neg c]
      by_cases d : gHas inf (nI i) = true
      · rw [if_pos d, gAt_in (by omega) (by decide), gAt_in (by omega) (by decide), h1, h2, nI_xor1, nI_xor1]
        have x1 := xor1_lt h3
        have x2 := xor1_lt h4
        rw [link_bt (by omega) (by omega) hv, link_bt (by omega) (by omega) hv, ih, or_assoc]
        apply step
        have hon : K.2.2.2 i = true := by rw [← h5, ← gHas_bt (by omega)]; exact d
        simp only [kL, hon, c, ed1, decide_false, Bool.not_false, Bool.and_true, true_and]
        constructor
        · rintro (⟨e1, e2⟩ | ⟨e1, e2⟩)
          · exact Or.inl ⟨e1.symm, e2.symm⟩
          · exact Or.inr ⟨e1.symm, e2.symm⟩
        · rintro (⟨e1, e2⟩ | ⟨e1, e2⟩)
          · exact Or.inl ⟨e1.symm, e2.symm⟩
          · exact Or.inr ⟨e1.symm, e2.symm⟩
      · rw [if_neg d, ih]
        have hon : K.2.2.2 i = false := by
          rw [← h5, ← gHas_bt (by omega)]
          cases hh : gHas inf (nI i)
          · rfl
          · exact absurd hh d
        exact no (by simp [kL, hon])
theorem gLA_bt {K : Bk} {g r : Nat} {f1 f2 : Nat → Int32} {inf left : Int32} (hOK : gOK K g r f1 f2 inf) (hg : g ≤ 10) (hr : r ≤ 30) (f : Nat → Int32) {u v : Nat} (hu : u < 20) (hv : v < 32) :
    bt (gLA f1 f2 inf left r f u) v = true ↔ u = v ∨ ed (kL K left) u v := by
  unfold gLA
  rw [gLk_bt hOK hg hr f hu hv r (Nat.le_refl r)]
  have e : (∃ j, j < r ∧ (kL K left).2.2.2 j = true ∧ ed1 K j u v) ↔ ed (kL K left) u v := by
    unfold ed
    rw [show (kL K left).1 = r from hOK.1]
    exact Iff.rfl
  rw [e]
theorem gOK_20 {K : Bk} {g r : Nat} {f1 f2 : Nat → Int32} {inf : Int32} (h : gOK K g r f1 f2 inf) (hg : g ≤ 10) (left : Int32) : Bk20 (kL K left) := fun j hj => by
  obtain ⟨-, -, h3, h4, -⟩ := h.2 j (by rw [← h.1]; exact hj)
  exact ⟨by show K.2.1 j < 20; omega, by show K.2.2.1 j < 20; omega⟩
/-! ===== Warshall's closing ===== -/
theorem gClB_at {f : Nat → Int32} {m : Nat} (hm : m < 20) : ∀ w, w ≤ 20 → ∀ u, gClB f m w u = if u < w ∧ bt (f u) m = true then f u ||| f m else f u
  | 0, _, u => by simp [gClB]
  | w + 1, hw, u => by
    have ih := gClB_at (f := f) hm w (by omega)
    have e1 : gClB f m w w = f w := by rw [ih w, if_neg (by omega)]
    have e2 : gClB f m w m = f m := by
      rw [ih m]
      split
      · apply b_ext; intro i _; rw [b_or]; simp
      · rfl
    rw [gClB, e1, e2, gHas_bt (by omega)]
    by_cases c : bt (f w) m = true
    · rw [if_pos c]
      by_cases d : u = w
      · subst d; simp [upd, c]
      · simp only [upd, d, if_false]
        rw [ih u]
        by_cases z : u < w
        · simp [z, show u < w + 1 by omega]
        · simp [z, show ¬ u < w + 1 by omega]
    · rw [if_neg c, ih u]
      by_cases d : u = w
      · subst d; simp [c]
      · by_cases z : u < w
        · simp [z, show u < w + 1 by omega]
        · simp [z, show ¬ u < w + 1 by omega]
theorem gCl_step {f : Nat → Int32} {m : Nat} (hm : m < 20) {u v : Nat} (hu : u < 20) : bt (gCl f (m + 1) u) v = true ↔ bt (gCl f m u) v = true ∨ (bt (gCl f m u) m = true ∧ bt (gCl f m m) v = true) := by
  rw [gCl, gClB_at hm 20 (Nat.le_refl _) u]
  by_cases c : bt (gCl f m u) m = true
  · rw [if_pos ⟨hu, c⟩, b_or]; simp [c]
  · rw [if_neg (fun h => c h.2)]; simp [c]
theorem cl_bt {K : Bk} (hK : Bk20 K) {f : Nat → Int32} (hb : ∀ u v, u < 20 → v < 32 → (bt (f u) v = true ↔ u = v ∨ ed K u v)) {u v : Nat} (hu : u < 20) (hv : v < 32) : bt (gCl f 20 u) v = true ↔ fol K u v := by
  have hs : ∀ m, m ≤ 20 → ∀ u v, u < 20 → v < 32 → bt (gCl f m u) v = true → fol K u v := by
    intro m
    induction m with
    | zero =>
      intro _ u v hu hv h
      rcases (hb u v hu hv).mp h with h | h
      · rw [h]; exact fol_refl _ _
      · exact fol_ed h
    | succ m ih =>
      intro hm u v hu hv h
      rcases (gCl_step (by omega) hu).mp h with h | ⟨h1, h2⟩
      · exact ih (by omega) u v hu hv h
      · exact fol_trans (ih (by omega) u m hu (by omega) h1) (ih (by omega) m v (by omega) hv h2)
  have hc : ∀ m, m ≤ 20 → ∀ u v, u < 20 → bt (f u) v = true → bt (gCl f m u) v = true := by
    intro m
    induction m with
    | zero => intro _ u v _ h; exact h
    | succ m ih => intro hm u v hu h; exact (gCl_step (by omega) hu).mpr (Or.inl (ih (by omega) u v hu h))
  have ht : ∀ m, m ≤ 20 → ∀ j, j < m → ∀ u v, u < 20 → bt (gCl f m u) j = true → bt (gCl f m j) v = true → bt (gCl f m u) v = true := by
    intro m
    induction m with
    | zero => intro _ j hj; exact absurd hj (Nat.not_lt_zero j)
    | succ m ih =>
      intro hm j hj u v hu h1 h2
      have hm' : m < 20 := by omega
      rw [gCl_step hm' hu] at h1 ⊢
      rw [gCl_step hm' (by omega)] at h2
      rcases Nat.lt_or_ge j m with c | c
      · have ih' := ih (by omega) j c
        rcases h1 with h1 | ⟨h1, h1'⟩ <;> rcases h2 with h2 | ⟨h2, h2'⟩
        · exact Or.inl (ih' u v hu h1 h2)
        · exact Or.inr ⟨ih' u m hu h1 h2, h2'⟩
        · exact Or.inr ⟨h1, ih' m v hm' h1' h2⟩
        · exact Or.inr ⟨h1, h2'⟩
      · have e : j = m := by omega
        subst e
        have h1' : bt (gCl f j u) j = true := h1.elim id (fun h => h.1)
        have h2' : bt (gCl f j j) v = true := h2.elim id (fun h => h.2)
        exact Or.inr ⟨h1', h2'⟩
  constructor
  · exact hs 20 (Nat.le_refl _) u v hu hv
  · rintro ⟨n, h⟩
    induction n generalizing v with
    | zero => cases h; exact hc 20 (Nat.le_refl _) u u hu ((hb u u hu hv).mpr (Or.inl rfl))
    | succ n ih =>
      obtain ⟨x, h1, h2⟩ := h
      have hx : x < 20 := fol_lt20 hK hu ⟨n, h1⟩
      exact ht 20 (Nat.le_refl _) x hx u v hu (ih (by omega) h1) (hc 20 (Nat.le_refl _) x v hx ((hb x v hx hv).mpr (Or.inr h2)))
/-- rows that hold what follows -/
def gCls (K : Bk) (cl : Nat → Int32) : Prop := ∀ u v, u < 20 → v < 32 → (bt (cl u) v = true ↔ fol K u v)
def gDrs (K : Bk) (dr : Nat → Int32) : Prop := ∀ u v, u < 20 → v < 32 → (bt (dr u) v = true ↔ u = v ∨ ed K u v)
theorem gDrs_of {K : Bk} {g r : Nat} {f1 f2 : Nat → Int32} {inf left : Int32} (hOK : gOK K g r f1 f2 inf) (hg : g ≤ 10) (hr : r ≤ 30) (f : Nat → Int32) : gDrs (kL K left) (gLA f1 f2 inf left r f) := fun _ _ hu hv => gLA_bt hOK hg hr f hu hv
theorem gCls_of {K : Bk} {g r : Nat} {f1 f2 : Nat → Int32} {inf left : Int32} (hOK : gOK K g r f1 f2 inf) (hg : g ≤ 10) (hr : r ≤ 30) (f : Nat → Int32) : gCls (kL K left) (gCl (gLA f1 f2 inf left r f) 20) := fun _ _ hu hv => cl_bt (gOK_20 hOK hg left) (gDrs_of hOK hg hr f) hu hv
theorem ed_congr {K L : Bk} (h1 : K.1 = L.1) (h2 : ∀ j, j < K.1 → K.2.1 j = L.2.1 j ∧ K.2.2.1 j = L.2.2.1 j ∧ K.2.2.2 j = L.2.2.2 j) (u v : Nat) : ed K u v ↔ ed L u v := by
  constructor
  · rintro ⟨j, hj, ho, h⟩
    obtain ⟨e1, e2, e3⟩ := h2 j hj
    rw [e1, e2] at h; rw [e3] at ho
    exact ⟨j, h1 ▸ hj, ho, h⟩
  · rintro ⟨j, hj, ho, h⟩
    obtain ⟨e1, e2, e3⟩ := h2 j (h1 ▸ hj)
    rw [← e1, ← e2] at h; rw [← e3] at ho
    exact ⟨j, h1 ▸ hj, ho, h⟩
theorem rk_congr {K L : Bk} (h : ∀ u v, ed K u v ↔ ed L u v) : ∀ n u v, rk K n u v ↔ rk L n u v
  | 0, _, _ => Iff.rfl
  | n + 1, u, v => by
    constructor
    · rintro ⟨x, h1, h2⟩; exact ⟨x, (rk_congr h n u x).mp h1, (h x v).mp h2⟩
    · rintro ⟨x, h1, h2⟩; exact ⟨x, (rk_congr h n u x).mpr h1, (h x v).mpr h2⟩
theorem fol_congr {K L : Bk} (h : ∀ u v, ed K u v ↔ ed L u v) (u v : Nat) : fol K u v ↔ fol L u v := ⟨fun ⟨n, q⟩ => ⟨n, (rk_congr h n u v).mp q⟩, fun ⟨n, q⟩ => ⟨n, (rk_congr h n u v).mpr q⟩⟩
theorem kL_none {K : Bk} (h : K.1 ≤ 30) (u v : Nat) : ed (kL K (-1)) u v ↔ ed K u v :=
  ed_congr (K := kL K (-1)) (L := K) rfl (fun j hj => ⟨rfl, rfl, by have hj : j < K.1 := hj; simp [kL, nI_nm1 (n := j) (by omega)]⟩) u v
theorem kL_one {K : Bk} (h : K.1 ≤ 30) {x : Nat} (hx : x < 30) (u v : Nat) : ed (kL K (nI x)) u v ↔ ed (mKo K x) u v :=
  ed_congr (K := kL K (nI x)) (L := mKo K x) rfl (fun j hj => ⟨rfl, rfl, by
    have hj : j < K.1 := hj
    by_cases c : j = x
    · subst c; simp [kL, mKo]
    · have : ¬ nI j = nI x := fun q => c ((nI_eq (by omega) (by omega)).mp q)
      simp [kL, mKo, c, this]⟩) u v
/-! ===== the readers of closed rows ===== -/
theorem cl_has {K : Bk} {cl : Nat → Int32} (h : gCls K cl) {u v : Nat} (hu : u < 20) (hv : v < 32) : gHas (gAt 20 cl (nI u)) (nI v) = fo K u v := by
  rw [gHas_bt hv, gAt_in hu (by decide)]
  have := h u v hu hv
  rcases hh : fo K u v with _ | _
  · rcases hb : bt (cl u) v with _ | _
    · rfl
    · rw [fo_iff.mpr (this.mp hb)] at hh; cases hh
  · exact this.mpr (fo_iff.mp hh)
theorem cl_vain {K : Bk} {cl : Nat → Int32} (h : gCls K cl) {w : Nat} (hw : w < 20) : gVain 20 cl (nI w) = fo K w (w ^^^ 1) := by
  unfold gVain
  rw [nI_xor1]
  exact cl_has h hw (by have := xor1_lt20 hw; omega)
theorem cl_torn {K : Bk} {cl : Nat → Int32} (h : gCls K cl) {x : Nat} (hx : x < 10) : gTorn 20 cl (nI x) = mTo K x := by
  unfold gTorn mTo
  rw [show (2 : Int32) * nI x = nI (2 * x) from pk_mul 2 x, nI_1, cl_vain h (by omega), cl_vain h (by omega)]
theorem cl_CT {K : Bk} {cl : Nat → Int32} (h : gCls K cl) : ∀ i, i ≤ 10 → gCT cl i = mCt K i
  | 0, _ => rfl
  | i + 1, hi => by rw [gCT, mCt, cl_CT h i (by omega), cl_torn h (by omega)]
theorem cl_CV {K : Bk} {cl : Nat → Int32} (h : gCls K cl) : ∀ i, i ≤ 20 → gCV cl i = mCv K i
  | 0, _ => rfl
  | i + 1, hi => by rw [gCV, mCv, cl_CV h i (by omega), cl_vain h (by omega)]
theorem cl_cnt {K : Bk} (hK : Bk20 K) {cl : Nat → Int32} (h : gCls K cl) {u : Nat} (hu : u < 20) : gBC (gAt 20 cl (nI u)) = nI (fb_ct (fun v => fo K u v) 20) := by
  rw [gBC_eq, gAt_in hu (by decide)]
  congr 1
  rw [show (32 : Nat) = 20 + 12 from rfl, fb_ct_split]
  have e1 : fb_ct (fun i => bt (cl u) i) 20 = fb_ct (fun v => fo K u v) 20 := fb_ct_cong (fun k hk => by
    have := cl_has h hu (v := k) (by omega)
    rw [gHas_bt (by omega), gAt_in hu (by decide)] at this
    exact this)
  have e2 : fb_ct (fun k => bt (cl u) (20 + k)) 12 = 0 := fb_ct_zero.mpr (fun k hk => by
    rcases hb : bt (cl u) (20 + k) with _ | _
    · rfl
    · have := fol_lt20 hK hu ((h u (20 + k) hu (by omega)).mp hb)
      omega)
  rw [e1, e2, Nat.add_zero]
theorem cl_CP {K : Bk} (hK : Bk20 K) {cl : Nat → Int32} (h : gCls K cl) : ∀ i, i ≤ 20 → gCP cl i = mCp K i
  | 0, _ => rfl
  | i + 1, hi => by rw [gCP, mCp, cl_CP hK h i (by omega), cl_cnt hK h (by omega)]
theorem bt_if {c : Prop} [Decidable c] {x y : Int32} {i : Nat} : bt (if c then x else y) i = if c then bt x i else bt y i := by split <;> rfl
theorem mRe_bt (K : Bk) {a : Nat} {v : Nat} (hv : v < 32) : ∀ i, i ≤ 20 → bt (mRe K a i) v = (decide (v < i) && fo K a v)
  | 0, _ => by rw [mRe, b_0]; simp
  | i + 1, hi => by
    rw [mRe, b_or, mRe_bt K hv i (by omega), bt_if, bt_one (by omega) hv, b_0]
    by_cases c : v = i
    · subst c; cases fo K a v <;> simp
    · by_cases d : v < i
      · simp [d, c, show v < i + 1 by omega]
      · simp [d, c, show ¬ v < i + 1 by omega]
theorem cl_reach {K : Bk} {n : Nat} (hn : n ≤ 10) (hK : ∀ j, j < K.1 → K.2.1 j < 2 * n ∧ K.2.2.1 j < 2 * n) {cl : Nat → Int32} (h : gCls K cl) {a : Nat} (ha : a < 2 * n) : gAt 20 cl (nI a) = mRe K a (2 * n) := by
  apply b_ext
  intro v hv
  rw [mRe_bt K hv (2 * n) (by omega)]
  have := cl_has h (u := a) (v := v) (by omega) hv
  rw [gHas_bt hv] at this
  rw [this]
  rcases hh : fo K a v with _ | _
  · simp
  · have := fol_lt hK ha (fo_iff.mp hh)
    simp [this]
/-! ===== steps ===== -/
theorem gOS_bt {K : Bk} {dr : Nat → Int32} (h : gDrs K dr) {x : Int32} {v : Nat} (hv : v < 32) : ∀ i, i ≤ 20 → (bt (gOS dr x i) v = true ↔ bt x v = true ∨ ∃ w, w < i ∧ bt x w = true ∧ (w = v ∨ ed K w v))
  | 0, _ => by
    rw [gOS]
    exact ⟨Or.inl, fun q => q.elim id (fun ⟨w, hw, _⟩ => absurd hw (Nat.not_lt_zero w))⟩
  | i + 1, hi => by
    have ih := gOS_bt h (x := x) hv i (by omega)
    rw [gOS, gHas_bt (by omega)]
    by_cases c : bt x i = true
    · rw [if_pos c, b_or, gAt_in (by omega) (by decide), Bool.or_eq_true, ih, h i v (by omega) hv]
      constructor
      · rintro ((q | ⟨w, hw, q⟩) | q)
        · exact Or.inl q
        · exact Or.inr ⟨w, by omega, q⟩
        · exact Or.inr ⟨i, by omega, c, q⟩
      · rintro (q | ⟨w, hw, q1, q2⟩)
        · exact Or.inl (Or.inl q)
        · rcases Nat.lt_or_ge w i with d | d
          · exact Or.inl (Or.inr ⟨w, d, q1, q2⟩)
          · rw [show w = i by omega] at q2; exact Or.inr q2
    · rw [if_neg c, ih]
      constructor
      · rintro (q | ⟨w, hw, q⟩)
        · exact Or.inl q
        · exact Or.inr ⟨w, by omega, q⟩
      · rintro (q | ⟨w, hw, q1, q2⟩)
        · exact Or.inl q
        · rcases Nat.lt_or_ge w i with d | d
          · exact Or.inr ⟨w, d, q1, q2⟩
          · rw [show w = i by omega] at q1; exact absurd q1 c
theorem gRe_bt {K : Bk} {n : Nat} (hn : n ≤ 10) (hK : ∀ j, j < K.1 → K.2.1 j < 2 * n ∧ K.2.2.1 j < 2 * n) {dr : Nat → Int32} (h : gDrs K dr) {a : Nat} (ha : a < 2 * n) : ∀ i v, v < 32 → (bt (gRe dr n a i) v = true ↔ ∃ m, m ≤ i ∧ rk K m a v)
  | 0, v, hv => by
    rw [gRe, bt_one (by omega) hv, decide_eq_true_iff]
    constructor
    · intro e; exact ⟨0, Nat.le_refl _, e.symm⟩
    · rintro ⟨m, hm, q⟩
      rw [show m = 0 by omega] at q
      exact (show a = v from q).symm
  | i + 1, v, hv => by
    have ih := gRe_bt hn hK h ha i
    rw [gRe, gOS_bt h hv (2 * n) (by omega), ih v hv]
    constructor
    · rintro (⟨m, hm, q⟩ | ⟨w, hw, q1, q2⟩)
      · exact ⟨m, by omega, q⟩
      · obtain ⟨m, hm, q⟩ := (ih w (by omega)).mp q1
        rcases q2 with rfl | q2
        · exact ⟨m, by omega, q⟩
        · exact ⟨m + 1, by omega, w, q, q2⟩
    · rintro ⟨m, hm, q⟩
      rcases Nat.lt_or_ge i m with c | c
      · rw [show m = i + 1 by omega] at q
        obtain ⟨w, q1, q2⟩ := q
        have hw : w < 2 * n := fol_lt hK ha ⟨i, q1⟩
        exact Or.inr ⟨w, hw, (ih w (by omega)).mpr ⟨i, Nat.le_refl _, q1⟩, Or.inr q2⟩
      · exact Or.inl ⟨m, c, q⟩
theorem steps_eq {K : Bk} {n : Nat} (hn : n ≤ 10) (hK : ∀ j, j < K.1 → K.2.1 j < 2 * n ∧ K.2.2.1 j < 2 * n) {dr : Nat → Int32} (h : gDrs K dr) {a b : Nat} (ha : a < 2 * n) (hb : b < 2 * n)
    (hd : (fo K a b = true ∧ ∃ m, m < 20 ∧ di K a b = nI m ∧ rk K m a b) ∨ (fo K a b = false ∧ di K a b = -1)) : gStp dr n a b = di K a b := by
  rw [gStp_eq]
  have hp : ∀ j, gSp dr n a b j = true ↔ ∃ m, m ≤ j ∧ rk K m a b := fun j => by
    unfold gSp
    rw [gHas_bt (by omega)]
    exact gRe_bt hn hK h ha j b (by omega)
  have hf : ∀ j, (¬ ∃ m, m ≤ j ∧ rk K m a b) → gSp dr n a b j = false := fun j q => by
    rcases hh : gSp dr n a b j with _ | _
    · rfl
    · exact absurd ((hp j).mp hh) q
  rcases hd with ⟨h1, m, hm, h2, h3⟩ | ⟨h1, h2⟩
  · obtain ⟨k, k1, k2, k3⟩ := (di_spec K a b).1 (fo_iff.mp h1)
    have c : k < 20 := by
      rcases Nat.lt_or_ge m k with d | d
      · exact absurd h3 (k3 m d)
      · omega
    rw [k1]
    exact gFst_hit (by omega) ((hp k).mpr ⟨k, Nat.le_refl _, k2⟩) (fun j hj => hf j (fun ⟨m, hm, q⟩ => k3 m (by omega) q)) c
  · rw [h2]
    exact gFst_no (fun j _ => hf j (fun ⟨m, _, q⟩ => by rw [fo_iff.mpr ⟨m, q⟩] at h1; cases h1))
