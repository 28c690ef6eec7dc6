/-! ROWS OF ROWS: arrays of arrays of ints; worlds with a tail of rows of ints. -/
/-- one place of a table of rows -/
def D2 (D : Nat → Nat → Nat) (a b v : Nat) : Nat → Nat → Nat := fun x y => if x = a ∧ y = b then v else D x y
theorem D2_at (D : Nat → Nat → Nat) (a b v : Nat) : D2 D a b v a b = v := if_pos ⟨rfl, rfl⟩
theorem D2_ne {D : Nat → Nat → Nat} {a b v x y : Nat} (h : ¬ (x = a ∧ y = b)) : D2 D a b v x y = D x y := if_neg h
/-- an array of references, as an entry of a world -/
abbrev qa_R (k : ClassId) (n : Nat) (f : Nat → Option Nat) : va_E := .inl (k, n, .inr (.inr (.inr (.inr f))))
/-- the refs of the first m places -/
def qa_up (m : Nat) (ad : Nat → Nat) : Nat → Option Nat := fun i => if i < m then some (ad i) else none
theorem qa_up_at {m i : Nat} {ad : Nat → Nat} (h : i < m) : qa_up m ad i = some (ad i) := if_pos h
/-- rows of ints, len long -/
def qE (k : ClassId) (len : Nat) (F : Nat → Nat → Int32) : Nat → va_E := fun i => .inl (k, len, .inl (F i))
/-- m entries, the i-th at ad i -/
def qT (m : Nat) (ad : Nat → Nat) (e : Nat → va_E) : va_W := (List.range m).map (fun i => (ad i, e i))
theorem qT_len (m : Nat) (ad : Nat → Nat) (e : Nat → va_E) : (qT m ad e).length = m := by simp [qT]
theorem qT_get {m i : Nat} (h : i < m) (ad : Nat → Nat) (e : Nat → va_E) : (qT m ad e)[i]? = some (ad i, e i) := by simp [qT, h]
theorem qT_set {m i : Nat} (h : i < m) (ad : Nat → Nat) (e : Nat → va_E) (x : va_E) : (qT m ad e).set i (ad i, x) = qT m ad (va_up e i x) := by
  apply List.ext_getElem?
  intro j
  by_cases c : j = i
  · subst c
    rw [List.getElem?_set_self (by rw [qT_len]; exact h), qT_get h]
    simp [va_up]
  · rw [List.getElem?_set_ne (fun q => c q.symm)]
    rcases Nat.lt_or_ge j m with d | d
    · rw [qT_get d, qT_get d]
      simp [va_up, c]
    · rw [List.getElem?_eq_none (by rw [qT_len]; exact d), List.getElem?_eq_none (by rw [qT_len]; exact d)]
theorem qT_congr {m : Nat} {ad : Nat → Nat} {e e' : Nat → va_E} (h : ∀ i, i < m → e i = e' i) : qT m ad e = qT m ad e' := by
  unfold qT
  exact List.map_congr_left (fun i hi => by rw [h i (List.mem_range.mp hi)])
theorem qT_ad {m : Nat} {ad ad' : Nat → Nat} {e : Nat → va_E} (h : ∀ i, i < m → ad i = ad' i) : qT m ad e = qT m ad' e := by
  unfold qT
  exact List.map_congr_left (fun i hi => by rw [h i (List.mem_range.mp hi)])
theorem qT_succ (m : Nat) (ad : Nat → Nat) (e : Nat → va_E) : qT (m + 1) ad e = qT m ad e ++ [(ad m, e m)] := by
  unfold qT
  rw [List.range_succ, List.map_append]
  rfl
/-- an entry of the tail, of one tail or the first of two, or the second of two -/
theorem qT_in {X Y : va_W} {m i : Nat} (h : i < m) (ad : Nat → Nat) (e : Nat → va_E) : (X ++ (qT m ad e ++ Y))[X.length + i]? = some (ad i, e i) := by
  rw [List.getElem?_append_right (by omega), Nat.add_sub_cancel_left, List.getElem?_append_left (by rw [qT_len]; exact h), qT_get h]
theorem qT_in2 {X Y : va_W} {n i : Nat} (h : i < n) (ad : Nat → Nat) (e : Nat → va_E) : (X ++ (Y ++ qT n ad e))[X.length + (Y.length + i)]? = some (ad i, e i) := by
  rw [List.getElem?_append_right (by omega), Nat.add_sub_cancel_left, List.getElem?_append_right (by omega), Nat.add_sub_cancel_left, qT_get h]
theorem qT_set1 {X Y : va_W} {m i : Nat} (h : i < m) (ad : Nat → Nat) (e : Nat → va_E) (x : va_E) : (X ++ (qT m ad e ++ Y)).set (X.length + i) (ad i, x) = X ++ (qT m ad (va_up e i x) ++ Y) := by
  rw [List.set_append_right _ _ (by omega), Nat.add_sub_cancel_left, List.set_append_left _ _ (by rw [qT_len]; exact h), qT_set h]
theorem qT_set2 {X Y : va_W} {n i : Nat} (h : i < n) (ad : Nat → Nat) (e : Nat → va_E) (x : va_E) : (X ++ (Y ++ qT n ad e)).set (X.length + (Y.length + i)) (ad i, x) = X ++ (Y ++ qT n ad (va_up e i x)) := by
  rw [List.set_append_right _ _ (by omega), Nat.add_sub_cancel_left, List.set_append_right _ _ (by omega), Nat.add_sub_cancel_left, qT_set h]
theorem qE_up (k : ClassId) (len : Nat) (F : Nat → Nat → Int32) (i : Nat) (g : Nat → Int32) : va_up (qE k len F) i (.inl (k, len, .inl g)) = qE k len (va_up F i g) := by
  funext j
  by_cases c : j = i
  · subst c; simp [va_up, qE]
  · simp [va_up, qE, c]
/-- a table of naturals as rows of ints -/
def qD (D : Nat → Nat → Nat) : Nat → Nat → Int32 := fun i j => nI (D i j)
theorem qD_up (D : Nat → Nat → Nat) (a b v : Nat) : va_up (qD D) a (upd (qD D a) b (nI v)) = qD (D2 D a b v) := by
  funext i j
  by_cases c : i = a
  · subst c
    by_cases d : j = b
    · subst d; simp [va_up, upd, qD, D2]
    · simp [va_up, upd, qD, D2, d]
  · simp [va_up, upd, qD, D2, c]
section QA
variable {p : Program} {l : Launch} {e : Env} {R : Room} {s : State} {m : MethodId} {args : Array Value} {below : List Frame} {meth : Method} {c : Code} {H : Heap} {locs : List Loc} {cells slots : Nat} {Q : State → Prop}
variable {cc : ByteArray} {pc : Nat} {ls : Array Slot} {rest : List Value} {D : va_G} {cl : List vw_C} {A : Nat → Prop} {a : Nat} {tys : List (ClassId × FieldType)} {ws : va_W} {H0 : Heap}
theorem qa_ald (hexec : p.tables.exec = Jvm.exec) (hb : c.code = cc) (hK : va_K D cl tys s) (hP : va_P D cl ws H) (q0 t0 : Nat) {cA : ClassId} {n : Nat} {f : Nat → Option Nat} (ha : ws[q0]? = some (a, qa_R cA n f)) (ht : tys[t0]? = some (cA, .array .int)) {i : Int32} {v : Nat} (hin : vp_in i n) (hv : f i.toNatClampNeg = some v) (hdg : decode cc pc = .ok (.aaload, 1))
    (kk : W p l e R s m args below meth c H locs cells slots Q (F0 m (pc + 1) ls (.ref v :: rest))) : W p l e R s m args below meth c H locs cells slots Q (F0 m pc ls (.int i :: .ref a :: rest)) := by
  have hlt : i.toNatClampNeg < n := Nat.not_le.mp fun q => hin (Or.inr q)
  have e1 : va_rf (f i.toNatClampNeg) = .ref v := by rw [hv]; rfl
  refine W.aald (v := va_rf (f i.toNatClampNeg)) (ty := .array .int) hexec hb (hP q0 _ ha) ((hK.2 t0 _ ht).1 n (fun j => va_rf (f j))) rfl (fun q => by cases q) (by show ¬ (i < 0 ∨ (arrV _ _ _).slots.size ≤ _); rw [arrV_size]; exact hin) (by show (arrV _ _ _).slots[_]? = _; rw [arrV_read _ _ hlt]) rfl rfl hdg ?_
  rw [e1]
  exact kk
theorem qa_ast (hexec : p.tables.exec = Jvm.exec) (hb : c.code = cc) (hO : va_AOA .int s) (hK : va_K D cl tys s) (hP : va_P D cl ws H) (hD : va_D A ws) (hS : va_S A H0 H locs) (q0 t0 qk tk : Nat) {cA cI : ClassId} {n v len : Nat} {F : Nat → Int32} {f : Nat → Option Nat} (ha : ws[q0]? = some (a, qa_R cA n f)) (ht : tys[t0]? = some (cA, .array .int)) (hv : ws[qk]? = some (v, .inl (cI, len, .inl F))) (hc : tys[tk]? = some (cI, .int)) {i : Int32} (hin : vp_in i n) (hdg : decode cc pc = .ok (.aastore, 1))
    (kk : ∀ (H1 : Heap) (locs1 : List Loc), va_P D cl (ws.set q0 (a, qa_R cA n (va_up f i.toNatClampNeg (some v)))) H1 → va_D A (ws.set q0 (a, qa_R cA n (va_up f i.toNatClampNeg (some v)))) → va_S A H0 H1 locs1 → W p l e R s m args below meth c H1 locs1 cells slots Q (F0 m (pc + 1) ls rest)) : W p l e R s m args below meth c H locs cells slots Q (F0 m pc ls (.ref v :: .int i :: .ref a :: rest)) := by
  have hlt : i.toNatClampNeg < n := Nat.not_le.mp fun q => hin (Or.inr q)
  have h0 : ¬ i < 0 := fun q => hin (Or.inl q)
  obtain ⟨comp, c9, kA, k1, k2, k3, k4⟩ := hO.spec
  have r1 : s.vm.findClass ("[" ++ (FieldType.array .int).toString) = some cA := (hK.2 t0 _ ht).2
  have r2 : s.vm.findClass ("[" ++ FieldType.int.toString) = some cI := (hK.2 tk _ hc).2
  cases k4.symm.trans r1
  have k1' : s.vm.findClass ("[" ++ FieldType.int.toString) = some comp := k1
  cases k1'.symm.trans r2
  obtain ⟨kE, hkE, -⟩ := Vm.findClass_spec k1'
  refine W.aast (cv := vp_cell cI (len, .inl F)) hexec hb (hP q0 _ ha) (fun q h => by cases h) (fun h => by cases h) k2 k3 rfl hkE ⟨h0, by show _ < (arrV _ _ _).slots.size; rw [arrV_size]; exact hlt⟩ (hP qk _ hv) (fun q h => by cases h) hkE (va_asg s.vm cI) rfl rfl hdg fun H1 e z oq => ?_
  refine kk H1 _ (hP.set hD ha ?_ oq) (hD.set ha) (hS.put z oq (hD.2 q0 _ ha))
  show H1[a]? = some (vp_cell _ _)
  rw [e]
  show some ((vp_cell cA (n, .inr (.inr (.inr (.inr f))))).setSlot _ _) = _
  rw [vp_cell_q, vp_cell_q, arrV_store]
  congr 2
  funext q
  by_cases hq : q = i.toNatClampNeg
  · subst hq
    simp [updV, va_up, va_rf]
  · simp [updV, va_up, hq]
theorem qa_new (hexec : p.tables.exec = Jvm.exec) (hb : c.code = cc) {own : String} {index : Nat} (hown : s.vm.findClass own = some m.cls) (hclink : (Cond.classLink own index (FieldType.array .int).toString).before args s = true) (hover : va_AOA .int s) (hK : va_K D cl tys s) (hP : va_P D cl ws H) (hD : va_D A ws) (hS : va_S A H0 H locs) (hA : ∀ q, H0.size ≤ q → A q)
    {n : Int32} {N' : Nat} (hn : ¬ n < 0) (hN : n.toNatClampNeg = N') (hbytes : N' * 4 ≤ 536870912) (hcells : cells + 1 ≤ R.cells) (hslots : slots + N' ≤ R.slots) (hdg : decode cc pc = .ok (.anewarray index, 3))
    (kk : ∀ (q : Nat) (cA : ClassId) (H1 : Heap), va_K D cl (tys ++ [(cA, .array .int)]) s → va_P D cl (ws ++ [(q, qa_R cA N' (fun _ => none))]) H1 → va_D A (ws ++ [(q, qa_R cA N' (fun _ => none))]) → va_S A H0 H1 locs →
      W p l e R s m args below meth c H1 locs (cells + 1) (slots + N') Q (F0 m (pc + 3) ls (.ref q :: rest))) : W p l e R s m args below meth c H locs cells slots Q (F0 m pc ls (.int n :: rest)) := by
  subst hN
  refine W.anewA hexec hb hown hclink hover.use rfl hdg rfl hn hbytes hcells hslots fun cA kA comp f1 f2 f3 f4 => ?_
  generalize hH1 : H.push ({ cls := cA, slots := Array.replicate n.toNatClampNeg .null, vm := .none } : Cell) = H1
  have z1 : H1.size = H.size + 1 := by rw [← hH1, Array.size_push]
  have e1 : H1[H.size]? = some (arrV cA n.toNatClampNeg (fun _ => .null)) := by rw [← hH1, Array.getElem?_push_size, ← arrV_new]
  have o1 : ∀ q : Nat, q < H.size → H1[q]? = H[q]? := fun q hq => by rw [← hH1, Array.getElem?_push, if_neg (Nat.ne_of_lt hq)]
  have hAr : ArrOfT s cA (.array .int) := fun N z => ⟨(fun k h => by cases h), kA, f2, comp, f3⟩
  have hk : ∀ (k : Nat) (x : Nat × va_E), ws[k]? = some x → H1[x.1]? = H[x.1]? := fun k x hx => o1 x.1 ((hP k x hx).lt)
  refine kk H.size cA H1 (hK.app ⟨hK.1, fun k x hx => ?_⟩) ((hP.kept hk).app (fun k x hx => ?_)) (hD.push hP rfl (hA _ hS.1)) ⟨Nat.le_trans hS.1 (by omega), fun x h1 h2 => (o1 x (Nat.lt_of_lt_of_le h1 hS.1)).trans (hS.2.1 x h1 h2), hS.2.2⟩
  · have hz : k < 1 := (List.getElem?_eq_some_iff.mp hx).1
    rw [show k = 0 by omega] at hx
    cases hx
    exact ⟨hAr, f1⟩
  · have hz : k < 1 := (List.getElem?_eq_some_iff.mp hx).1
    rw [show k = 0 by omega] at hx
    cases hx
    show H1[H.size]? = some (vp_cell _ _)
    rw [vp_cell_q]
    exact e1
end QA
theorem qR1 {X Y : va_W} {k : ClassId} {m len i : Nat} (h : i < m) (ad : Nat → Nat) (F : Nat → Nat → Int32) : (X ++ (qT m ad (qE k len F) ++ Y))[X.length + i]? = some (ad i, .inl (k, len, .inl (F i))) := qT_in h ad (qE k len F)
theorem qR2 {X Y : va_W} {k : ClassId} {n len i : Nat} (h : i < n) (ad : Nat → Nat) (F : Nat → Nat → Int32) : (X ++ (Y ++ qT n ad (qE k len F)))[X.length + (Y.length + i)]? = some (ad i, .inl (k, len, .inl (F i))) := qT_in2 h ad (qE k len F)
theorem qW1 {X Y : va_W} {k : ClassId} {m len i : Nat} (h : i < m) (ad : Nat → Nat) (F : Nat → Nat → Int32) (g : Nat → Int32) : (X ++ (qT m ad (qE k len F) ++ Y)).set (X.length + i) (ad i, .inl (k, len, .inl g)) = X ++ (qT m ad (qE k len (va_up F i g)) ++ Y) := by
  rw [qT_set1 h, qE_up]
theorem qW2 {X Y : va_W} {k : ClassId} {n len i : Nat} (h : i < n) (ad : Nat → Nat) (F : Nat → Nat → Int32) (g : Nat → Int32) : (X ++ (Y ++ qT n ad (qE k len F))).set (X.length + (Y.length + i)) (ad i, .inl (k, len, .inl g)) = X ++ (Y ++ qT n ad (qE k len (va_up F i g))) := by
  rw [qT_set2 h, qE_up]
theorem qW2D {X Y : va_W} {k : ClassId} {n len i : Nat} (h : i < n) (ad : Nat → Nat) (D : Nat → Nat → Nat) (j v : Nat) : (X ++ (Y ++ qT n ad (qE k len (qD D)))).set (X.length + (Y.length + i)) (ad i, .inl (k, len, .inl (upd (qD D i) j (nI v)))) = X ++ (Y ++ qT n ad (qE k len (qD (D2 D i j v)))) := by
  rw [qW2 h, qD_up]
theorem qa_side {X T : va_W} {x : Nat × va_E} : ((X ++ T) ++ [x]).Perm ((X ++ [x]) ++ T) := by
  rw [List.append_assoc, List.append_assoc]
  exact List.Perm.append_left X List.perm_append_comm
theorem qa_up_0 (ad : Nat → Nat) : (fun _ => none : Nat → Option Nat) = qa_up 0 ad := by
  funext i
  exact (if_neg (Nat.not_lt_zero i)).symm
theorem qa_up_put {m : Nat} {ad : Nat → Nat} {v : Nat} (h : ad m = v) : va_up (qa_up m ad) m (some v) = qa_up (m + 1) ad := by
  funext i
  unfold va_up qa_up
  by_cases c : i = m
  · subst c
    rw [if_pos rfl, if_pos (by omega), h]
  · rw [if_neg c]
    by_cases d : i < m
    · rw [if_pos d, if_pos (by omega)]
    · rw [if_neg d, if_neg (by omega)]
theorem qa_up_congr {m : Nat} {ad ad' : Nat → Nat} (h : ∀ i, i < m → ad i = ad' i) : qa_up m ad = qa_up m ad' := by
  funext i
  unfold qa_up
  by_cases c : i < m
  · rw [if_pos c, if_pos c, h i c]
  · rw [if_neg c, if_neg c]
/-- the addresses of the rows, one more -/
def qA (r : Nat) (rr : Nat → Nat) (b : Nat) : Nat → Nat := fun i => if i = r then b else rr i
theorem qA_at (r : Nat) (rr : Nat → Nat) (b : Nat) : qA r rr b r = b := if_pos rfl
theorem qA_ne {r i : Nat} (h : i < r) (rr : Nat → Nat) (b : Nat) : qA r rr b i = rr i := if_neg (by omega)
/-! ROWS OF ROWS, on: one class of each name; new arrays of classes known; order of a world; premises with what the table says of arrays of arrays, and with the script. -/
theorem va_K.one {D : va_G} {cl : List vw_C} {tys : List (ClassId × FieldType)} {U : State} (hK : va_K D cl tys U) {i j : Nat} {a b : ClassId} (hi : tys[i]? = some (a, .int)) (hj : tys[j]? = some (b, .int)) : a = b := by
  have r1 : U.vm.findClass ("[" ++ FieldType.int.toString) = some a := (hK.2 i _ hi).2
  have r2 : U.vm.findClass ("[" ++ FieldType.int.toString) = some b := (hK.2 j _ hj).2
  exact Option.some.inj (r1.symm.trans r2)
theorem va_K.oneA {D : va_G} {cl : List vw_C} {tys : List (ClassId × FieldType)} {U : State} (hK : va_K D cl tys U) {i j : Nat} {a b : ClassId} (hi : tys[i]? = some (a, .array .int)) (hj : tys[j]? = some (b, .array .int)) : a = b := by
  have r1 : U.vm.findClass ("[" ++ (FieldType.array .int).toString) = some a := (hK.2 i _ hi).2
  have r2 : U.vm.findClass ("[" ++ (FieldType.array .int).toString) = some b := (hK.2 j _ hj).2
  exact Option.some.inj (r1.symm.trans r2)
theorem va_P.perm {D : va_G} {cl : List vw_C} {ws ws' : va_W} {H : Heap} (h : va_P D cl ws H) (p : ws.Perm ws') : va_P D cl ws' H := fun k q hq => by
  obtain ⟨k', hk'⟩ := List.getElem?_of_mem (p.mem_iff.mpr (List.mem_of_getElem? hq))
  exact h k' q hk'
theorem va_D.nodup {A : Nat → Prop} {ws : va_W} (h : va_D A ws) : (ws.map Prod.fst).Nodup := by
  unfold List.Nodup
  rw [List.pairwise_iff_getElem]
  intro i j hi hj hij e
  rw [List.length_map] at hi hj
  rw [List.getElem_map, List.getElem_map] at e
  have q := h.1 i j _ _ (List.getElem?_eq_getElem hi) (List.getElem?_eq_getElem hj) e
  omega
theorem va_D.of_nodup {A : Nat → Prop} {ws : va_W} (h : (ws.map Prod.fst).Nodup) (hA : ∀ q, q ∈ ws → A q.1) : va_D A ws := by
  unfold List.Nodup at h
  rw [List.pairwise_iff_getElem] at h
  have key : ∀ (i j : Nat) (p q : Nat × va_E), ws[i]? = some p → ws[j]? = some q → i < j → p.1 ≠ q.1 := fun i j p q hp hq hij e => by
    obtain ⟨hi, ei⟩ := List.getElem?_eq_some_iff.mp hp
    obtain ⟨hj, ej⟩ := List.getElem?_eq_some_iff.mp hq
    refine h i j (by rw [List.length_map]; exact hi) (by rw [List.length_map]; exact hj) hij ?_
    rw [List.getElem_map, List.getElem_map, ei, ej]
    exact e
  refine ⟨fun i j p q hp hq e => ?_, fun k q hq => hA q (List.mem_of_getElem? hq)⟩
  rcases Nat.lt_trichotomy i j with c | c | c
  · exact absurd e (key i j p q hp hq c)
  · exact c
  · exact absurd e.symm (key j i q p hq hp c)
theorem va_D.perm {A : Nat → Prop} {ws ws' : va_W} (h : va_D A ws) (p : ws.Perm ws') : va_D A ws' :=
  va_D.of_nodup ((p.map Prod.fst).nodup_iff.mp h.nodup) (fun q hq => by
    obtain ⟨k, hk⟩ := List.getElem?_of_mem (p.mem_iff.mpr hq)
    exact h.2 k q hk)
/-- a row laid beside goes behind the tail -/
theorem qT_perm {X : va_W} {m : Nat} {ad ad' : Nat → Nat} {E E' : Nat → va_E} {b : Nat} {e : va_E} (h1 : ∀ i, i < m → ad i = ad' i) (h2 : ∀ i, i < m → E i = E' i) (hb : ad' m = b) (he : E' m = e) : ((X ++ [(b, e)]) ++ (qT m ad E ++ [])).Perm (X ++ (qT (m + 1) ad' E' ++ [])) := by
  have q : qT m ad E = qT m ad' E' := (qT_ad h1).trans (qT_congr h2)
  rw [q, qT_succ, hb, he, List.append_nil, List.append_nil, List.append_assoc]
  exact List.Perm.append_left X List.perm_append_comm
/-- premises of a method that makes arrays of arrays -/
abbrev qaPM (D : va_G) (As : List Value) (ws : va_W) (tys : List (ClassId × FieldType)) (sz : Nat) : Array Value → State → Prop := va_Pc As (fun U => U.heap.size = sz ∧ va_P D vwCl ws U.heap ∧ va_K D vwCl tys U ∧ va_D (fun _ => True) ws ∧ va_AOA .int U)
theorem qaPM_blind {D : va_G} {As : List Value} {ws : va_W} {tys : List (ClassId × FieldType)} {sz : Nat} : FrameBlind (qaPM D As ws tys sz) := fun a U g mk q => by
  obtain ⟨q0, q1, qP, qK, qD, qO⟩ := q
  exact ⟨q0, q1, qP, va_K.moved (u := U) (U := U.calling g mk a) (Vm.Alike.refl U.vm) qK, qD, va_AOA.moved (u := U) (U := U.calling g mk a) (Vm.Alike.refl U.vm) qO⟩
/-- premises of a method that reads the script -/
abbrev qaPC (As : List Value) (b L : Nat) (xs : Nat → Int32) : Array Value → State → Prop := va_Pc As (fun U => va_X b L xs U U.heap ∧ b < U.heap.size)
theorem qaPC_blind {As : List Value} {b L : Nat} {xs : Nat → Int32} : FrameBlind (qaPC As b L xs) := fun a U g mk q => by
  obtain ⟨q0, qX, qb⟩ := q
  exact ⟨q0, va_X.moved (u := U) (U := U.calling g mk a) (Vm.Alike.refl U.vm) qX, qb⟩
/-- premises of a method that makes arrays of arrays, and reads the script -/
abbrev qaPS (D : va_G) (As : List Value) (ws : va_W) (tys : List (ClassId × FieldType)) (sz b L : Nat) (xs : Nat → Int32) : Array Value → State → Prop := va_Pc As (fun U => U.heap.size = sz ∧ va_P D vwCl ws U.heap ∧ va_K D vwCl tys U ∧ va_D (fun _ => True) ws ∧ va_AOA .int U ∧ va_X b L xs U U.heap ∧ b < sz ∧ ∀ (k : Nat) (e : va_E), ws[k]? ≠ some (b, e))
theorem qaPS_blind {D : va_G} {As : List Value} {ws : va_W} {tys : List (ClassId × FieldType)} {sz b L : Nat} {xs : Nat → Int32} : FrameBlind (qaPS D As ws tys sz b L xs) := fun a U g mk q => by
  obtain ⟨q0, q1, qP, qK, qD, qO, qX, qb, qn⟩ := q
  exact ⟨q0, q1, qP, va_K.moved (u := U) (U := U.calling g mk a) (Vm.Alike.refl U.vm) qK, qD, va_AOA.moved (u := U) (U := U.calling g mk a) (Vm.Alike.refl U.vm) qO, va_X.moved (u := U) (U := U.calling g mk a) (Vm.Alike.refl U.vm) qX, qb, qn⟩
theorem qaS_not {ws : va_W} {sz b : Nat} (hb : b < sz) (hn : ∀ (k : Nat) (e : va_E), ws[k]? ≠ some (b, e)) : ¬ va_A ws sz b := by
  rintro (⟨k, e, h⟩ | h)
  · exact hn k e h
  · omega
/-- no cell of a world that may be written is the script -/
theorem qaS_off {A : Nat → Prop} {ws : va_W} {b : Nat} (hD : va_D A ws) (hbA : ¬ A b) : ∀ (k : Nat) (e : va_E), ws[k]? ≠ some (b, e) := fun k e h => hbA (hD.2 k _ h)
section QB
variable {p : Program} {l : Launch} {e : Env} {R : Room} {s : State} {m : MethodId} {args : Array Value} {below : List Frame} {meth : Method} {c : Code} {H : Heap} {locs : List Loc} {cells slots : Nat} {Q : State → Prop}
variable {cc : ByteArray} {pc : Nat} {ls : Array Slot} {rest : List Value} {D : va_G} {cl : List vw_C} {A : Nat → Prop} {a : Nat} {tys : List (ClassId × FieldType)} {ws : va_W} {H0 : Heap}
theorem qa_newI (hexec : p.tables.exec = Jvm.exec) (hb : c.code = cc) (harr : (Cond.arrayClass .int).before args s = true) (hK : va_K D cl tys s) (hP : va_P D cl ws H) (hD : va_D A ws) (hS : va_S A H0 H locs) (hA : ∀ q, H0.size ≤ q → A q) (tI : Nat) {kI : ClassId} (hI : tys[tI]? = some (kI, .int))
    {n : Int32} {N' : Nat} (hn : ¬ n < 0) (hN : n.toNatClampNeg = N') (hbytes : N' * 4 ≤ 536870912) (hcells : cells + 1 ≤ R.cells) (hslots : slots + N' ≤ R.slots) (hdg : decode cc pc = .ok (.newarray .int, 2))
    (kk : ∀ (q : Nat) (H1 : Heap), va_P D cl (ws ++ [(q, .inl (kI, N', .inl (fun _ => 0)))]) H1 → va_D A (ws ++ [(q, .inl (kI, N', .inl (fun _ => 0)))]) → va_S A H0 H1 locs →
      W p l e R s m args below meth c H1 locs (cells + 1) (slots + N') Q (F0 m (pc + 2) ls (.ref q :: rest))) : W p l e R s m args below meth c H locs cells slots Q (F0 m pc ls (.int n :: rest)) := by
  refine va_newa (atype := .int) hexec hb harr rfl hK hP hD hS hA (n := n) (N' := N') (a0 := (N', .inl (fun _ => 0))) (fun _ => rfl) hn hN hbytes hcells hslots hdg (fun q cA H1 hK1 hP1 hD1 hS1 => ?_)
  have hK1 : va_K D cl (tys ++ [(cA, .int)]) s := hK1
  have e : cA = kI := hK1.one (i := tys.length) (j := tI) (by simp) (by rw [List.getElem?_append_left (List.getElem?_eq_some_iff.mp hI).1]; exact hI)
  subst e
  exact kk q H1 hP1 hD1 hS1
theorem qa_newA (hexec : p.tables.exec = Jvm.exec) (hb : c.code = cc) {own : String} {index : Nat} (hown : s.vm.findClass own = some m.cls) (hclink : (Cond.classLink own index (FieldType.array .int).toString).before args s = true) (hover : va_AOA .int s) (hK : va_K D cl tys s) (hP : va_P D cl ws H) (hD : va_D A ws) (hS : va_S A H0 H locs) (hA : ∀ q, H0.size ≤ q → A q) (tA : Nat) {kA : ClassId} (hAA : tys[tA]? = some (kA, .array .int))
    {n : Int32} {N' : Nat} (hn : ¬ n < 0) (hN : n.toNatClampNeg = N') (hbytes : N' * 4 ≤ 536870912) (hcells : cells + 1 ≤ R.cells) (hslots : slots + N' ≤ R.slots) (hdg : decode cc pc = .ok (.anewarray index, 3))
    (kk : ∀ (q : Nat) (H1 : Heap), va_P D cl (ws ++ [(q, qa_R kA N' (fun _ => none))]) H1 → va_D A (ws ++ [(q, qa_R kA N' (fun _ => none))]) → va_S A H0 H1 locs →
      W p l e R s m args below meth c H1 locs (cells + 1) (slots + N') Q (F0 m (pc + 3) ls (.ref q :: rest))) : W p l e R s m args below meth c H locs cells slots Q (F0 m pc ls (.int n :: rest)) := by
  refine qa_new hexec hb hown hclink hover hK hP hD hS hA hn hN hbytes hcells hslots hdg (fun q cA H1 hK1 hP1 hD1 hS1 => ?_)
  have e : cA = kA := hK1.oneA (i := tys.length) (j := tA) (by simp) (by rw [List.getElem?_append_left (List.getElem?_eq_some_iff.mp hAA).1]; exact hAA)
  subst e
  exact kk q H1 hP1 hD1 hS1
theorem qa_mna {X T1 : va_W} (hexec : p.tables.exec = Jvm.exec) (hb : c.code = cc) {own : String} {index : Nat} (hown : s.vm.findClass own = some m.cls) (hclink : (Cond.classLink own index ("[" ++ (FieldType.array .int).toString)).before args s = true) (hover : va_AOA .int s) (harr : (Cond.arrayClass .int).before args s = true) (hK : va_K D cl tys s) (hP : va_P D cl (X ++ (T1 ++ [])) H) (hD : va_D A (X ++ (T1 ++ []))) (hS : va_S A H0 H locs) (hA : ∀ q, H0.size ≤ q → A q) (tI tA : Nat) {kI kA : ClassId} (hI : tys[tI]? = some (kI, .int)) (hAA : tys[tA]? = some (kA, .array .int))
    {n k : Int32} {N' K' : Nat} (hn : ¬ n < 0) (hk : ¬ k < 0) (hN : n.toNatClampNeg = N') (hM : k.toNatClampNeg = K') (hb1 : N' * 4 ≤ 536870912) (hb2 : K' * 4 ≤ 536870912) (hb3 : K' ≤ 536870912) (hcells : cells + (1 + N') ≤ R.cells) (hslots : slots + (N' + N' * K') ≤ R.slots) (hdg : decode cc pc = .ok (.multianewarray index 2, 4))
    (kk : ∀ (q : Nat) (sr : Nat → Nat) (H1 : Heap), va_P D cl ((X ++ [(q, qa_R kA N' (qa_up N' sr))]) ++ (T1 ++ qT N' sr (qE kI K' (qD (fun _ _ => 0))))) H1 → va_D A ((X ++ [(q, qa_R kA N' (qa_up N' sr))]) ++ (T1 ++ qT N' sr (qE kI K' (qD (fun _ _ => 0))))) → va_S A H0 H1 locs →
      W p l e R s m args below meth c H1 locs (cells + 1 + N') (slots + N' + N' * K') Q (F0 m (pc + 4) ls (.ref q :: rest))) : W p l e R s m args below meth c H locs cells slots Q (F0 m pc ls (.int k :: .int n :: rest)) := by
  refine va_mna (X := X ++ (T1 ++ [])) (L := []) (f := fun _ => .inl (kI, 0, .inl (fun _ => 0))) (z := (K', .inl (fun _ => 0))) hexec hb hown hclink hover harr (hK.2 tI _ hI).2 hK (by show va_P D cl ((X ++ (T1 ++ [])) ++ []) H; rw [List.append_nil (X ++ (T1 ++ []))]; exact hP) (by show va_D A ((X ++ (T1 ++ [])) ++ []); rw [List.append_nil (X ++ (T1 ++ []))]; exact hD) hS hA hn hk hN hM hb1 hb2 hb3 rfl rfl hcells hslots (fun c => by show _ = arrV c K' (fun _ => .int 0); rw [← arrV_new]; rfl) hdg (fun q r cA H1 hinj hnL hK1 hP1 hD1 hS1 => ?_)
  have e : cA = kA := hK1.oneA (i := tys.length) (j := tA) (by simp) (by rw [List.getElem?_append_left (List.getElem?_eq_some_iff.mp hAA).1]; exact hAA)
  subst e
  have hT : va_pl ([] ++ (List.range N').map r) (vr_up (fun _ => (.inl (kI, 0, .inl (fun _ => 0)) : va_E)) ((List.range N').map r) (.inl (kI, K', .inl (fun _ => 0)))) = qT N' r (qE kI K' (qD (fun _ _ => 0))) := by
    unfold va_pl qT
    rw [List.nil_append, List.map_map]
    refine List.map_congr_left (fun i hi => ?_)
    show (r i, vr_up _ _ _ (r i)) = _
    rw [vr_up_in (List.mem_map.mpr ⟨i, hi, rfl⟩)]
    rfl
  rw [hT] at hP1 hD1
  have hp : (((X ++ (T1 ++ [])) ++ [(q, qa_R cA N' (qa_up N' r))]) ++ qT N' r (qE kI K' (qD (fun _ _ => 0)))).Perm ((X ++ [(q, qa_R cA N' (qa_up N' r))]) ++ (T1 ++ qT N' r (qE kI K' (qD (fun _ _ => 0))))) := by
    rw [List.append_nil, List.append_assoc X T1, List.append_assoc X, List.append_assoc X]
    refine List.Perm.append_left X ?_
    rw [← List.append_assoc]
    exact List.Perm.append_right _ List.perm_append_comm
  exact kk q r H1 (hP1.perm hp) (hD1.perm hp) hS1
/-- a loop whose rounds make cells: its room grows by kc cells and kn slots a round -/
theorem gc_loopG {k0 n0 : Nat} (kc kn N : Nat) (I : Nat → Heap → List Loc → Array Slot → Prop) (h0 : I 0 H locs ls)
    (step : ∀ (i : Nat) (H : Heap) (locs : List Loc) (ls : Array Slot), i ≤ N → I i H locs ls →
      (∀ (H1 : Heap) (locs1 : List Loc) (ls1 : Array Slot), i < N → I (i + 1) H1 locs1 ls1 → W p l e R s m args below meth c H1 locs1 (k0 + kc * (i + 1)) (n0 + kn * (i + 1)) Q (F0 m pc ls1 [])) →
      W p l e R s m args below meth c H locs (k0 + kc * i) (n0 + kn * i) Q (F0 m pc ls [])) : W p l e R s m args below meth c H locs k0 n0 Q (F0 m pc ls []) := by
  have K : ∀ (n i : Nat) (H : Heap) (locs : List Loc) (ls : Array Slot), i ≤ N → N < i + n → I i H locs ls → W p l e R s m args below meth c H locs (k0 + kc * i) (n0 + kn * i) Q (F0 m pc ls []) := by
    intro n
    induction n with
    | zero => intro i H locs ls h1 h2; exact absurd h2 (by omega)
    | succ n ih =>
      intro i H locs ls h1 h2 h3
      exact step i H locs ls h1 h3 (fun H1 locs1 ls1 h4 h5 => ih (i + 1) H1 locs1 ls1 h4 (by omega) h5)
  exact K (N + 1) 0 H locs ls (Nat.zero_le N) (by omega) h0
end QB
