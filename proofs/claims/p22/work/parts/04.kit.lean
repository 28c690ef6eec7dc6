/-! WORLDS: the book's cells, the reference's cells; two kinds of premises; small rows that the walks use. -/
/-- the book: h 0 the object, h 1 .. h 6 its rows firsts, seconds, direct, closed, trial, seated -/
abbrev gcW (h : Nat → Nat) (kc : Nat → ClassId) (f1 f2 dr cl tr se : Nat → Int32) (gc rc inf sc : Int32) : va_W := [(h 0, .inr (0, [.ref (h 1), .ref (h 2), .ref (h 3), .ref (h 4), .ref (h 5), .ref (h 6), .int gc, .int rc, .int inf, .int sc])), (h 1, .inl (kc 1, 30, .inl f1)), (h 2, .inl (kc 2, 30, .inl f2)), (h 3, .inl (kc 3, 20, .inl dr)), (h 4, .inl (kc 4, 20, .inl cl)), (h 5, .inl (kc 5, 20, .inl tr)), (h 6, .inl (kc 6, 1024, .inl se))]
abbrev gcT (kc : Nat → ClassId) : List (ClassId × FieldType) := [(kc 1, .int), (kc 2, .int), (kc 3, .int), (kc 4, .int), (kc 5, .int), (kc 6, .int)]
/-- the reference: h 0 the object, h 1 .. h 5 its rows firsts, seconds, off, row, far -/
abbrev gmW (h : Nat → Nat) (kc : Nat → ClassId) (f1 f2 of ro fa : Nat → Int32) (th gs rs x1 x2 : Int32) : va_W := [(h 0, .inr (1, [.int th, .int gs, .int rs, .ref (h 1), .ref (h 2), .ref (h 3), .int x1, .int x2, .ref (h 4), .ref (h 5)])), (h 1, .inl (kc 1, 30, .inl f1)), (h 2, .inl (kc 2, 30, .inl f2)), (h 3, .inl (kc 3, 30, .inl of)), (h 4, .inl (kc 4, 20, .inl ro)), (h 5, .inl (kc 5, 20, .inl fa))]
abbrev gmT (kc : Nat → ClassId) : List (ClassId × FieldType) := [(kc 1, .int), (kc 2, .int), (kc 3, .boolean), (kc 4, .int), (kc 5, .int)]
/-- premises of a method that only reads -/
abbrev gcPR (D : va_G) (As : List Value) (ws : va_W) (tys : List (ClassId × FieldType)) : Array Value → State → Prop := va_Pc As (fun U => va_P D vwCl ws U.heap ∧ va_K D vwCl tys U)
/-- premises of a method that writes -/
abbrev gcPM (D : va_G) (As : List Value) (ws : va_W) (tys : List (ClassId × FieldType)) (sz : Nat) : Array Value → State → Prop := va_Pc As (fun U => U.heap.size = sz ∧ va_P D vwCl ws U.heap ∧ va_K D vwCl tys U ∧ va_D (fun _ => True) ws)
theorem gcPR_blind {D : va_G} {As : List Value} {ws : va_W} {tys : List (ClassId × FieldType)} : FrameBlind (gcPR D As ws tys) := fun a U g mk q => by
  obtain ⟨q0, qP, qK⟩ := q
  exact ⟨q0, qP, va_K.moved (u := U) (U := U.calling g mk a) (Vm.Alike.refl U.vm) qK⟩
theorem gcPM_blind {D : va_G} {As : List Value} {ws : va_W} {tys : List (ClassId × FieldType)} {sz : Nat} : FrameBlind (gcPM D As ws tys sz) := fun a U g mk q => by
  obtain ⟨q0, q1, qP, qK, qD⟩ := q
  exact ⟨q0, q1, qP, va_K.moved (u := U) (U := U.calling g mk a) (Vm.Alike.refl U.vm) qK, qD⟩
theorem gc_keep {D : va_G} {cl : List vw_C} {ws : va_W} {H H1 : Heap} (h : va_P D cl ws H) (hk : ∀ q : Nat, q < H.size → ¬ False → H1[q]? = H[q]?) : va_P D cl ws H1 :=
  h.kept fun _ _ hq => hk _ (vx_lt h hq) id
theorem gc_ge {i N : Nat} (c : nI N ≤ nI i) (h : i ≤ N) (hN : N < 2 ^ 31) : i = N := by
  have h1 := (nI_leI (a := N) (b := i) hN (by omega)).mp c
  omega
theorem gc_lt {i N : Nat} (c : ¬ nI N ≤ nI i) (h : i ≤ N) (hN : N < 2 ^ 31) : i < N := by
  rcases Nat.lt_or_ge i N with h1 | h1
  · exact h1
  · exact absurd (nI_le (a := N) (b := i) h1 (by omega)) c
def gB (b : Bool) : Int32 := if b then 1 else 0
theorem gB_f {b : Bool} (h : gB b = 0) : b = false := by cases b <;> first | rfl | exact absurd h (by decide)
theorem gB_t {b : Bool} (h : ¬ gB b = 0) : b = true := by cases b <;> first | rfl | exact absurd (by decide) h
theorem gB_nar (b : Bool) : narrow .boolean (.int (gB b)) = .int (gB b) := by cases b <;> rfl
theorem gc_in {i : Int32} {n : Nat} (hn : n < 2 ^ 31) (h0 : ¬ i < 0) (h1 : ¬ nI n ≤ i) : vp_in i n := by
  rcases pk_ix i hn with h | h | ⟨j, hj, rfl⟩
  · exact absurd h h0
  · exact absurd h h1
  · exact vp_in_nI hj hn
section Rows
variable {p : Program} {l : Launch} {e : Env} {R : Room} {s : State} {m : MethodId} {args : Array Value} {below : List Frame} {meth : Method} {c : Code} {H : Heap} {locs : List Loc} {cells slots : Nat} {Q : State → Prop} {pc : Nat} {ls : Array Slot} {rest : List Value}
theorem gc_topi {x y : Int32} (h : x = y) (k : W p l e R s m args below meth c H locs cells slots Q (F0 m pc ls (.int y :: rest))) : W p l e R s m args below meth c H locs cells slots Q (F0 m pc ls (.int x :: rest)) := by rw [h]; exact k
theorem gc_topl {x y : Int64} (h : x = y) (k : W p l e R s m args below meth c H locs cells slots Q (F0 m pc ls (.long y :: rest))) : W p l e R s m args below meth c H locs cells slots Q (F0 m pc ls (.long x :: rest)) := by rw [h]; exact k
/-- a loop: an invariant over the count, the heap, what was written and the locals; it holds at the head, one round brings the next head -/
theorem gc_loop (N : Nat) (I : Nat → Heap → List Loc → Array Slot → Prop) (i0 : Nat) (hi0 : i0 ≤ N) (h0 : I i0 H locs ls)
    (step : ∀ (i : Nat) (H : Heap) (locs : List Loc) (ls : Array Slot), i ≤ N → I i H locs ls →
      (∀ (H1 : Heap) (locs1 : List Loc) (ls1 : Array Slot), i < N → I (i + 1) H1 locs1 ls1 → W p l e R s m args below meth c H1 locs1 cells slots Q (F0 m pc ls1 [])) →
      W p l e R s m args below meth c H locs cells slots Q (F0 m pc ls [])) : W p l e R s m args below meth c H locs cells slots Q (F0 m pc ls []) := by
  have K : ∀ (n i : Nat) (H : Heap) (locs : List Loc) (ls : Array Slot), i ≤ N → N < i + n → I i H locs ls → W p l e R s m args below meth c H locs cells slots Q (F0 m pc ls []) := by
    intro n
    induction n with
    | zero => intro i H locs ls h1 h2; exact absurd h2 (by omega)
    | succ n ih =>
      intro i H locs ls h1 h2 h3
      exact step i H locs ls h1 h3 (fun H1 locs1 ls1 h4 h5 => ih (i + 1) H1 locs1 ls1 h4 (by omega) h5)
  exact K (N + 1) i0 H locs ls hi0 (by omega) h0
end Rows
