/-! STEPS, sealed: its recursion is never unfolded. -/
theorem gStp_ex (dr : Nat → Int32) (g wa wb : Nat) : ∃ x : Int32, x = gFst (gSp dr g wa wb) 20 := ⟨_, rfl⟩
noncomputable def gStp (dr : Nat → Int32) (g wa wb : Nat) : Int32 := Classical.choose (gStp_ex dr g wa wb)
theorem gStp_eq (dr : Nat → Int32) (g wa wb : Nat) : gStp dr g wa wb = gFst (gSp dr g wa wb) 20 := Classical.choose_spec (gStp_ex dr g wa wb)
theorem c_X0_stepsB (l : Launch) (dC : Nat → ClassId) (dI : Nat → Nat → Nat) (h : Nat → Nat) (kc : Nat → ClassId) (f1 : Nat → Int32) (f2 : Nat → Int32) (dr : Nat → Int32) (cl : Nat → Int32) (tr : Nat → Int32) (se : Nat → Int32) (g : Nat) (r : Nat) (inf : Int32) (ct : Nat) (wa : Nat) (wb : Nat) (hg : g ≤ 10) (ha : wa < 2 * g) (hb2 : wb < 2 * g) : Met l yX0_steps wsX0_steps ({ frames := 2, cells := 0, slots := 0, locals := 44 }) (gcPR (dC, dI) [.ref (h 0), .int (nI wa), .int (nI wb)] (gcW h kc f1 f2 dr cl tr se (nI g) (nI r) inf (nI ct)) (gcT kc)) (va_Qi (fun (rv : Int32) (_u : Unit) => rv = gStp dr g wa wb) (fun _ _ => True) (fun _ => False)) 0 0 (fun _ => False) := by
  rw [gStp_eq]
  exact c_X0_steps l dC dI h kc f1 f2 dr cl tr se g r inf ct wa wb hg ha hb2

