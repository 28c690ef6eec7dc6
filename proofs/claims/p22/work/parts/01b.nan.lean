/-! two answers of the same division: equal, or both no number -/
theorem nan_val {x : UInt64} (h : isNaN64 x = true) : FP.Core.val64 x = .nan := by
  have h1 := isNaN64_iff.mp h
  rw [show (0x7fffffffffffffff : Nat) = 2 ^ 63 - 1 from rfl, Nat.and_two_pow_sub_one_eq_mod] at h1
  have hE : FP.Core.fieldE FP.Core.b64 x.toNat = 2047 := by
    show x.toNat / 2 ^ 52 % 2 ^ 11 = 2047
    omega
  have hT : ¬ FP.Core.fieldT FP.Core.b64 x.toNat = 0 := by
    show ¬ x.toNat % 2 ^ 52 = 0
    omega
  unfold FP.Core.val64 FP.Core.decode
  rw [if_pos (by rw [hE]; rfl), if_neg hT]
theorem nan_cmp {x y : UInt64} (h : isNaN64 x = true) : ¬ Op.cmpValue (FP.dcmp x y) CmpOp.l = 0 := by
  have e : FP.dcmp x y = none := (FP.Core.dcmp_none x y).mpr (Or.inl (nan_val h))
  rw [e]
  decide
theorem alike_two {x y z : UInt64} (h1 : alike64 x z = true) (h2 : alike64 y z = true) : x = y ∨ (isNaN64 x = true ∧ isNaN64 y = true) := by
  unfold alike64 at h1 h2
  rw [Bool.or_eq_true, Bool.and_eq_true, decide_eq_true_iff] at h1 h2
  rcases h1 with h1 | ⟨h1, h3⟩
  · rcases h2 with h2 | ⟨h2, h4⟩
    · exact Or.inl (h1.trans h2.symm)
    · exact Or.inr ⟨by rw [h1]; exact h4, h2⟩
  · rcases h2 with h2 | ⟨h2, h4⟩
    · exact Or.inr ⟨h1, by rw [h2]; exact h3⟩
    · exact Or.inr ⟨h1, h2⟩
