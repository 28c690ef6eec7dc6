/-! NUMBERS AND BITS. -/
theorem bt_1 : ∀ i, i < 32 → bt 1 i = decide (i = 0) := by decide +kernel
theorem and1 (y : Int32) : (y &&& 1) = 0 ↔ bt y 0 = false := by
  constructor
  · intro h
    have h1 := b_and y 1 0
    rw [h, b_0, bt_1 0 (by decide)] at h1
    simpa using h1.symm
  · intro h
    apply b_ext
    intro i hi
    rw [b_and, b_0, bt_1 i hi]
    by_cases c : i = 0
    · subst c; simp [h]
    · simp [c]
theorem gHas_bt {x : Int32} {b : Nat} (hb : b < 32) : gHas x (nI b) = bt x b := by
  have h := b_sshr b hb x (i := 0) (by decide)
  rw [Nat.add_zero, if_pos hb] at h
  unfold gHas
  simp only [and1, h]
  cases bt x b <;> simp
theorem bt_one {b v : Nat} (hb : b < 32) (hv : v < 32) : bt ((1 : Int32) <<< (nI b &&& 31)) v = decide (v = b) := by
  rw [b_shl b hb 1 hv]
  by_cases c : b ≤ v
  · rw [bt_1 (v - b) (by omega)]
    simp only [c, decide_true, Bool.true_and]
    congr 1
    exact propext ⟨fun _ => by omega, fun _ => by omega⟩
  · have : ¬ v = b := by omega
    simp [c, this]
theorem gAt_in {n j : Nat} (h : j < n) (hn : n < 2 ^ 31) (f : Nat → Int32) : gAt n f (nI j) = f j := by
  unfold gAt
  rw [if_neg (nI_pos (by omega)), if_neg (nI_ge h hn), nI_clamp (by omega)]
theorem gPut_in {n j : Nat} (h : j < n) (hn : n < 2 ^ 31) (f : Nat → Int32) (v : Int32) : gPut n f (nI j) v = upd f j v := by
  unfold gPut
  rw [if_neg (nI_pos (by omega)), if_neg (nI_ge h hn), nI_clamp (by omega)]
theorem nI_xor1 (a : Nat) : nI a ^^^ 1 = nI (a ^^^ 1) := fb_xorI a 1
theorem xor1_xor1 (a : Nat) : (a ^^^ 1) ^^^ 1 = a := by rw [Nat.xor_assoc, Nat.xor_self, Nat.xor_zero]
theorem xor1_ne (a : Nat) : a ^^^ 1 ≠ a := by
  rcases Nat.mod_two_eq_zero_or_one a with h | h
  · rw [xor1_even h]; omega
  · rw [xor1_odd h]; omega
theorem xor1_lt20 {a : Nat} (h : a < 20) : a ^^^ 1 < 20 := xor1_lt (n := 10) h
theorem gB_inj {a b : Bool} (h : a = b) : gB a = gB b := by rw [h]
theorem gB_nI (b : Bool) : gB b = nI (if b = true then 1 else 0) := by cases b <;> rfl
/-! ===== how many bits: bitCount's arithmetic ===== -/
theorem land_digit (a b r t B : Nat) (k : Nat) (hB : B = 2 ^ k) (hr : r < B) (ht : t < B) : (B * a + r) &&& (B * b + t) = B * (a &&& b) + (r &&& t) := by
  subst hB
  apply Nat.eq_of_testBit_eq
  intro i
  have hrt : r &&& t < 2 ^ k := Nat.lt_of_le_of_lt Nat.and_le_left hr
  rw [Nat.testBit_and, Nat.testBit_two_pow_mul_add _ hr, Nat.testBit_two_pow_mul_add _ ht, Nat.testBit_two_pow_mul_add _ hrt]
  by_cases c : i < k
  · simp [c]
  · simp [c]

def b8g (r : Nat) : Nat := r - ((r / 2) &&& 85)
def b8h (r : Nat) : Nat := (b8g r &&& 51) + ((b8g r / 4) &&& 51)
def b8p (r : Nat) : Nat := fb_ct (fun i => r.testBit i) 8
theorem b8_facts : ∀ r, r < 256 → ((r / 2) &&& 85 ≤ r ∧ b8g r < 256 ∧ b8h r < 128 ∧ b8h r % 16 ≤ 4 ∧ b8h r / 16 ≤ 4 ∧ b8h r % 16 + b8h r / 16 = b8p r) := by decide +kernel
theorem b8_s1 : ∀ r, r < 256 → ∀ q, q < 2 → (128 * q + r / 2) &&& 85 = (r / 2) &&& 85 := by decide +kernel
theorem b8_s2 : ∀ r, r < 256 → ∀ q, q < 4 → (64 * q + r / 4) &&& 51 = (r / 4) &&& 51 := by decide +kernel
theorem b8_le (r : Nat) : b8p r ≤ 8 := fb_ct_le _ 8
theorem s1_dig {q r M : Nat} (hr : r < 256) : ((256 * q + r) / 2) &&& (256 * M + 85) = 256 * ((q / 2) &&& M) + ((r / 2) &&& 85) := by
  rw [show (256 * q + r) / 2 = 256 * (q / 2) + (128 * (q % 2) + r / 2) by omega, land_digit _ _ _ _ _ 8 rfl (by omega) (by omega), b8_s1 r hr (q % 2) (by omega)]
theorem s2_dig {q r M : Nat} (hr : r < 256) : ((256 * q + r) / 4) &&& (256 * M + 51) = 256 * ((q / 4) &&& M) + ((r / 4) &&& 51) := by
  rw [show (256 * q + r) / 4 = 256 * (q / 4) + (64 * (q % 4) + r / 4) by omega, land_digit _ _ _ _ _ 8 rfl (by omega) (by omega), b8_s2 r hr (q % 4) (by omega)]
theorem s2_lo {q r M : Nat} (hr : r < 256) : (256 * q + r) &&& (256 * M + 51) = 256 * (q &&& M) + (r &&& 51) := land_digit _ _ _ _ _ 8 rfl hr (by omega)
theorem s3_lo {q r M : Nat} (hr : r < 256) : (256 * q + r) &&& (256 * M + 15) = 256 * (q &&& M) + (r % 16) := by
  rw [land_digit _ _ _ _ _ 8 rfl hr (by omega), show r &&& 15 = r % 16 from Nat.and_two_pow_sub_one_eq_mod r 4]
theorem b8_m {h m p : Nat} (h1 : h % 16 ≤ 4) (h2 : h / 16 ≤ 4) (h3 : h % 16 + h / 16 = p) : (h + h / 16 + 16 * m) % 16 = p := by omega
theorem b8_m0 {h p : Nat} (h1 : h % 16 ≤ 4) (h2 : h / 16 ≤ 4) (h3 : h % 16 + h / 16 = p) : (h + h / 16) % 16 = p := by omega
theorem pop_fin {p0 p1 p2 p3 a : Nat} (h0 : p0 ≤ 8) (h1 : p1 ≤ 8) (h2 : p2 ≤ 8) (h3 : p3 ≤ 8) (ha : a = 256 * (256 * (256 * p3 + p2) + p1) + p0) : (a + a / 256 + (a + a / 256) / 65536) % 64 = p0 + (p1 + (p2 + p3)) := by
  have e1 : a / 256 = 256 * (256 * p3 + p2) + p1 := by omega
  have e2 : (a + a / 256) / 65536 = 256 * p3 + (p2 + p3) := by rw [e1]; omega
  rw [e2, e1]
  omega
theorem pop_nat {b0 b1 b2 b3 n : Nat} (h0 : b0 < 256) (h1 : b1 < 256) (h2 : b2 < 256) (h3 : b3 < 256) (hn : n = 256 * (256 * (256 * b3 + b2) + b1) + b0) :
    ∃ a1 a2 a3 : Nat, (n / 2 &&& 1431655765 ≤ n) ∧ a1 = n - (n / 2 &&& 1431655765) ∧ a1 < 2 ^ 32 ∧ a2 = (a1 &&& 858993459) + (a1 / 4 &&& 858993459) ∧ a2 < 2 ^ 32 ∧ a3 = (a2 + a2 / 16) &&& 252645135 ∧ a3 = 256 * (256 * (256 * b8p b3 + b8p b2) + b8p b1) + b8p b0 := by
  obtain ⟨p1, p2, p3, p4, p5, p6⟩ := b8_facts b0 h0
  obtain ⟨q1, q2, q3, q4, q5, q6⟩ := b8_facts b1 h1
  obtain ⟨r1, r2, r3, r4, r5, r6⟩ := b8_facts b2 h2
  obtain ⟨t1, t2, t3, t4, t5, t6⟩ := b8_facts b3 h3
  have e1 : n / 2 &&& 1431655765 = 256 * (256 * (256 * (b3 / 2 &&& 85) + (b2 / 2 &&& 85)) + (b1 / 2 &&& 85)) + (b0 / 2 &&& 85) := by
    have z := s1_dig (q := 0) (M := 0) h3
    simp only [Nat.mul_zero, Nat.zero_add, Nat.zero_div, Nat.and_zero] at z
    rw [hn, show (1431655765 : Nat) = 256 * (256 * (256 * 85 + 85) + 85) + 85 from rfl, s1_dig h0, s1_dig h1, s1_dig h2]
  have hle : n / 2 &&& 1431655765 ≤ n := by rw [e1]; omega
  have e2 : n - (n / 2 &&& 1431655765) = 256 * (256 * (256 * b8g b3 + b8g b2) + b8g b1) + b8g b0 := by
    rw [e1]; unfold b8g; omega
  have e3 : ((n - (n / 2 &&& 1431655765)) &&& 858993459) + ((n - (n / 2 &&& 1431655765)) / 4 &&& 858993459) = 256 * (256 * (256 * b8h b3 + b8h b2) + b8h b1) + b8h b0 := by
    rw [e2, show (858993459 : Nat) = 256 * (256 * (256 * 51 + 51) + 51) + 51 from rfl, s2_lo p2, s2_lo q2, s2_lo r2, s2_dig p2, s2_dig q2, s2_dig r2]
    unfold b8h
    omega
  refine ⟨_, _, _, hle, rfl, by rw [e2]; omega, rfl, by rw [e3]; omega, rfl, ?_⟩
  rw [e3]
  obtain ⟨H1, hH1⟩ : ∃ z, z = 256 * (256 * b8h b3 + b8h b2) + b8h b1 := ⟨_, rfl⟩
  obtain ⟨H2, hH2⟩ : ∃ z, z = 256 * b8h b3 + b8h b2 := ⟨_, rfl⟩
  rw [← hH2] at hH1 ⊢
  rw [← hH1]
  have f0 : 256 * H1 + b8h b0 + (256 * H1 + b8h b0) / 16 = 256 * (H1 + H1 / 16) + (b8h b0 + b8h b0 / 16 + 16 * (b8h b1 % 16)) := by omega
  have f1 : H1 + H1 / 16 = 256 * (H2 + H2 / 16) + (b8h b1 + b8h b1 / 16 + 16 * (b8h b2 % 16)) := by omega
  have f2 : H2 + H2 / 16 = 256 * (b8h b3 + b8h b3 / 16) + (b8h b2 + b8h b2 / 16 + 16 * (b8h b3 % 16)) := by omega
  have f3 : b8h b3 + b8h b3 / 16 &&& 15 = (b8h b3 + b8h b3 / 16) % 16 := Nat.and_two_pow_sub_one_eq_mod _ 4
  rw [f0, show (252645135 : Nat) = 256 * (256 * (256 * 15 + 15) + 15) + 15 from rfl, s3_lo (by omega), f1, s3_lo (by omega), f2, s3_lo (by omega), f3, b8_m p4 p5 p6, b8_m q4 q5 q6, b8_m r4 r5 r6, b8_m0 t4 t5 t6]
theorem bt_nI {n i : Nat} (hn : n < 2 ^ 32) : bt (nI n) i = n.testBit i := by
  show (nI n).toBitVec.toNat.testBit i = _
  rw [pk_tn hn]
theorem fb_ct32 {b0 b1 b2 b3 n : Nat} (h0 : b0 < 256) (h1 : b1 < 256) (h2 : b2 < 256) (hn : n = 256 * (256 * (256 * b3 + b2) + b1) + b0) (h3 : b3 < 256) : fb_ct (fun i => n.testBit i) 32 = b8p b0 + (b8p b1 + (b8p b2 + b8p b3)) := by
  have lo : ∀ q r k, r < 256 → k < 8 → (256 * q + r).testBit k = r.testBit k := fun q r k hr hk => by
    rw [show 256 * q = 2 ^ 8 * q from rfl, Nat.testBit_two_pow_mul_add _ hr, if_pos hk]
  have hi : ∀ q r k, r < 256 → (256 * q + r).testBit (8 + k) = q.testBit k := fun q r k hr => by
    rw [show 256 * q = 2 ^ 8 * q from rfl, Nat.testBit_two_pow_mul_add _ hr, if_neg (by omega), show 8 + k - 8 = k by omega]
  have s0 : ∀ q r, r < 256 → ∀ m, fb_ct (fun i => (256 * q + r).testBit i) (8 + m) = b8p r + fb_ct (fun i => q.testBit i) m := fun q r hr m => by
    rw [fb_ct_split, fb_ct_cong (fun k hk => lo q r k hr hk), fb_ct_cong (n := m) (fun k _ => hi q r k hr)]
    rfl
  rw [hn, show (32 : Nat) = 8 + (8 + (8 + 8)) from rfl, s0 _ _ h0, s0 _ _ h1, s0 _ _ h2]
  rfl
theorem gUs_nI {n k : Nat} (hn : n < 2 ^ 32) (hk : (((nI k).toUInt32 &&& Int32.toUInt32 31).toBitVec % 32).toNat = k) : gUs (nI n) (nI k) = nI (n / 2 ^ k) := pk_ushrN hn (nI k) k hk
theorem gBC_eq (x : Int32) : gBC x = nI (fb_ct (fun i => bt x i) 32) := by
  obtain ⟨n, hn, rfl⟩ := wb_of32 x
  obtain ⟨b0, b1, b2, b3, h0, h1, h2, h3, e⟩ : ∃ b0 b1 b2 b3, b0 < 256 ∧ b1 < 256 ∧ b2 < 256 ∧ b3 < 256 ∧ n = 256 * (256 * (256 * b3 + b2) + b1) + b0 := ⟨n % 256, n / 256 % 256, n / 65536 % 256, n / 16777216, by omega, by omega, by omega, by omega, by omega⟩
  obtain ⟨a1, a2, a3, g1, g2, g3, g4, g5, g6, g7⟩ := pop_nat h0 h1 h2 h3 e
  have k1 : gBC1 (nI n) = nI a1 := by
    unfold gBC1
    rw [show (1 : Int32) = nI 1 from rfl, gUs_nI hn (s_u 1 (by decide)), show (1431655765 : Int32) = nI 1431655765 from rfl, nx_and, g2]
    exact pk_sub g1
  have k2 : gBC2 (nI a1) = nI a2 := by
    unfold gBC2
    rw [show (2 : Int32) = nI 2 from rfl, gUs_nI g3 (s_u 2 (by decide)), show (858993459 : Int32) = nI 858993459 from rfl, nx_and, nx_and, nI_add, g4]
  have k3 : gBC3 (nI a2) = nI a3 := by
    unfold gBC3
    rw [show (4 : Int32) = nI 4 from rfl, gUs_nI g5 (s_u 4 (by decide)), show (252645135 : Int32) = nI 252645135 from rfl, nI_add, nx_and, g6]
  have q0 := b8_le b0
  have q1 := b8_le b1
  have q2 := b8_le b2
  have q3 := b8_le b3
  have k4 : gBC4 (nI a3) = nI (a3 + a3 / 256) := by
    unfold gBC4
    rw [show (8 : Int32) = nI 8 from rfl, gUs_nI (by omega) (s_u 8 (by decide)), nI_add]
  have k5 : gBC5 (nI (a3 + a3 / 256)) = nI (a3 + a3 / 256 + (a3 + a3 / 256) / 65536) := by
    unfold gBC5
    rw [show (16 : Int32) = nI 16 from rfl, gUs_nI (by omega) (s_u 16 (by decide)), nI_add]
  unfold gBC
  rw [k1, k2, k3, k4, k5, show (63 : Int32) = nI 63 from rfl, nx_and, show (a3 + a3 / 256 + (a3 + a3 / 256) / 65536) &&& 63 = (a3 + a3 / 256 + (a3 + a3 / 256) / 65536) % 64 from Nat.and_two_pow_sub_one_eq_mod _ 6]
  have e2 : fb_ct (fun i => bt (nI n) i) 32 = fb_ct (fun i => n.testBit i) 32 := fb_ct_cong (fun k _ => bt_nI hn)
  rw [e2, fb_ct32 h0 h1 h2 e h3, pop_fin q0 q1 q2 q3 g7]
