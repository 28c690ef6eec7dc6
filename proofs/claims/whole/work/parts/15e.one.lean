set_option maxHeartbeats 4000000 in
set_option maxRecDepth 100000 in
/-- one call of the script -/
theorem law_one {p : Program} {e : Env} {s : State} {m : MethodId} {below : List Frame} {meth : Method} {c : Code} (l : Launch) (hgl : l.stackTraces = false) {b L : Nat} {xs : Nat → Int32} (hL : L ≤ 1536) (C0 : lw_At p s m meth c b L xs) {dC : Nat → ClassId} {dI : Nat → Nat → Nat} {aG : Nat → Nat} {kG : Nat → ClassId} {aM : Nat → Nat} {kM : Nat → ClassId} {oa : Nat} {ok : ClassId} (hK : va_K (dC, dI) vwCl (gcT kG ++ (gmT kM ++ ([(ok, .long)]))) s) (hXA : gcXA (fun q : Nat => s.heap.size ≤ q) s) {jj : Nat} (hj512 : jj ≤ 512) {d : Drawn} (hd : s.drawn.sameBut d lw_cs) {H : Heap} {locs : List Loc} {ls : Array Slot} (hLS : LSt dC dI s b aG kG aM kM oa ok jj H locs ls) (ih : ∀ (d1 : Drawn) (H1 : Heap) (locs1 : List Loc) (ls1 : Array Slot), jj < 512 → s.drawn.sameBut d1 lw_cs → LSt dC dI s b aG kG aM kM oa ok (jj + 1) H1 locs1 ls1 → W p l e room_1 (s.setDrawn d1) m #[Value.ref b] below meth c H1 locs1 (14 + (jj + 1)) (1295 + 6 * (jj + 1)) (lw_Z below #[Value.ref b] s) (F0 m 23 ls1 [])) : W p l e room_1 (s.setDrawn d) m #[Value.ref b] below meth c H locs (14 + jj) (1295 + 6 * jj) (lw_Z below #[Value.ref b] s) (F0 m 23 ls []) := by
  obtain ⟨hx, hb, hr, hml, hown, hts0, hX, hbl, hlocks, hgv⟩ := id C0
  obtain ⟨K, g, r, f1, f2, dr, cl, tr, se, inf, ct, of, ro, fa, th, ou, hI, hP, hD, hS, hl⟩ := hLS
  have hXd : va_X b L xs (s.setDrawn d) s.heap := hX
  have hbA : ¬ (fun q : Nat => s.heap.size ≤ q) b := Nat.not_le.mpr hbl
  refine lv_iload hx hb dL_law_23 (lv_at hl 0 rfl) ?_
  refine lv_aload_n hx hb dL_law_25 rfl (lv_at hl 1 rfl) ?_
  refine va_slen hx hb hXd hbl hbA hS dL_law_26 ?_
  refine lv_iconst (v := 3) hx hb dL_law_27 (by decide) ?_
  refine lv_isub hx hb dL_law_28 ?_
  refine lv_icmp_gt (tgt := 957) hx hb dL_law_29 (by decide) (fun c_29 => ?_) (fun c_29 => ?_)
  · refine lv_iconst (v := 1) hx hb dL_law_957 (by decide) ?_
    refine va_forget (fun q hq => hS.2.2 q hq) ?_
    refine W.widen (k := 1046) (n := 9535) (by omega) (by omega) ?_
    exact lw_ret hd hx hb hr hlocks dL_law_958
  have hj : 3 * jj + 3 ≤ L := law_gt hL hj512 c_29
  have ih2 := fun d1 H1 locs1 ls1 q1 q2 => ih d1 H1 locs1 ls1 (by omega) q1 q2
  refine lv_aload_n hx hb dL_law_32 rfl (lv_at hl 1 rfl) ?_
  refine lv_iload hx hb dL_law_33 (lv_at hl 0 rfl) ?_
  refine va_sld hx hb hXd hbl hbA hS (vp_in_nI (n := 3 * jj) (by omega) (by omega)) dL_law_35 ?_
  rw [nI_clamp (n := 3 * jj) (by omega)]
  refine lv_bipush (v := 31) hx hb dL_law_36 (by decide) ?_
  refine lv_iand hx hb dL_law_38 ?_
  obtain ⟨k, hk, ek⟩ := pk_andE (xs (3 * jj)) (m := 31) 5 (by decide)
  refine gc_topi (y := nI k) ek ?_
  rcases Nat.lt_or_ge 18 k with hk2 | hk2
  · refine lv_tableOut (tgt := 951) hx hb dL_law_39 (Or.inr (by rw [nI_toInt (by omega)]; omega)) (by decide) ?_
    exact law_19 l hgl hL C0 hK hXA hj hd hI hP hD hS hl ih2
  rcases (show k = 0 ∨ k = 1 ∨ k = 2 ∨ k = 3 ∨ k = 4 ∨ k = 5 ∨ k = 6 ∨ k = 7 ∨ k = 8 ∨ k = 9 ∨ k = 10 ∨ k = 11 ∨ k = 12 ∨ k = 13 ∨ k = 14 ∨ k = 15 ∨ k = 16 ∨ k = 17 ∨ k = 18 by omega) with rfl | rfl | rfl | rfl | rfl | rfl | rfl | rfl | rfl | rfl | rfl | rfl | rfl | rfl | rfl | rfl | rfl | rfl | rfl
  · skip
    refine lv_tableIn (off := 89) (tgt := 128) hx hb dL_law_39 (by decide) (by decide) rfl (by decide) ?_
    rcases Nat.lt_or_ge g 10 with h1 | h1
    · exact law_0 l hgl hL C0 hK hXA hj hd hI hP hD hS hl ih2 h1
    · exact law_0x l hgl hL C0 hK hXA hj hd hI hP hD hS hl ih2 (Nat.le_antisymm hI.1 h1)
  · skip
    refine lv_tableIn (off := 133) (tgt := 172) hx hb dL_law_39 (by decide) (by decide) rfl (by decide) ?_
    rcases gc_or (xs (3 * jj + 1)) (2 * g) with ⟨wa, ha, h1⟩ | h1
    · rcases gc_or (xs (3 * jj + 2)) (2 * g) with ⟨wb, hb2, h2⟩ | h2
      · by_cases hne : wa = wb
        · subst hne
          exact law_1y l hgl hL C0 hK hXA hj hd hI hP hD hS hl ih2 ha h1 h2
        · rcases Nat.lt_or_ge r 30 with h3 | h3
          · exact law_1 l hgl hL C0 hK hXA hj hd hI hP hD hS hl ih2 ha hb2 h1 h2 h3 hne
          · exact law_1z l hgl hL C0 hK hXA hj hd hI hP hD hS hl ih2 ha hb2 h1 h2 (Nat.le_antisymm hI.2.1 h3) hne
      · exact law_1x l hgl hL C0 hK hXA hj hd hI hP hD hS hl ih2 (Or.inr h2)
    · exact law_1x l hgl hL C0 hK hXA hj hd hI hP hD hS hl ih2 (Or.inl h1)
  · skip
    refine lv_tableIn (off := 201) (tgt := 240) hx hb dL_law_39 (by decide) (by decide) rfl (by decide) ?_
    rcases gc_or (xs (3 * jj + 1)) (r) with ⟨x, hx2, h1⟩ | h1
    · exact law_2 l hgl hL C0 hK hXA hj hd hI hP hD hS hl ih2 hx2 h1
    · exact law_2x l hgl hL C0 hK hXA hj hd hI hP hD hS hl ih2 h1
  · skip
    refine lv_tableIn (off := 264) (tgt := 303) hx hb dL_law_39 (by decide) (by decide) rfl (by decide) ?_
    rcases gc_or (xs (3 * jj + 1)) (r) with ⟨x, hx2, h1⟩ | h1
    · rcases gc_or (xs (3 * jj + 2)) (3) with ⟨w, hw, h2⟩ | h2
      · exact law_3 l hgl hL C0 hK hXA hj hd hI hP hD hS hl ih2 hx2 hw h1 h2
      · exact law_3y l hgl hL C0 hK hXA hj hd hI hP hD hS hl ih2 hx2 h1 h2
    · exact law_3x l hgl hL C0 hK hXA hj hd hI hP hD hS hl ih2 h1
  · skip
    refine lv_tableIn (off := 332) (tgt := 371) hx hb dL_law_39 (by decide) (by decide) rfl (by decide) ?_
    rcases gc_or (xs (3 * jj + 1)) (2 * g) with ⟨wa, ha, h1⟩ | h1
    · rcases gc_or (xs (3 * jj + 2)) (2 * g) with ⟨wb, hb2, h2⟩ | h2
      · exact law_4 l hgl hL C0 hK hXA hj hd hI hP hD hS hl ih2 ha hb2 h1 h2
      · exact law_4x l hgl hL C0 hK hXA hj hd hI hP hD hS hl ih2 (Or.inr h2)
    · exact law_4x l hgl hL C0 hK hXA hj hd hI hP hD hS hl ih2 (Or.inl h1)
  · skip
    refine lv_tableIn (off := 407) (tgt := 446) hx hb dL_law_39 (by decide) (by decide) rfl (by decide) ?_
    rcases gc_or (xs (3 * jj + 1)) (2 * g) with ⟨x, hx2, h1⟩ | h1
    · exact law_5 l hgl hL C0 hK hXA hj hd hI hP hD hS hl ih2 hx2 h1
    · exact law_5x l hgl hL C0 hK hXA hj hd hI hP hD hS hl ih2 h1
  · skip
    refine lv_tableIn (off := 463) (tgt := 502) hx hb dL_law_39 (by decide) (by decide) rfl (by decide) ?_
    rcases gc_or (xs (3 * jj + 1)) (2 * g) with ⟨wa, ha, h1⟩ | h1
    · rcases gc_or (xs (3 * jj + 2)) (2 * g) with ⟨wb, hb2, h2⟩ | h2
      · exact law_6 l hgl hL C0 hK hXA hj hd hI hP hD hS hl ih2 ha hb2 h1 h2
      · exact law_6x l hgl hL C0 hK hXA hj hd hI hP hD hS hl ih2 (Or.inr h2)
    · exact law_6x l hgl hL C0 hK hXA hj hd hI hP hD hS hl ih2 (Or.inl h1)
  · skip
    refine lv_tableIn (off := 531) (tgt := 570) hx hb dL_law_39 (by decide) (by decide) rfl (by decide) ?_
    rcases gc_or (xs (3 * jj + 1)) (g) with ⟨x, hx2, h1⟩ | h1
    · rcases gc_or (xs (3 * jj + 2)) (4) with ⟨w, hw, h2⟩ | h2
      · exact law_7 l hgl hL C0 hK hXA hj hd hI hP hD hS hl ih2 hx2 hw h1 h2
      · exact law_7y l hgl hL C0 hK hXA hj hd hI hP hD hS hl ih2 hx2 h1 h2
    · exact law_7x l hgl hL C0 hK hXA hj hd hI hP hD hS hl ih2 h1
  · skip
    refine lv_tableIn (off := 599) (tgt := 638) hx hb dL_law_39 (by decide) (by decide) rfl (by decide) ?_
    exact law_8 l hgl hL C0 hK hXA hj hd hI hP hD hS hl ih2
  · skip
    refine lv_tableIn (off := 612) (tgt := 651) hx hb dL_law_39 (by decide) (by decide) rfl (by decide) ?_
    exact law_9 l hgl hL C0 hK hXA hj hd hI hP hD hS hl ih2
  · skip
    refine lv_tableIn (off := 625) (tgt := 664) hx hb dL_law_39 (by decide) (by decide) rfl (by decide) ?_
    exact law_10 l hgl hL C0 hK hXA hj hd hI hP hD hS hl ih2
  · skip
    refine lv_tableIn (off := 638) (tgt := 677) hx hb dL_law_39 (by decide) (by decide) rfl (by decide) ?_
    exact law_11 l hgl hL C0 hK hXA hj hd hI hP hD hS hl ih2
  · skip
    refine lv_tableIn (off := 651) (tgt := 690) hx hb dL_law_39 (by decide) (by decide) rfl (by decide) ?_
    exact law_12 l hgl hL C0 hK hXA hj hd hI hP hD hS hl ih2
  · skip
    refine lv_tableIn (off := 664) (tgt := 703) hx hb dL_law_39 (by decide) (by decide) rfl (by decide) ?_
    rcases gc_or (xs (3 * jj + 1)) (2 ^ g) with ⟨x, hx2, h1⟩ | h1
    · exact law_13 l hgl hL C0 hK hXA hj hd hI hP hD hS hl ih2 hx2 h1
    · exact law_13x l hgl hL C0 hK hXA hj hd hI hP hD hS hl ih2 h1
  · skip
    refine lv_tableIn (off := 720) (tgt := 759) hx hb dL_law_39 (by decide) (by decide) rfl (by decide) ?_
    exact law_14 l hgl hL C0 hK hXA hj hd hI hP hD hS hl ih2
  · skip
    refine lv_tableIn (off := 733) (tgt := 772) hx hb dL_law_39 (by decide) (by decide) rfl (by decide) ?_
    rcases gc_or (xs (3 * jj + 1)) (2 * g) with ⟨wa, ha, h1⟩ | h1
    · rcases gc_or (xs (3 * jj + 2)) (2 * g) with ⟨wb, hb2, h2⟩ | h2
      · exact law_15 l hgl hL C0 hK hXA hj hd hI hP hD hS hl ih2 ha hb2 h1 h2
      · exact law_15x l hgl hL C0 hK hXA hj hd hI hP hD hS hl ih2 (Or.inr h2)
    · exact law_15x l hgl hL C0 hK hXA hj hd hI hP hD hS hl ih2 (Or.inl h1)
  · skip
    refine lv_tableIn (off := 801) (tgt := 840) hx hb dL_law_39 (by decide) (by decide) rfl (by decide) ?_
    rcases gc_or (xs (3 * jj + 1)) (6) with ⟨x, hx2, h1⟩ | h1
    · exact law_16 l hgl hL C0 hK hXA hj hd hI hP hD hS hl ih2 hx2 h1
    · exact law_16x l hgl hL C0 hK hXA hj hd hI hP hD hS hl ih2 h1
  · skip
    refine lv_tableIn (off := 857) (tgt := 896) hx hb dL_law_39 (by decide) (by decide) rfl (by decide) ?_
    exact law_17 l hgl hL C0 hK hXA hj hd hI hP hD hS hl ih2
  · skip
    refine lv_tableIn (off := 898) (tgt := 937) hx hb dL_law_39 (by decide) (by decide) rfl (by decide) ?_
    exact law_18 l hgl hL C0 hK hXA hj hd hI hP hD hS hl ih2
theorem gcXL_in : ∀ w ∈ gcXL, w ∈ lw_tbl := by decide +kernel
theorem gcTX_in : ∀ q ∈ gcTX, Cond.stringRef RX0 q.1 q.2 ∈ lw_tbl := by decide +kernel
theorem gcTX_ex : ∀ q ∈ gcTX, Cond.exactly (.string RX0 q.1) "java/lang/String" ∈ flatC (Jvm.Cond.and given_1 narrow_1) := by decide +kernel
theorem gcNC_in : ∀ q ∈ gcNC, Cond.not (.castable q.1 q.2) ∈ flatC (Jvm.Cond.and given_1 narrow_1) := by decide +kernel
theorem gcU_in : Cond.isRef (.static Bundle.tN "UNASSIGNED_STACK" Bundle.steD) ∈ flatC (Jvm.Cond.and given_1 narrow_1) ∧ Cond.isRef (.static Bundle.tN "SUPPRESSED_SENTINEL" Bundle.listD) ∈ flatC (Jvm.Cond.and given_1 narrow_1) := by decide +kernel
theorem gcL_in : Cond.laysStatic Bundle.tN "UNASSIGNED_STACK" Bundle.steD ∈ lw_tbl ∧ Cond.laysStatic Bundle.tN "SUPPRESSED_SENTINEL" Bundle.listD ∈ lw_tbl ∧ Cond.initialized Bundle.tN ∈ lw_tbl := by decide +kernel
theorem gcXA_start {p : Program} {s : State} {m : MethodId} {meth : Method} {c : Code} {b L : Nat} {xs : Nat → Int32} (C0 : lw_At p s m meth c b L xs) : gcXA (fun q : Nat => s.heap.size ≤ q) s := by
  obtain ⟨hx, hb, hr, hml, hown, hts, hX, hbl, hlocks, hgv⟩ := C0
  have hs := flat_of_before _ hgv
  have hA : ∀ a : Nat, a < s.heap.size → ¬ (fun q : Nat => s.heap.size ≤ q) a := fun a ha => Nat.not_le.mpr ha
  refine ⟨fun w hw => va_Nw.of (gcDC_ot (gcXL_dc w hw)) (hts w (gcXL_in w hw)), vx_Zqof (hts _ gcL_in.1) (hts _ gcL_in.2.2) (hs _ gcU_in.1) hA, vx_Zqof (hts _ gcL_in.2.1) (hts _ gcL_in.2.2) (hs _ gcU_in.2) hA, fun q hq => ?_, fun q hq => va_Nc.of (hs _ (gcNC_in q hq))⟩
  obtain ⟨a, c, cA, kA, q1, -⟩ := Cond.exactly_spec (args := #[Value.ref b]) (first := s) (o := none) (s := s) (idx := []) (t := .string RX0 q.1) (cls := "java/lang/String") (hs _ (gcTX_ex q hq))
  exact ⟨a, vk_R.of (hts _ (gcTX_in q hq)) q1⟩
