section
-- ===== PART A: goes FIRST, ahead of the names: the tables' words, and 'selects' of the private methods out of them =====
/-- a private method of a class that the tables say can be made, by its rows of tables_1 -/
def lw_okq (q : MethodName × Nat) : Prop := (q.1.cls ≠ "java/lang/invoke/MethodHandle" ∧ q.1.cls ≠ "java/lang/invoke/VarHandle") ∧ Cond.instantiable q.1.cls q.2 ∈ tables_1 ∧ Cond.privateMethod q.1 ∈ tables_1 ∧ Cond.instanceMethod q.1 ∈ tables_1
theorem lw_p0 : lw_okq (⟨"GuestChairs", "refresh", "()V"⟩, 10) := ⟨⟨by decide +kernel, by decide +kernel⟩, List.mem_of_getElem? (i := 12) (by decide +kernel), List.mem_of_getElem? (i := 20) (by decide +kernel), List.mem_of_getElem? (i := 21) (by decide +kernel)⟩
theorem lw_p1 : lw_okq (⟨"GuestChairs", "linkAllBut", "(I[I)V"⟩, 10) := ⟨⟨by decide +kernel, by decide +kernel⟩, List.mem_of_getElem? (i := 12) (by decide +kernel), List.mem_of_getElem? (i := 24) (by decide +kernel), List.mem_of_getElem? (i := 25) (by decide +kernel)⟩
theorem lw_p2 : lw_okq (⟨"GuestChairs", "listSeatings", "()V"⟩, 10) := ⟨⟨by decide +kernel, by decide +kernel⟩, List.mem_of_getElem? (i := 12) (by decide +kernel), List.mem_of_getElem? (i := 46) (by decide +kernel), List.mem_of_getElem? (i := 47) (by decide +kernel)⟩
theorem lw_p3 : lw_okq (⟨"GuestChairs", "countTorn", "([I)I"⟩, 10) := ⟨⟨by decide +kernel, by decide +kernel⟩, List.mem_of_getElem? (i := 12) (by decide +kernel), List.mem_of_getElem? (i := 54) (by decide +kernel), List.mem_of_getElem? (i := 55) (by decide +kernel)⟩
theorem lw_p4 : lw_okq (⟨"GuestChairs", "settle", "(I)V"⟩, 10) := ⟨⟨by decide +kernel, by decide +kernel⟩, List.mem_of_getElem? (i := 12) (by decide +kernel), List.mem_of_getElem? (i := 67) (by decide +kernel), List.mem_of_getElem? (i := 68) (by decide +kernel)⟩
theorem lw_p5 : lw_okq (⟨"GuestChairs", "guestsComing", "(I)I"⟩, 10) := ⟨⟨by decide +kernel, by decide +kernel⟩, List.mem_of_getElem? (i := 12) (by decide +kernel), List.mem_of_getElem? (i := 108) (by decide +kernel), List.mem_of_getElem? (i := 109) (by decide +kernel)⟩
theorem lw_p6 : lw_okq (⟨"GuestChairs", "fitsWithout", "(I)Z"⟩, 10) := ⟨⟨by decide +kernel, by decide +kernel⟩, List.mem_of_getElem? (i := 12) (by decide +kernel), List.mem_of_getElem? (i := 141) (by decide +kernel), List.mem_of_getElem? (i := 142) (by decide +kernel)⟩
theorem lw_p7 : lw_okq (⟨"java/lang/Throwable", "fillInStackTrace", "(I)Ljava/lang/Throwable;"⟩, 6) := ⟨⟨by decide +kernel, by decide +kernel⟩, List.mem_of_getElem? (i := 199) (by decide +kernel), List.mem_of_getElem? (i := 197) (by decide +kernel), List.mem_of_getElem? (i := 198) (by decide +kernel)⟩
theorem lw_p8 : lw_okq (⟨"GuestChairs", "countVain", "()I"⟩, 10) := ⟨⟨by decide +kernel, by decide +kernel⟩, List.mem_of_getElem? (i := 12) (by decide +kernel), List.mem_of_getElem? (i := 229) (by decide +kernel), List.mem_of_getElem? (i := 230) (by decide +kernel)⟩
theorem lw_p9 : lw_okq (⟨"GuestChairs", "wishCount", "()I"⟩, 10) := ⟨⟨by decide +kernel, by decide +kernel⟩, List.mem_of_getElem? (i := 12) (by decide +kernel), List.mem_of_getElem? (i := 233) (by decide +kernel), List.mem_of_getElem? (i := 234) (by decide +kernel)⟩
theorem lw_p10 : lw_okq (⟨"GuestChairs", "countPairs", "()I"⟩, 10) := ⟨⟨by decide +kernel, by decide +kernel⟩, List.mem_of_getElem? (i := 12) (by decide +kernel), List.mem_of_getElem? (i := 237) (by decide +kernel), List.mem_of_getElem? (i := 238) (by decide +kernel)⟩
theorem lw_p11 : lw_okq (⟨"GuestChairs", "requireRule", "(I)V"⟩, 10) := ⟨⟨by decide +kernel, by decide +kernel⟩, List.mem_of_getElem? (i := 12) (by decide +kernel), List.mem_of_getElem? (i := 249) (by decide +kernel), List.mem_of_getElem? (i := 250) (by decide +kernel)⟩
theorem lw_p12 : lw_okq (⟨"GuestChairs", "requireGuest", "(I)V"⟩, 10) := ⟨⟨by decide +kernel, by decide +kernel⟩, List.mem_of_getElem? (i := 12) (by decide +kernel), List.mem_of_getElem? (i := 258) (by decide +kernel), List.mem_of_getElem? (i := 259) (by decide +kernel)⟩
theorem lw_p13 : lw_okq (⟨"GuestChairs", "guestsBoundTo", "(I)I"⟩, 10) := ⟨⟨by decide +kernel, by decide +kernel⟩, List.mem_of_getElem? (i := 12) (by decide +kernel), List.mem_of_getElem? (i := 263) (by decide +kernel), List.mem_of_getElem? (i := 264) (by decide +kernel)⟩
theorem lw_p14 : lw_okq (⟨"GuestChairs", "requireWishes", "(II)V"⟩, 10) := ⟨⟨by decide +kernel, by decide +kernel⟩, List.mem_of_getElem? (i := 12) (by decide +kernel), List.mem_of_getElem? (i := 301) (by decide +kernel), List.mem_of_getElem? (i := 302) (by decide +kernel)⟩
theorem lw_p15 : lw_okq (⟨"GuestChairs", "oneStepOn", "(I)I"⟩, 10) := ⟨⟨by decide +kernel, by decide +kernel⟩, List.mem_of_getElem? (i := 12) (by decide +kernel), List.mem_of_getElem? (i := 355) (by decide +kernel), List.mem_of_getElem? (i := 356) (by decide +kernel)⟩
def lw_privs_1 : List (MethodName × Nat) := [(⟨"GuestChairs", "refresh", "()V"⟩, 10), (⟨"GuestChairs", "linkAllBut", "(I[I)V"⟩, 10), (⟨"GuestChairs", "listSeatings", "()V"⟩, 10), (⟨"GuestChairs", "countTorn", "([I)I"⟩, 10), (⟨"GuestChairs", "settle", "(I)V"⟩, 10), (⟨"GuestChairs", "guestsComing", "(I)I"⟩, 10), (⟨"GuestChairs", "fitsWithout", "(I)Z"⟩, 10), (⟨"java/lang/Throwable", "fillInStackTrace", "(I)Ljava/lang/Throwable;"⟩, 6), (⟨"GuestChairs", "countVain", "()I"⟩, 10), (⟨"GuestChairs", "wishCount", "()I"⟩, 10), (⟨"GuestChairs", "countPairs", "()I"⟩, 10), (⟨"GuestChairs", "requireRule", "(I)V"⟩, 10), (⟨"GuestChairs", "requireGuest", "(I)V"⟩, 10), (⟨"GuestChairs", "guestsBoundTo", "(I)I"⟩, 10), (⟨"GuestChairs", "requireWishes", "(II)V"⟩, 10), (⟨"GuestChairs", "oneStepOn", "(I)I"⟩, 10)]
theorem lw_r1 : ∀ q ∈ lw_privs_1, lw_okq q := List.forall_mem_cons.mpr ⟨lw_p0, List.forall_mem_cons.mpr ⟨lw_p1, List.forall_mem_cons.mpr ⟨lw_p2, List.forall_mem_cons.mpr ⟨lw_p3, List.forall_mem_cons.mpr ⟨lw_p4, List.forall_mem_cons.mpr ⟨lw_p5, List.forall_mem_cons.mpr ⟨lw_p6, List.forall_mem_cons.mpr ⟨lw_p7, List.forall_mem_cons.mpr ⟨lw_p8, List.forall_mem_cons.mpr ⟨lw_p9, List.forall_mem_cons.mpr ⟨lw_p10, List.forall_mem_cons.mpr ⟨lw_p11, List.forall_mem_cons.mpr ⟨lw_p12, List.forall_mem_cons.mpr ⟨lw_p13, List.forall_mem_cons.mpr ⟨lw_p14, List.forall_mem_cons.mpr ⟨lw_p15, fun _ h => absurd h List.not_mem_nil⟩⟩⟩⟩⟩⟩⟩⟩⟩⟩⟩⟩⟩⟩⟩⟩
theorem lw_p16 : lw_okq (⟨"GuestChairsModel", "fail", "(I)I"⟩, 10) := ⟨⟨by decide +kernel, by decide +kernel⟩, List.mem_of_getElem? (i := 385) (by decide +kernel), List.mem_of_getElem? (i := 431) (by decide +kernel), List.mem_of_getElem? (i := 432) (by decide +kernel)⟩
theorem lw_p17 : lw_okq (⟨"GuestChairsModel", "isWish", "(I)Z"⟩, 10) := ⟨⟨by decide +kernel, by decide +kernel⟩, List.mem_of_getElem? (i := 385) (by decide +kernel), List.mem_of_getElem? (i := 439) (by decide +kernel), List.mem_of_getElem? (i := 440) (by decide +kernel)⟩
theorem lw_p18 : lw_okq (⟨"GuestChairsModel", "ruleTold", "(II)I"⟩, 10) := ⟨⟨by decide +kernel, by decide +kernel⟩, List.mem_of_getElem? (i := 385) (by decide +kernel), List.mem_of_getElem? (i := 454) (by decide +kernel), List.mem_of_getElem? (i := 455) (by decide +kernel)⟩
theorem lw_p19 : lw_okq (⟨"GuestChairsModel", "leads", "(II)Z"⟩, 10) := ⟨⟨by decide +kernel, by decide +kernel⟩, List.mem_of_getElem? (i := 385) (by decide +kernel), List.mem_of_getElem? (i := 462) (by decide +kernel), List.mem_of_getElem? (i := 463) (by decide +kernel)⟩
theorem lw_p20 : lw_okq (⟨"GuestChairsModel", "spread", "(I)I"⟩, 10) := ⟨⟨by decide +kernel, by decide +kernel⟩, List.mem_of_getElem? (i := 385) (by decide +kernel), List.mem_of_getElem? (i := 466) (by decide +kernel), List.mem_of_getElem? (i := 467) (by decide +kernel)⟩
theorem lw_p21 : lw_okq (⟨"GuestChairsModel", "put", "(III)I"⟩, 10) := ⟨⟨by decide +kernel, by decide +kernel⟩, List.mem_of_getElem? (i := 385) (by decide +kernel), List.mem_of_getElem? (i := 470) (by decide +kernel), List.mem_of_getElem? (i := 471) (by decide +kernel)⟩
theorem lw_p22 : lw_okq (⟨"GuestChairsModel", "reachOf", "(I)I"⟩, 10) := ⟨⟨by decide +kernel, by decide +kernel⟩, List.mem_of_getElem? (i := 385) (by decide +kernel), List.mem_of_getElem? (i := 481) (by decide +kernel), List.mem_of_getElem? (i := 482) (by decide +kernel)⟩
theorem lw_p23 : lw_okq (⟨"GuestChairsModel", "guestTold", "(II)I"⟩, 10) := ⟨⟨by decide +kernel, by decide +kernel⟩, List.mem_of_getElem? (i := 385) (by decide +kernel), List.mem_of_getElem? (i := 493) (by decide +kernel), List.mem_of_getElem? (i := 494) (by decide +kernel)⟩
theorem lw_p24 : lw_okq (⟨"GuestChairsModel", "isForced", "(I)Z"⟩, 10) := ⟨⟨by decide +kernel, by decide +kernel⟩, List.mem_of_getElem? (i := 385) (by decide +kernel), List.mem_of_getElem? (i := 497) (by decide +kernel), List.mem_of_getElem? (i := 498) (by decide +kernel)⟩
theorem lw_p25 : lw_okq (⟨"GuestChairsModel", "all", "()I"⟩, 10) := ⟨⟨by decide +kernel, by decide +kernel⟩, List.mem_of_getElem? (i := 385) (by decide +kernel), List.mem_of_getElem? (i := 501) (by decide +kernel), List.mem_of_getElem? (i := 502) (by decide +kernel)⟩
theorem lw_p26 : lw_okq (⟨"GuestChairsModel", "seatingsWith", "(II)I"⟩, 10) := ⟨⟨by decide +kernel, by decide +kernel⟩, List.mem_of_getElem? (i := 385) (by decide +kernel), List.mem_of_getElem? (i := 505) (by decide +kernel), List.mem_of_getElem? (i := 506) (by decide +kernel)⟩
theorem lw_p27 : lw_okq (⟨"GuestChairsModel", "brokenBy", "(I)I"⟩, 10) := ⟨⟨by decide +kernel, by decide +kernel⟩, List.mem_of_getElem? (i := 385) (by decide +kernel), List.mem_of_getElem? (i := 509) (by decide +kernel), List.mem_of_getElem? (i := 510) (by decide +kernel)⟩
theorem lw_p28 : lw_okq (⟨"GuestChairsModel", "isTorn", "(I)Z"⟩, 10) := ⟨⟨by decide +kernel, by decide +kernel⟩, List.mem_of_getElem? (i := 385) (by decide +kernel), List.mem_of_getElem? (i := 516) (by decide +kernel), List.mem_of_getElem? (i := 517) (by decide +kernel)⟩
theorem lw_p29 : lw_okq (⟨"GuestChairsModel", "isVain", "(I)Z"⟩, 10) := ⟨⟨by decide +kernel, by decide +kernel⟩, List.mem_of_getElem? (i := 385) (by decide +kernel), List.mem_of_getElem? (i := 520) (by decide +kernel), List.mem_of_getElem? (i := 521) (by decide +kernel)⟩
theorem lw_p30 : lw_okq (⟨"GuestChairsModel", "seated", "()I"⟩, 10) := ⟨⟨by decide +kernel, by decide +kernel⟩, List.mem_of_getElem? (i := 385) (by decide +kernel), List.mem_of_getElem? (i := 532) (by decide +kernel), List.mem_of_getElem? (i := 533) (by decide +kernel)⟩
theorem lw_p31 : lw_okq (⟨"GuestChairsModel", "counted", "(I)I"⟩, 10) := ⟨⟨by decide +kernel, by decide +kernel⟩, List.mem_of_getElem? (i := 385) (by decide +kernel), List.mem_of_getElem? (i := 568) (by decide +kernel), List.mem_of_getElem? (i := 569) (by decide +kernel)⟩
def lw_privs_2 : List (MethodName × Nat) := [(⟨"GuestChairsModel", "fail", "(I)I"⟩, 10), (⟨"GuestChairsModel", "isWish", "(I)Z"⟩, 10), (⟨"GuestChairsModel", "ruleTold", "(II)I"⟩, 10), (⟨"GuestChairsModel", "leads", "(II)Z"⟩, 10), (⟨"GuestChairsModel", "spread", "(I)I"⟩, 10), (⟨"GuestChairsModel", "put", "(III)I"⟩, 10), (⟨"GuestChairsModel", "reachOf", "(I)I"⟩, 10), (⟨"GuestChairsModel", "guestTold", "(II)I"⟩, 10), (⟨"GuestChairsModel", "isForced", "(I)Z"⟩, 10), (⟨"GuestChairsModel", "all", "()I"⟩, 10), (⟨"GuestChairsModel", "seatingsWith", "(II)I"⟩, 10), (⟨"GuestChairsModel", "brokenBy", "(I)I"⟩, 10), (⟨"GuestChairsModel", "isTorn", "(I)Z"⟩, 10), (⟨"GuestChairsModel", "isVain", "(I)Z"⟩, 10), (⟨"GuestChairsModel", "seated", "()I"⟩, 10), (⟨"GuestChairsModel", "counted", "(I)I"⟩, 10)]
theorem lw_r2 : ∀ q ∈ lw_privs_2, lw_okq q := List.forall_mem_cons.mpr ⟨lw_p16, List.forall_mem_cons.mpr ⟨lw_p17, List.forall_mem_cons.mpr ⟨lw_p18, List.forall_mem_cons.mpr ⟨lw_p19, List.forall_mem_cons.mpr ⟨lw_p20, List.forall_mem_cons.mpr ⟨lw_p21, List.forall_mem_cons.mpr ⟨lw_p22, List.forall_mem_cons.mpr ⟨lw_p23, List.forall_mem_cons.mpr ⟨lw_p24, List.forall_mem_cons.mpr ⟨lw_p25, List.forall_mem_cons.mpr ⟨lw_p26, List.forall_mem_cons.mpr ⟨lw_p27, List.forall_mem_cons.mpr ⟨lw_p28, List.forall_mem_cons.mpr ⟨lw_p29, List.forall_mem_cons.mpr ⟨lw_p30, List.forall_mem_cons.mpr ⟨lw_p31, fun _ h => absurd h List.not_mem_nil⟩⟩⟩⟩⟩⟩⟩⟩⟩⟩⟩⟩⟩⟩⟩⟩
def lw_privs : List (MethodName × Nat) := lw_privs_1 ++ (lw_privs_2)
def lw_tbl : List Cond := k2_sels lw_privs ++ tables_1
theorem lw_privs_ok : ∀ q ∈ lw_privs, lw_okq q := by
  show ∀ q ∈ lw_privs_1 ++ (lw_privs_2), lw_okq q
  exact List.forall_mem_append.mpr ⟨lw_r1, lw_r2⟩
/-- the streams that the claim lets the run draw from -/
abbrev lw_cs : List Choice := [Jvm.Choice.named "NaN.bits"]
theorem lw_bits : nanBits ∈ lw_cs := by first | decide | exact List.mem_cons_self | simp [lw_cs, nanBits]
-- ===== end of PART A; then your names; then what follows =====
end
section
/-! ===== BEGIN words of one list among another's, by their places ===== -/
theorem goodIn_r {big : List Cond} (ws : List Cond) (ps : List Nat) (hp : ws = ps.filterMap (fun i => big[i]?)) (h : ws.all goodWord = true) : GoodIn big ws := by
  intro w hw
  have h1 := List.all_eq_true.mp h w hw
  rw [hp] at hw
  obtain ⟨i, -, hi⟩ := List.mem_filterMap.mp hw
  have hm : w ∈ big := by first | exact List.mem_of_getElem? hi | exact List.getElem?_mem hi
  exact ⟨hm, good_of_word h1⟩
theorem goodIn_app {big a b : List Cond} (ha : GoodIn big a) (hb : GoodIn big b) : GoodIn big (a ++ b) := fun w h => (List.mem_append.mp h).elim (ha w) (hb w)
theorem goodIn_ca {big a b : List Cond} {c : Cond} (ha : GoodIn big (c :: a)) (hb : GoodIn big b) : GoodIn big (c :: (a ++ b)) := fun w h => (List.mem_cons.mp h).elim (fun e => ha w (List.mem_cons.mpr (Or.inl e))) (fun h => (List.mem_append.mp h).elim (fun h => ha w (List.mem_cons.mpr (Or.inr h))) (hb w))
theorem goodIn_sub {big ws : List Cond} (hm : ∀ w ∈ ws, w ∈ big) (h : ws.all goodWord = true) : GoodIn big ws := fun w hw => ⟨hm w hw, good_of_word (List.all_eq_true.mp h w hw)⟩
/-! ===== END ===== -/

/-! ===== BEGIN exceptions that leave a method, and their catching by the caller (launches without stack traces) ===== -/
section VXA
/-! The laws vx_back, vx_callV, vx_callS, vx_callSW, vx_throw0, vx_throwS follow proofs of the library, with one case more: JvmDerived/Free/Laws.lean (Back.of_free), Shelf42/LK1.lean (callV, callS), Shelf/KitTraced.lean (throwNew0V, throwNewS). -/
/-- where a method has thrown q: the class by its name, the cell, what was written, the world -/
def vx_T (XC : String → State → State → Prop) (st : State) (q : Addr) (t : State) (mc ms : Nat) (free : Addr → Prop) : Prop :=
  ∃ (E : String) (ce : Cell) (L : List Loc), XC E st t ∧ t.heap[q]? = some ce ∧ ce.vm = .none ∧ st.vm.findClass E = some ce.cls ∧ st.WarmedH t.vm ∧ st.sameButNew ({ t with vm := st.vm } : State) L mc ms ∧ ∀ z ∈ L, free z.base
def vx_Q (Qc : Array Value → State → Outcome → State → Prop) (XC : String → State → State → Prop) (mc ms : Nat) (free : Addr → Prop) : Array Value → State → Outcome → State → Prop := fun a st o t =>
  (Qc a st o t ∧ ∃ L, FrameEnd st o t L mc ms ∧ ∀ q ∈ L, free q.base) ∨ ∃ q, o = .threw q ∧ vx_T XC st q t mc ms free
/-- a callee that returns or throws -/
def vx_Met (l : Launch) (y : MethodName) (ws : List Cond) (rm : Room) (Pc : Array Value → State → Prop) (Qc : Array Value → State → Outcome → State → Prop) (XC : String → State → State → Prop) (mc ms : Nat) (free : Addr → Prop) : Prop :=
  MetFree l y (headSpec ws rm) Pc (fun _ _ _ _ _ => True) (vx_Q Qc XC mc ms free)
def vx_Post (XC : String → State → State → Prop) (mc ms : Nat) (free : Addr → Prop) : Pt → Array Value → Addr → Pt → Prop := fun A a q B =>
  ∃ (g : JFrame) (mk : MethodId) (t : State) (L : List Loc) (E : String) (ce : Cell), B.U.heap = t.heap ∧ B.U.vm = t.vm ∧ XC E (A.U.calling g mk a) t ∧ t.heap[q]? = some ce ∧ ce.vm = .none ∧ A.U.vm.findClass E = some ce.cls ∧ B.locs = A.locs ++ L ∧ (∀ z ∈ L, free z.base) ∧ B.cells = A.cells + mc ∧ B.slots = A.slots + ms
def vx_Back (l : Launch) (R : Room) (p : Program) (e : Env) (below : List Frame) (s : State) (sargs : Array Value) (y : MethodName) (len W9 : Nat)
    (Pre : Pt → Array Value → Prop) (Post : Pt → Array Value → Option Value → Pt → Prop) (PostX : Pt → Array Value → Addr → Pt → Prop) : Prop :=
  ∀ (m : MethodId) (meth : Method) (c : Code) (A : Pt) (g : JFrame) (ig : Instr) (mk : MethodId) (a : Array Value),
    Stand p l e R s m sargs below meth c A.U A.locs A.cells A.slots → g.method = m → g.locals.size = c.maxLocals → decode c.code g.pc = .ok (ig, len) →
    2 * g.monitorRoom + (g.stack.map fun v => v.category).sum ≤ W9 → A.U.methodNamed? y = some mk → Pre A a →
    (∃ (v : Option Value) (B : Pt), Stand p l e R s m sargs below meth c B.U B.locs B.cells B.slots ∧ Post A a v B ∧
      Steps p.tables e below (doInvoke e (A.U.setTop g) [] mk a).1 (B.U.setTop { g with pc := g.pc + len, stack := v.toList ++ g.stack })) ∨
    (∃ (q : Addr) (B : Pt), Stand p l e R s m sargs below meth c B.U B.locs B.cells B.slots ∧ PostX A a q B ∧
      Steps p.tables e below (doInvoke e (A.U.setTop g) [] mk a).1 ((B.U.setTop g).pushFrame (.throwing q)))
section Payer
variable {l : Launch} {R : Room} {p : Program} {e : Env} {below : List Frame} {s : State} {sargs : Array Value} {y : MethodName} {len W9 : Nat}
theorem vx_back {ws : List Cond} {rm : Room} {Pc : Array Value → State → Prop} {Qc : Array Value → State → Outcome → State → Prop} {XC : String → State → State → Prop} {mc ms : Nat} {free : Addr → Prop} {bytes : ByteArray} {maxL : Nat} {ret : Option FieldType}
    (hM : vx_Met l y ws rm Pc Qc XC mc ms free) (hblind : FrameBlind Pc) (hrc : rm.cells = mc) (hrs : rm.slots = ms)
    (hframes : rm.frames + 1 ≤ R.frames) (hlocals : W9 + (maxL + 11) + rm.locals ≤ R.locals)
    (hws : ∀ w ∈ ws, ∀ a' U, s.WarmedH U.vm → w.before a' U = true) (hcode : Cond.code y bytes maxL ret ∈ ws) (hinit : ∀ a' U, s.WarmedH U.vm → (Cond.initialized y.cls).before a' U = true) :
    vx_Back l R p e below s sargs y len W9 (PreOf R mc ms Pc) (PostOf Qc mc ms free) (vx_Post XC mc ms free) := by
  intro m meth c A g ig mk a X hg hsize hdg hW hn hp
  have h1 : (headSpec ws rm).pre.before a A.U = true := atoms_intro fun w hw => hws w hw _ _ X.warmed
  have h2 : (Cond.code y bytes maxL ret).before a A.U = true := hws _ hcode _ _ X.warmed
  have h3 : (Cond.initialized y.cls).before a A.U = true := hinit _ _ X.warmed
  have h4 : A.cells + (headSpec ws rm).room.cells ≤ R.cells := by rw [show (headSpec ws rm).room.cells = mc from hrc]; exact hp.1
  have h5 : A.slots + (headSpec ws rm).room.slots ≤ R.slots := by rw [show (headSpec ws rm).room.slots = ms from hrs]; exact hp.2.1
  have hPc : Pc a (A.U.calling g mk a) := hblind _ _ _ _ hp.2.2
  obtain ⟨U, Ls, c0, s0⟩ := A
  dsimp only [Pt.U, Pt.locs, Pt.cells, Pt.slots] at h1 h2 h3 h4 h5 X hn hPc ⊢
  obtain ⟨methY, cY, hmY, hcY, -, hlY, -, -, -, -⟩ := Cond.code_spec hn h2
  obtain ⟨kY, hkY, -⟩ := className_of_methodNamed hn
  have hinitY : kY.init = .initialized := Cond.initialized_spec (findClass_of_methodNamed hn) hkY h3
  have h : At U g.method c below := by rw [hg]; exact X.here
  have hlocals9 : W9 + (maxL + 11) + (headSpec ws rm).room.locals ≤ R.locals := hlocals
  have happ : (headSpec ws rm).appliesLoose y e.platform (U.calling g mk a) = true :=
    Spec.appliesLoose_calling (g := g) h hdg hn hkY hinitY
      (X.room_calling (g := g) (R' := (headSpec ws rm).room) hsize hmY hcY hframes (by rw [hlY]; omega) h4 h5) h1
  obtain ⟨mid, hmid⟩ := h.above
  have hfr : (U.setTop g).frames = (.java g :: mid) ++ below := by rw [State.frames_setTop' g h.top, hmid]; rfl
  obtain ⟨o, s₂, hsteps, -, hend, hq⟩ := Steps.callFree hM p X.admits X.cas X.clock (acts := []) hfr happ hPc trivial
  have hq' : vx_Q Qc XC mc ms free a (U.calling g mk a) o s₂ := hq
  rw [State.frames_setTop' g h.top] at hend
  obtain ⟨g₀, hg0⟩ := Option.isSome_iff_exists.mp h.top
  obtain ⟨r, hr⟩ := State.topJava?_eq_some.mp hg0
  have hr' : (({ U with heap := s₂.heap, slotsUsed := s₂.slotsUsed } : State).setVm s₂.vm).frames = .java g₀ :: r := hr
  rcases hq' with ⟨hqc, L, hfe, hL⟩ | ⟨q, rfl, E, ce, L, hx, hce, hcv, hcl, hW₂, hsm, hL⟩
  · obtain ⟨⟨v, rfl⟩, hW₂, e2, q2, q3, q4, q5, q6⟩ := id hfe
    have e3 : s₂ = ({ (U.calling g mk a).setFrames s₂.frames with heap := s₂.heap, slotsUsed := s₂.slotsUsed } : State).setVm s₂.vm := by
      have : s₂ = ({ s₂ with vm := (U.calling g mk a).vm } : State).setVm s₂.vm := rfl
      rw [e2] at this
      exact this
    obtain ⟨c₂, i₂, len₂, hc₂, hd₂, hf₂⟩ := hend
    have hW' : U.WarmedH s₂.vm := hW₂
    have hcc : c₂ = c := by
      have h1 : s₂.code? g.method = U.code? g.method := by
        rw [State.code?_eq, State.code?_eq, hW'.alike.method?]
      exact Option.some.inj (hc₂.symm.trans (h1.trans h.code))
    subst hcc
    have hlen : len₂ = len := by rw [hdg] at hd₂; cases hd₂; rfl
    subst hlen
    have hs₂ : s₂ = (({ U with heap := s₂.heap, slotsUsed := s₂.slotsUsed } : State).setVm s₂.vm).setTop { g with pc := g.pc + len₂, stack := v.toList ++ g.stack } := by
      refine e3.trans ?_
      rw [hf₂, State.calling_eq h.top, State.setFrames_setFrames, State.setTop_of_frames _ hr', hr]
      rfl
    have hsame : U.sameButNew ({ U with heap := s₂.heap, slotsUsed := s₂.slotsUsed } : State) L mc ms := by
      refine ⟨?_, q2, q3, q4, q5, q6⟩
      obtain ⟨t, ht, -⟩ := State.frames_cons hr
      show ({ U with heap := s₂.heap, slotsUsed := s₂.slotsUsed } : State) = { U.setFrames U.frames with heap := s₂.heap, slotsUsed := s₂.slotsUsed }
      rw [State.setFrames_self ht]
    subst hg
    refine Or.inl ⟨v, ⟨(({ U with heap := s₂.heap, slotsUsed := s₂.slotsUsed } : State).setVm s₂.vm), Ls ++ L, c0 + mc, s0 + ms⟩,
      ⟨X.admits, X.cas, X.clock, X.frames, X.room, X.hears, X.method, X.code, (X.here.setHeapUsed s₂.heap s₂.slotsUsed).setVm hW'.alike, X.tail, State.WarmedH.trans X.warmed hW', X.limits, X.bytes, X.same.trans (hsame.setVm s.vm)⟩,
      ⟨g, mk, s₂, L, rfl, rfl, hqc, rfl, hL, rfl, rfl⟩, ?_⟩
    show Steps p.tables e below _ ((({ U with heap := s₂.heap, slotsUsed := s₂.slotsUsed } : State).setVm s₂.vm).setTop { g with pc := g.pc + len₂, stack := v.toList ++ g.stack })
    rw [← hs₂]
    exact hsteps
  · obtain ⟨e2, q2, q3, q4, q5, q6⟩ := id hsm
    have e3 : s₂ = ({ (U.calling g mk a).setFrames s₂.frames with heap := s₂.heap, slotsUsed := s₂.slotsUsed } : State).setVm s₂.vm := by
      have : s₂ = ({ s₂ with vm := (U.calling g mk a).vm } : State).setVm s₂.vm := rfl
      rw [e2] at this
      exact this
    have hf₂ : s₂.frames = .throwing q :: .java g :: U.frames.tail := hend
    have hW' : U.WarmedH s₂.vm := hW₂
    have hs₂ : s₂ = ((({ U with heap := s₂.heap, slotsUsed := s₂.slotsUsed } : State).setVm s₂.vm).setTop g).pushFrame (.throwing q) := by
      refine e3.trans ?_
      rw [hf₂, State.calling_eq h.top, State.setFrames_setFrames, State.pushFrame, State.frames_setTop _ hr', State.setTop_of_frames _ hr', State.setFrames_setFrames, hr]
      rfl
    have hsame : U.sameButNew ({ U with heap := s₂.heap, slotsUsed := s₂.slotsUsed } : State) L mc ms := by
      refine ⟨?_, q2, q3, q4, q5, q6⟩
      obtain ⟨t, ht, -⟩ := State.frames_cons hr
      show ({ U with heap := s₂.heap, slotsUsed := s₂.slotsUsed } : State) = { U.setFrames U.frames with heap := s₂.heap, slotsUsed := s₂.slotsUsed }
      rw [State.setFrames_self ht]
    subst hg
    refine Or.inr ⟨q, ⟨(({ U with heap := s₂.heap, slotsUsed := s₂.slotsUsed } : State).setVm s₂.vm), Ls ++ L, c0 + mc, s0 + ms⟩,
      ⟨X.admits, X.cas, X.clock, X.frames, X.room, X.hears, X.method, X.code, (X.here.setHeapUsed s₂.heap s₂.slotsUsed).setVm hW'.alike, X.tail, State.WarmedH.trans X.warmed hW', X.limits, X.bytes, X.same.trans (hsame.setVm s.vm)⟩,
      ⟨g, mk, s₂, L, E, ce, rfl, rfl, hx, hce, hcv, hcl, rfl, hL, rfl, rfl⟩, ?_⟩
    show Steps p.tables e below _ (((({ U with heap := s₂.heap, slotsUsed := s₂.slotsUsed } : State).setVm s₂.vm).setTop g).pushFrame (.throwing q))
    rw [← hs₂]
    exact hsteps
end Payer
section Calls
variable {p : Program} {l : Launch} {e : Env} {R : Room} {s : State} {m : MethodId} {args : Array Value} {below : List Frame} {meth : Method} {c : Code} {T : State} {locs : List Loc} {cells slots : Nat}
theorem vx_callV (X : Stand p l e R s m args below meth c T locs cells slots) (hexec : p.tables.exec = Jvm.exec) {own C : String} {index : Nat} {y : MethodName} {bytes : ByteArray} {maxL : Nat} {ret : Option FieldType}
    (hown : s.vm.findClass own = some m.cls) (hlink : (Cond.methodLink own index y).before args s = true) (hinst : (Cond.instanceMethod y).before args s = true) (hsel : (Cond.selects C y y).before args s = true)
    (hcode : (Cond.code y bytes maxL ret).before args s = true) (hy : y.cls ≠ "java/lang/invoke/MethodHandle" ∧ y.cls ≠ "java/lang/invoke/VarHandle")
    {W9 : Nat} {Pre : Pt → Array Value → Prop} {Post : Pt → Array Value → Option Value → Pt → Prop} {PostX : Pt → Array Value → Addr → Pt → Prop} (hK : vx_Back l R p e below s args y 3 W9 Pre Post PostX)
    {b : Addr} {cellB : Cell} (hcell : T.heap[b]? = some cellB) (hobj : cellB.vm.isStatics = false) (hcls : s.vm.findClass C = some cellB.cls)
    {g : JFrame} (hg : g.method = m) (hsize : g.locals.size = c.maxLocals) {argsL rest : List Value} (hlen : ∀ sig, parseMethodDescriptor y.desc = some sig → argsL.length = sig.parameters.length)
    (hstack : g.stack = argsL.reverse ++ .ref b :: rest) (hW : 2 * g.monitorRoom + (rest.map fun v => v.category).sum ≤ W9) (hdg : decode c.code g.pc = .ok (.invokevirtual index, 3))
    (hpre : ∀ vm₁, s.WarmedH vm₁ → Pre ⟨T.setVm vm₁, locs, cells, slots⟩ (Value.ref b :: argsL).toArray) :
    (∃ (v : Option Value) (vm₁ : Vm) (B : Pt), s.WarmedH vm₁ ∧ Stand p l e R s m args below meth c B.U B.locs B.cells B.slots ∧ Post ⟨T.setVm vm₁, locs, cells, slots⟩ (Value.ref b :: argsL).toArray v B ∧
      ∀ target, Steps p.tables e below (B.U.setTop { g with pc := g.pc + 3, stack := v.toList ++ rest }) target → Steps p.tables e below (T.setTop g) target) ∨
    (∃ (q : Addr) (vm₁ : Vm) (B : Pt), s.WarmedH vm₁ ∧ Stand p l e R s m args below meth c B.U B.locs B.cells B.slots ∧ PostX ⟨T.setVm vm₁, locs, cells, slots⟩ (Value.ref b :: argsL).toArray q B ∧
      Steps p.tables e below (T.setTop g) ((B.U.setTop { g with stack := rest }).pushFrame (.throwing q))) := by
  obtain ⟨mk, methM, hnamed, hmethM, hstM, habM⟩ := Cond.instanceMethod_spec hinst
  obtain ⟨methM', cM, hmethM', -, -, -, -, -, -, hsigM⟩ := Cond.code_spec hnamed hcode
  cases hmethM.symm.trans hmethM'
  obtain ⟨c2, r2, m2, q1, q2, q3, q4, kP, hkP, hkPi⟩ := Cond.selects_spec hsel
  cases hcls.symm.trans q1
  cases (State.methodFound?_of_named hnamed hy).symm.trans q2
  cases hnamed.symm.trans q3
  have hselP : selectMethod e.platform s.vm cellB.cls mk = .method mk := by rw [Launch.admits_selectMethod X.admits]; exact q4
  obtain ⟨vm₁, X₁, hstep₁⟩ := X.invokevirtual hexec hown hlink hnamed hmethM hstM hkP hkPi hy (a := b) (cell := cellB) hcell
    (fun z h => by rw [h] at hobj; cases hobj) hselP hmethM habM hkP hkPi (g := g) hg (argsL := argsL) (rest := rest) (hlen _ hsigM) hstack hdg
  rcases hK m meth c ⟨T.setVm vm₁, locs, cells, slots⟩ { g with stack := rest } (.invokevirtual index) mk (Value.ref b :: argsL).toArray X₁ hg hsize hdg hW (X₁.named hnamed) (hpre vm₁ X₁.warmed) with ⟨v, B, X', hpost, hsteps⟩ | ⟨q, B, X', hpost, hsteps⟩
  · exact Or.inl ⟨v, vm₁, B, X₁.warmed, X', hpost, fun target h => hstep₁ _ fun acts => by rw [doInvoke_state]; exact hsteps.trans h⟩
  · exact Or.inr ⟨q, vm₁, B, X₁.warmed, X', hpost, hstep₁ _ fun acts => by rw [doInvoke_state]; exact hsteps⟩
theorem vx_callS (X : Stand p l e R s m args below meth c T locs cells slots) (hexec : p.tables.exec = Jvm.exec) {own : String} {index : Nat} {y : MethodName} {bytes : ByteArray} {maxL : Nat} {ret : Option FieldType}
    (hown : s.vm.findClass own = some m.cls) (hlink : (Cond.methodLink own index y).before args s = true) (hstat : (Cond.static y).before args s = true) (hinit : (Cond.initialized y.cls).before args s = true)
    (hcode : (Cond.code y bytes maxL ret).before args s = true) (hy : y.cls ≠ "java/lang/invoke/MethodHandle" ∧ y.cls ≠ "java/lang/invoke/VarHandle")
    {W9 : Nat} {Pre : Pt → Array Value → Prop} {Post : Pt → Array Value → Option Value → Pt → Prop} {PostX : Pt → Array Value → Addr → Pt → Prop} (hK : vx_Back l R p e below s args y 3 W9 Pre Post PostX)
    {g : JFrame} (hg : g.method = m) (hsize : g.locals.size = c.maxLocals) {argsL rest : List Value} (hlen : ∀ sig, parseMethodDescriptor y.desc = some sig → argsL.length = sig.parameters.length)
    (hstack : g.stack = argsL.reverse ++ rest) (hW : 2 * g.monitorRoom + (rest.map fun v => v.category).sum ≤ W9) (hdg : decode c.code g.pc = .ok (.invokestatic index, 3))
    (hpre : ∀ vm₁, s.WarmedH vm₁ → Pre ⟨T.setVm vm₁, locs, cells, slots⟩ argsL.toArray) :
    (∃ (v : Option Value) (vm₁ : Vm) (B : Pt), s.WarmedH vm₁ ∧ Stand p l e R s m args below meth c B.U B.locs B.cells B.slots ∧ Post ⟨T.setVm vm₁, locs, cells, slots⟩ argsL.toArray v B ∧
      ∀ target, Steps p.tables e below (B.U.setTop { g with pc := g.pc + 3, stack := v.toList ++ rest }) target → Steps p.tables e below (T.setTop g) target) ∨
    (∃ (q : Addr) (vm₁ : Vm) (B : Pt), s.WarmedH vm₁ ∧ Stand p l e R s m args below meth c B.U B.locs B.cells B.slots ∧ PostX ⟨T.setVm vm₁, locs, cells, slots⟩ argsL.toArray q B ∧
      Steps p.tables e below (T.setTop g) ((B.U.setTop { g with stack := rest }).pushFrame (.throwing q))) := by
  obtain ⟨mk, hnamed⟩ := Cond.code_named hcode
  obtain ⟨methM, cM, hmethM, -, -, -, -, -, -, hsigM⟩ := Cond.code_spec hnamed hcode
  have hstatic : methM.isStatic = true := Cond.static_spec hnamed hmethM hstat
  obtain ⟨kP, hkP, -⟩ := className_of_methodNamed hnamed
  have hinitP : kP.init = .initialized := Cond.initialized_spec (findClass_of_methodNamed hnamed) hkP hinit
  obtain ⟨vm₁, X₁, hstep₁⟩ := X.invokestatic hexec hown hlink hnamed hmethM hstatic hkP hinitP hy (g := g) hg (argsL := argsL) (rest := rest) (hlen _ hsigM) hstack hdg
  rcases hK m meth c ⟨T.setVm vm₁, locs, cells, slots⟩ { g with stack := rest } (.invokestatic index) mk argsL.toArray X₁ hg hsize hdg hW (X₁.named hnamed) (hpre vm₁ X₁.warmed) with ⟨v, B, X', hpost, hsteps⟩ | ⟨q, B, X', hpost, hsteps⟩
  · exact Or.inl ⟨v, vm₁, B, X₁.warmed, X', hpost, fun target h => hstep₁ _ fun acts => by rw [doInvoke_state]; exact hsteps.trans h⟩
  · exact Or.inr ⟨q, vm₁, B, X₁.warmed, X', hpost, hstep₁ _ fun acts => by rw [doInvoke_state]; exact hsteps⟩
end Calls
theorem vx_cls {s : State} {T : State} {vm₁ : Vm} {E : String} {k : ClassId} (hW : s.WarmedH vm₁) (h : (T.setVm vm₁).vm.findClass E = some k) : s.vm.findClass E = some k := by
  have h1 : vm₁.findClass E = some k := h
  rw [hW.alike.findClass] at h1
  exact h1
/-- the method's frame g, with q thrown over it -/
def vx_W (p : Program) (l : Launch) (e : Env) (R : Room) (s : State) (m : MethodId) (args : Array Value) (below : List Frame) (meth : Method) (c : Code) (H : Heap) (locs : List Loc) (cells slots : Nat) (Q : State → Prop) (g : JFrame) (q : Addr) : Prop :=
  ∀ T : State, T.heap = H → Stand p l e R s m args below meth c T locs cells slots → ∃ t, Steps p.tables e below ((T.setTop g).pushFrame (.throwing q)) t ∧ Q t
def vx_Run (p : Program) (l : Launch) (e : Env) (R : Room) (s : State) (m : MethodId) (args : Array Value) (below : List Frame) (meth : Method) (c : Code) (H : Heap) (locs : List Loc) (cells slots mc ms : Nat) (g : JFrame) (rest : List Value) (Qa : State → Outcome → State → Prop) (XC : String → State → State → Prop) (free : Addr → Prop) : Prop :=
  ∀ T : State, T.heap = H → Stand p l e R s m args below meth c T locs cells slots →
    (∃ (v : Option Value) (st₀ t T' : State) (L : List Loc), st₀.heap = H ∧ Stand p l e R s m args below meth c T' (locs ++ L) (cells + mc) (slots + ms) ∧ (∀ q ∈ L, free q.base) ∧ T'.heap = t.heap ∧ T'.vm = t.vm ∧ Qa st₀ (.returned v) t ∧
      Goes p e below T g T' { g with pc := g.pc + 3, stack := v.toList ++ rest }) ∨
    (∃ (q : Addr) (st₀ t T' : State) (L : List Loc) (E : String) (ce : Cell), st₀.heap = H ∧ Stand p l e R s m args below meth c T' (locs ++ L) (cells + mc) (slots + ms) ∧ (∀ z ∈ L, free z.base) ∧ T'.heap = t.heap ∧ T'.vm = t.vm ∧ XC E st₀ t ∧ t.heap[q]? = some ce ∧ ce.vm = .none ∧ s.vm.findClass E = some ce.cls ∧
      Steps p.tables e below (T.setTop g) ((T'.setTop { g with stack := rest }).pushFrame (.throwing q)))
def vx_X {S : Type} (px : S → Prop) (B : String → S → State → Prop) (A : Nat → Prop) : String → State → State → Prop := fun E st t => ∃ u : S, px u ∧ B E u t ∧ va_F A st t
section Runs
variable {p : Program} {l : Launch} {e : Env} {R : Room} {s : State} {m : MethodId} {args : Array Value} {below : List Frame} {meth : Method} {c : Code} {H : Heap} {locs : List Loc} {cells slots : Nat}
variable {y : MethodName} {bytes cc : ByteArray} {maxL nL mc ms n index : Nat} {ret : Option FieldType} {ws : List Cond} {rm : Room} {Pc : Array Value → State → Prop} {Qc : Array Value → State → Outcome → State → Prop} {XC : String → State → State → Prop} {free : Addr → Prop} {Ts : List Cond} {own C : String} {b : Addr} {As rest : List Value} {g : JFrame}
theorem vx_callBack (cb : CallB R s args own index y bytes maxL ret ws rm mc ms n) (hM : vx_Met l y ws rm Pc Qc XC mc ms free) (hbl : FrameBlind Pc) : vx_Back l R p e below s args y 3 8 (PreOf R mc ms Pc) (PostOf Qc mc ms free) (vx_Post XC mc ms free) := by
  obtain ⟨hrc, hrs, hfr, hlo, hws, hcw, -, hini, -⟩ := cb
  exact vx_back (bytes := bytes) (maxL := maxL) (ret := ret) hM hbl hrc hrs hfr hlo hws hcw (fun a' U hW => word_at hW (Or.inl (by first | rfl | simp [Cond.onTables, Cond.keeps, Cond.steady])) hini)
theorem vx_runV (S : CallFix p m c cc nL s args Ts own) (hM : vx_Met l y ws rm Pc Qc XC mc ms free) (cw : CallW R s args own C index y bytes maxL ret ws rm mc ms n) (hp : PreV s H C b Pc As)
    (hg : g.method = m) (hn : As.length = n) (hsize : g.locals.size = nL) (hstack : g.stack = As.reverse ++ .ref b :: rest) (hW : 2 * g.monitorRoom + (rest.map fun v => v.category).sum ≤ 8) (hdg : decode cc g.pc = .ok (.invokevirtual index, 3)) (hf : cells + mc ≤ R.cells ∧ slots + ms ≤ R.slots) :
    vx_Run p l e R s m args below meth c H locs cells slots mc ms g rest (Qc (Value.ref b :: As).toArray) XC free := by
  have hK : vx_Back l R p e below s args y 3 8 (PreOf R mc ms Pc) (PostOf Qc mc ms free) (vx_Post XC mc ms free) := vx_callBack cw.1 hM hp.1
  obtain ⟨⟨-, -, -, -, -, -, hcode, -, hy, hlen, hl⟩, hin, hse⟩ := cw
  obtain ⟨hx, hb, hml, ho, -⟩ := S
  obtain ⟨-, ⟨cellB, hcB, hoB, hclB⟩, hPc⟩ := hp
  intro T hT X
  rcases vx_callV X hx (C := C) (bytes := bytes) (maxL := maxL) (ret := ret) ho hl hin hse hcode hy hK (by rw [hT]; exact hcB) hoB hclB hg (hsize.trans hml.symm) (argsL := As) (rest := rest) (fun sig h => hn.trans (hlen sig h)) hstack hW (by rw [hb]; exact hdg)
    (fun vm₁ hW₁ => ⟨hf.1, hf.2, hPc (T.setVm vm₁) hT hW₁⟩) with ⟨v, vm₁, ⟨U', l2, c2, s2⟩, hW₁, X', ⟨g', mk, t, L, e1, e2, hq, h1, hL, h2, h3⟩, st⟩ | ⟨q, vm₁, ⟨U', l2, c2, s2⟩, hW₁, X', ⟨g', mk, t, L, E, ce, e1, e2, hq, hce, hcv, hcl, h1, hL, h2, h3⟩, st⟩
  · dsimp only [Pt.U, Pt.locs, Pt.cells, Pt.slots] at X' e1 e2 h1 h2 h3 st
    subst h1; subst h2; subst h3
    exact Or.inl ⟨v, (T.setVm vm₁).calling g' mk (Value.ref b :: As).toArray, t, U', L, hT, X', hL, e1, e2, hq, st⟩
  · dsimp only [Pt.U, Pt.locs, Pt.cells, Pt.slots] at X' e1 e2 h1 h2 h3 st hcl
    subst h1; subst h2; subst h3
    exact Or.inr ⟨q, (T.setVm vm₁).calling g' mk (Value.ref b :: As).toArray, t, U', L, E, ce, hT, X', hL, e1, e2, hq, hce, hcv, vx_cls hW₁ hcl, st⟩
theorem vx_runS (S : CallFix p m c cc nL s args Ts own) (hM : vx_Met l y ws rm Pc Qc XC mc ms free) (cw : CallB R s args own index y bytes maxL ret ws rm mc ms n ∧ (Cond.static y).before args s = true) (hp : PreS s H Pc As)
    (hg : g.method = m) (hn : As.length = n) (hsize : g.locals.size = nL) (hstack : g.stack = As.reverse ++ rest) (hW : 2 * g.monitorRoom + (rest.map fun v => v.category).sum ≤ 8) (hdg : decode cc g.pc = .ok (.invokestatic index, 3)) (hf : cells + mc ≤ R.cells ∧ slots + ms ≤ R.slots) :
    vx_Run p l e R s m args below meth c H locs cells slots mc ms g rest (Qc As.toArray) XC free := by
  have hK : vx_Back l R p e below s args y 3 8 (PreOf R mc ms Pc) (PostOf Qc mc ms free) (vx_Post XC mc ms free) := vx_callBack cw.1 hM hp.1
  obtain ⟨⟨-, -, -, -, -, -, hcode, hini, hy, hlen, hl⟩, hstt⟩ := cw
  obtain ⟨hx, hb, hml, ho, -⟩ := S
  intro T hT X
  rcases vx_callS X hx (bytes := bytes) (maxL := maxL) (ret := ret) ho hl hstt hini hcode hy hK hg (hsize.trans hml.symm) (argsL := As) (rest := rest) (fun sig h => hn.trans (hlen sig h)) hstack hW (by rw [hb]; exact hdg)
    (fun vm₁ hW₁ => ⟨hf.1, hf.2, hp.2 (T.setVm vm₁) hT hW₁⟩) with ⟨v, vm₁, ⟨U', l2, c2, s2⟩, hW₁, X', ⟨g', mk, t, L, e1, e2, hq, h1, hL, h2, h3⟩, st⟩ | ⟨q, vm₁, ⟨U', l2, c2, s2⟩, hW₁, X', ⟨g', mk, t, L, E, ce, e1, e2, hq, hce, hcv, hcl, h1, hL, h2, h3⟩, st⟩
  · dsimp only [Pt.U, Pt.locs, Pt.cells, Pt.slots] at X' e1 e2 h1 h2 h3 st
    subst h1; subst h2; subst h3
    exact Or.inl ⟨v, (T.setVm vm₁).calling g' mk As.toArray, t, U', L, hT, X', hL, e1, e2, hq, st⟩
  · dsimp only [Pt.U, Pt.locs, Pt.cells, Pt.slots] at X' e1 e2 h1 h2 h3 st hcl
    subst h1; subst h2; subst h3
    exact Or.inr ⟨q, (T.setVm vm₁).calling g' mk As.toArray, t, U', L, E, ce, hT, X', hL, e1, e2, hq, hce, hcv, vx_cls hW₁ hcl, st⟩
end Runs
section Rows
variable {p : Program} {l : Launch} {e : Env} {R : Room} {s : State} {m : MethodId} {args : Array Value} {below : List Frame} {meth : Method} {c : Code} {H : Heap} {locs : List Loc} {cells slots : Nat} {Q : State → Prop}
variable {mc ms : Nat} {free : Addr → Prop} {A0 A1 : Nat → Prop} {H0 : Heap} {a : Array Value} {pc : Nat} {ls : Array Slot} {st0 rest : List Value}
theorem vx_keep {st₀ t T' : State} {L : List Loc} (h0 : st₀.heap = H) (e1 : T'.heap = t.heap) (hS : va_S A0 H0 H locs) (hA : ∀ q, q < H.size → A1 q → A0 q) (hf : ∀ q, free q → A0 q) (hL : ∀ q ∈ L, free q.base) (hF : va_F A1 st₀ t) :
    H.size ≤ T'.heap.size ∧ (∀ q : Nat, q < H.size → ¬ A1 q → T'.heap[q]? = H[q]?) ∧ va_S A0 H0 T'.heap (locs ++ L) := by
  obtain ⟨hz, hk⟩ := hF
  rw [h0] at hz hk
  exact ⟨by rw [e1]; exact hz, fun q h1 h2 => by rw [e1]; exact hk q h1 h2,
    ⟨Nat.le_trans hS.1 (by rw [e1]; exact hz), fun q h1 h2 => by rw [e1, hk q (Nat.lt_of_lt_of_le h1 hS.1) (fun z => h2 (hA q (Nat.lt_of_lt_of_le h1 hS.1) z))]; exact hS.2.1 q h1 h2, fun q hq => by
      rcases List.mem_append.mp hq with h | h
      · exact hS.2.2 q h
      · exact hf _ (hL q h)⟩⟩
theorem vx_calli {S SX : Type} {post : Int32 → S → Prop} {px : SX → Prop} {B : S → State → Prop} {BX : String → SX → State → Prop} {AX : Nat → Prop} (hr : vx_Run p l e R s m args below meth c H locs cells slots mc ms (F0 m pc ls st0) rest (va_Qi post B A1 a) (vx_X px BX AX) free) (hS : va_S A0 H0 H locs) (hA : ∀ q, q < H.size → A1 q → A0 q) (hf : ∀ q, free q → A0 q) (hAX : ∀ q, q < H.size → AX q → A0 q)
    (kx : ∀ (E : String) (ce : Cell) (q9 : Addr) (u : SX) (t : State) (H1 : Heap) (locs1 : List Loc), t.heap = H1 → s.vm.Alike t.vm → px u → BX E u t → H.size ≤ H1.size → (∀ q : Nat, q < H.size → ¬ AX q → H1[q]? = H[q]?) → va_S A0 H0 H1 locs1 → H1[q9]? = some ce → ce.vm = .none → s.vm.findClass E = some ce.cls → vx_W p l e R s m args below meth c H1 locs1 (cells + mc) (slots + ms) Q (F0 m pc ls rest) q9)
    (kk : ∀ (r : Int32) (u : S) (t : State) (H1 : Heap) (locs1 : List Loc), t.heap = H1 → s.vm.Alike t.vm → post r u → B u t → H.size ≤ H1.size → (∀ q : Nat, q < H.size → ¬ A1 q → H1[q]? = H[q]?) → va_S A0 H0 H1 locs1 → W p l e R s m args below meth c H1 locs1 (cells + mc) (slots + ms) Q (F0 m (pc + 3) ls (.int r :: rest))) : W p l e R s m args below meth c H locs cells slots Q (F0 m pc ls st0) := by
  intro T hT X
  rcases hr T hT X with ⟨v, st₀, t, T', L, h0, X', hL, e1, e2, ⟨⟨r, u, hv, hp, hb⟩, hF⟩, st⟩ | ⟨q, st₀, t, T', L, E, ce, h0, X', hL, e1, e2, ⟨u, hp, hb, hF⟩, hce, hcv, hcl, st⟩
  · cases hv
    obtain ⟨k1, k2, k3⟩ := vx_keep h0 e1 hS hA hf hL hF
    obtain ⟨t2, a1, b1⟩ := kk r u t T'.heap (locs ++ L) e1.symm (by rw [← e2]; exact X'.warmed.alike) hp hb k1 k2 k3 T' rfl X'
    exact ⟨t2, st t2 a1, b1⟩
  · obtain ⟨k1, k2, k3⟩ := vx_keep h0 e1 hS hAX hf hL hF
    obtain ⟨t2, a1, b1⟩ := kx E ce q u t T'.heap (locs ++ L) e1.symm (by rw [← e2]; exact X'.warmed.alike) hp hb k1 k2 k3 (by rw [e1]; exact hce) hcv hcl T' rfl X'
    exact ⟨t2, st.trans a1, b1⟩
theorem vx_calll {S SX : Type} {post : Int64 → S → Prop} {px : SX → Prop} {B : S → State → Prop} {BX : String → SX → State → Prop} {AX : Nat → Prop} (hr : vx_Run p l e R s m args below meth c H locs cells slots mc ms (F0 m pc ls st0) rest (va_Ql post B A1 a) (vx_X px BX AX) free) (hS : va_S A0 H0 H locs) (hA : ∀ q, q < H.size → A1 q → A0 q) (hf : ∀ q, free q → A0 q) (hAX : ∀ q, q < H.size → AX q → A0 q)
    (kx : ∀ (E : String) (ce : Cell) (q9 : Addr) (u : SX) (t : State) (H1 : Heap) (locs1 : List Loc), t.heap = H1 → s.vm.Alike t.vm → px u → BX E u t → H.size ≤ H1.size → (∀ q : Nat, q < H.size → ¬ AX q → H1[q]? = H[q]?) → va_S A0 H0 H1 locs1 → H1[q9]? = some ce → ce.vm = .none → s.vm.findClass E = some ce.cls → vx_W p l e R s m args below meth c H1 locs1 (cells + mc) (slots + ms) Q (F0 m pc ls rest) q9)
    (kk : ∀ (r : Int64) (u : S) (t : State) (H1 : Heap) (locs1 : List Loc), t.heap = H1 → s.vm.Alike t.vm → post r u → B u t → H.size ≤ H1.size → (∀ q : Nat, q < H.size → ¬ A1 q → H1[q]? = H[q]?) → va_S A0 H0 H1 locs1 → W p l e R s m args below meth c H1 locs1 (cells + mc) (slots + ms) Q (F0 m (pc + 3) ls (.long r :: rest))) : W p l e R s m args below meth c H locs cells slots Q (F0 m pc ls st0) := by
  intro T hT X
  rcases hr T hT X with ⟨v, st₀, t, T', L, h0, X', hL, e1, e2, ⟨⟨r, u, hv, hp, hb⟩, hF⟩, st⟩ | ⟨q, st₀, t, T', L, E, ce, h0, X', hL, e1, e2, ⟨u, hp, hb, hF⟩, hce, hcv, hcl, st⟩
  · cases hv
    obtain ⟨k1, k2, k3⟩ := vx_keep h0 e1 hS hA hf hL hF
    obtain ⟨t2, a1, b1⟩ := kk r u t T'.heap (locs ++ L) e1.symm (by rw [← e2]; exact X'.warmed.alike) hp hb k1 k2 k3 T' rfl X'
    exact ⟨t2, st t2 a1, b1⟩
  · obtain ⟨k1, k2, k3⟩ := vx_keep h0 e1 hS hAX hf hL hF
    obtain ⟨t2, a1, b1⟩ := kx E ce q u t T'.heap (locs ++ L) e1.symm (by rw [← e2]; exact X'.warmed.alike) hp hb k1 k2 k3 (by rw [e1]; exact hce) hcv hcl T' rfl X'
    exact ⟨t2, st.trans a1, b1⟩
theorem vx_callf {S SX : Type} {post : UInt32 → S → Prop} {px : SX → Prop} {B : S → State → Prop} {BX : String → SX → State → Prop} {AX : Nat → Prop} (hr : vx_Run p l e R s m args below meth c H locs cells slots mc ms (F0 m pc ls st0) rest (va_Qf post B A1 a) (vx_X px BX AX) free) (hS : va_S A0 H0 H locs) (hA : ∀ q, q < H.size → A1 q → A0 q) (hf : ∀ q, free q → A0 q) (hAX : ∀ q, q < H.size → AX q → A0 q)
    (kx : ∀ (E : String) (ce : Cell) (q9 : Addr) (u : SX) (t : State) (H1 : Heap) (locs1 : List Loc), t.heap = H1 → s.vm.Alike t.vm → px u → BX E u t → H.size ≤ H1.size → (∀ q : Nat, q < H.size → ¬ AX q → H1[q]? = H[q]?) → va_S A0 H0 H1 locs1 → H1[q9]? = some ce → ce.vm = .none → s.vm.findClass E = some ce.cls → vx_W p l e R s m args below meth c H1 locs1 (cells + mc) (slots + ms) Q (F0 m pc ls rest) q9)
    (kk : ∀ (r : UInt32) (u : S) (t : State) (H1 : Heap) (locs1 : List Loc), t.heap = H1 → s.vm.Alike t.vm → post r u → B u t → H.size ≤ H1.size → (∀ q : Nat, q < H.size → ¬ A1 q → H1[q]? = H[q]?) → va_S A0 H0 H1 locs1 → W p l e R s m args below meth c H1 locs1 (cells + mc) (slots + ms) Q (F0 m (pc + 3) ls (.float r :: rest))) : W p l e R s m args below meth c H locs cells slots Q (F0 m pc ls st0) := by
  intro T hT X
  rcases hr T hT X with ⟨v, st₀, t, T', L, h0, X', hL, e1, e2, ⟨⟨r, u, hv, hp, hb⟩, hF⟩, st⟩ | ⟨q, st₀, t, T', L, E, ce, h0, X', hL, e1, e2, ⟨u, hp, hb, hF⟩, hce, hcv, hcl, st⟩
  · cases hv
    obtain ⟨k1, k2, k3⟩ := vx_keep h0 e1 hS hA hf hL hF
    obtain ⟨t2, a1, b1⟩ := kk r u t T'.heap (locs ++ L) e1.symm (by rw [← e2]; exact X'.warmed.alike) hp hb k1 k2 k3 T' rfl X'
    exact ⟨t2, st t2 a1, b1⟩
  · obtain ⟨k1, k2, k3⟩ := vx_keep h0 e1 hS hAX hf hL hF
    obtain ⟨t2, a1, b1⟩ := kx E ce q u t T'.heap (locs ++ L) e1.symm (by rw [← e2]; exact X'.warmed.alike) hp hb k1 k2 k3 (by rw [e1]; exact hce) hcv hcl T' rfl X'
    exact ⟨t2, st.trans a1, b1⟩
theorem vx_calld {S SX : Type} {post : UInt64 → S → Prop} {px : SX → Prop} {B : S → State → Prop} {BX : String → SX → State → Prop} {AX : Nat → Prop} (hr : vx_Run p l e R s m args below meth c H locs cells slots mc ms (F0 m pc ls st0) rest (va_Qd post B A1 a) (vx_X px BX AX) free) (hS : va_S A0 H0 H locs) (hA : ∀ q, q < H.size → A1 q → A0 q) (hf : ∀ q, free q → A0 q) (hAX : ∀ q, q < H.size → AX q → A0 q)
    (kx : ∀ (E : String) (ce : Cell) (q9 : Addr) (u : SX) (t : State) (H1 : Heap) (locs1 : List Loc), t.heap = H1 → s.vm.Alike t.vm → px u → BX E u t → H.size ≤ H1.size → (∀ q : Nat, q < H.size → ¬ AX q → H1[q]? = H[q]?) → va_S A0 H0 H1 locs1 → H1[q9]? = some ce → ce.vm = .none → s.vm.findClass E = some ce.cls → vx_W p l e R s m args below meth c H1 locs1 (cells + mc) (slots + ms) Q (F0 m pc ls rest) q9)
    (kk : ∀ (r : UInt64) (u : S) (t : State) (H1 : Heap) (locs1 : List Loc), t.heap = H1 → s.vm.Alike t.vm → post r u → B u t → H.size ≤ H1.size → (∀ q : Nat, q < H.size → ¬ A1 q → H1[q]? = H[q]?) → va_S A0 H0 H1 locs1 → W p l e R s m args below meth c H1 locs1 (cells + mc) (slots + ms) Q (F0 m (pc + 3) ls (.double r :: rest))) : W p l e R s m args below meth c H locs cells slots Q (F0 m pc ls st0) := by
  intro T hT X
  rcases hr T hT X with ⟨v, st₀, t, T', L, h0, X', hL, e1, e2, ⟨⟨r, u, hv, hp, hb⟩, hF⟩, st⟩ | ⟨q, st₀, t, T', L, E, ce, h0, X', hL, e1, e2, ⟨u, hp, hb, hF⟩, hce, hcv, hcl, st⟩
  · cases hv
    obtain ⟨k1, k2, k3⟩ := vx_keep h0 e1 hS hA hf hL hF
    obtain ⟨t2, a1, b1⟩ := kk r u t T'.heap (locs ++ L) e1.symm (by rw [← e2]; exact X'.warmed.alike) hp hb k1 k2 k3 T' rfl X'
    exact ⟨t2, st t2 a1, b1⟩
  · obtain ⟨k1, k2, k3⟩ := vx_keep h0 e1 hS hAX hf hL hF
    obtain ⟨t2, a1, b1⟩ := kx E ce q u t T'.heap (locs ++ L) e1.symm (by rw [← e2]; exact X'.warmed.alike) hp hb k1 k2 k3 (by rw [e1]; exact hce) hcv hcl T' rfl X'
    exact ⟨t2, st.trans a1, b1⟩
theorem vx_callv {S SX : Type} {post : S → Prop} {px : SX → Prop} {B : S → State → Prop} {BX : String → SX → State → Prop} {AX : Nat → Prop} (hr : vx_Run p l e R s m args below meth c H locs cells slots mc ms (F0 m pc ls st0) rest (va_Qv post B A1 a) (vx_X px BX AX) free) (hS : va_S A0 H0 H locs) (hA : ∀ q, q < H.size → A1 q → A0 q) (hf : ∀ q, free q → A0 q) (hAX : ∀ q, q < H.size → AX q → A0 q)
    (kx : ∀ (E : String) (ce : Cell) (q9 : Addr) (u : SX) (t : State) (H1 : Heap) (locs1 : List Loc), t.heap = H1 → s.vm.Alike t.vm → px u → BX E u t → H.size ≤ H1.size → (∀ q : Nat, q < H.size → ¬ AX q → H1[q]? = H[q]?) → va_S A0 H0 H1 locs1 → H1[q9]? = some ce → ce.vm = .none → s.vm.findClass E = some ce.cls → vx_W p l e R s m args below meth c H1 locs1 (cells + mc) (slots + ms) Q (F0 m pc ls rest) q9)
    (kk : ∀ (u : S) (t : State) (H1 : Heap) (locs1 : List Loc), t.heap = H1 → s.vm.Alike t.vm → post u → B u t → H.size ≤ H1.size → (∀ q : Nat, q < H.size → ¬ A1 q → H1[q]? = H[q]?) → va_S A0 H0 H1 locs1 → W p l e R s m args below meth c H1 locs1 (cells + mc) (slots + ms) Q (F0 m (pc + 3) ls (rest))) : W p l e R s m args below meth c H locs cells slots Q (F0 m pc ls st0) := by
  intro T hT X
  rcases hr T hT X with ⟨v, st₀, t, T', L, h0, X', hL, e1, e2, ⟨⟨u, hv, hp, hb⟩, hF⟩, st⟩ | ⟨q, st₀, t, T', L, E, ce, h0, X', hL, e1, e2, ⟨u, hp, hb, hF⟩, hce, hcv, hcl, st⟩
  · cases hv
    obtain ⟨k1, k2, k3⟩ := vx_keep h0 e1 hS hA hf hL hF
    obtain ⟨t2, a1, b1⟩ := kk u t T'.heap (locs ++ L) e1.symm (by rw [← e2]; exact X'.warmed.alike) hp hb k1 k2 k3 T' rfl X'
    exact ⟨t2, st t2 a1, b1⟩
  · obtain ⟨k1, k2, k3⟩ := vx_keep h0 e1 hS hAX hf hL hF
    obtain ⟨t2, a1, b1⟩ := kx E ce q u t T'.heap (locs ++ L) e1.symm (by rw [← e2]; exact X'.warmed.alike) hp hb k1 k2 k3 (by rw [e1]; exact hce) hcv hcl T' rfl X'
    exact ⟨t2, st.trans a1, b1⟩
/-- caught by the row x of this method's table; the rows ahead don't take it -/
theorem vx_catch {own name : String} {E : String} {ce : Cell} {q : Addr} (hown : s.vm.findClass own = some m.cls) (pre : List ExceptionTableEntry) (x : ExceptionTableEntry) (suf : List ExceptionTableEntry) (hsplit : c.exceptionTable.toList = pre ++ x :: suf)
    (hpass : ∀ z ∈ pre, covers z pc = false ∨ (z.catchType ≠ 0 ∧ ∃ nm : String, (Cond.classLink own z.catchType nm).before args s = true ∧ va_Nc E nm s)) (hx : covers x pc = true) (h0 : x.catchType ≠ 0)
    (hlink : (Cond.classLink own x.catchType name).before args s = true) (hcast : (Cond.castable E name).before args s = true) (hcell : H[q]? = some ce) (hv : ce.vm = .none) (hcl : s.vm.findClass E = some ce.cls)
    (kk : W p l e R s m args below meth c H locs cells slots Q (F0 m x.handlerPc ls [.ref q])) : vx_W p l e R s m args below meth c H locs cells slots Q (F0 m pc ls rest) q := by
  intro T hT X
  have hpl : e.platform.magicAccessors = ({} : Platform).magicAccessors := by rw [X.admits.platform]
  obtain ⟨c3, c4, hc3, hc4, hasg⟩ := Cond.castable_spec hcast
  cases Option.some.inj (hc3.symm.trans hcl)
  obtain ⟨c5, hc5, hcl5⟩ := Cond.classLink_spec hown hlink e.platform hpl
  cases Option.some.inj (hc4.symm.trans hc5)
  obtain ⟨vm', X', st⟩ := X.thenCaughtThrough q (g := F0 m pc ls rest) rfl (Steps.refl _) (by rw [hT]; exact hcell) (by rw [hv]; rfl) (by obtain ⟨k9, h9, -⟩ := Vm.findClass_spec hcl; exact ⟨k9, h9⟩) pre x suf hsplit
    (fun z hz => by
      rcases hpass z hz with h | ⟨hz0, nm, hl1, hn1⟩
      · exact Or.inl h
      · obtain ⟨c6, hc6, hcl6⟩ := Cond.classLink_spec hown hl1 e.platform hpl
        obtain ⟨a8, b8, h1, h2, h3⟩ := hn1
        cases Option.some.inj (h1.symm.trans hcl)
        cases Option.some.inj (h2.symm.trans hc6)
        exact Or.inr ⟨hz0, _, hcl6, h3⟩) hx (Or.inr ⟨h0, c4, hcl5, hasg⟩)
  obtain ⟨t, a1, b1⟩ := kk (T.setVm vm') hT X'
  exact ⟨t, st.trans a1, b1⟩
end Rows
section Ends
variable {p : Program} {l : Launch} {e : Env} {R : Room} {s : State} {m : MethodId} {args : Array Value} {below : List Frame} {meth : Method} {c : Code} {H : Heap} {locs : List Loc} {cells slots : Nat} {Q : State → Prop}
variable {mc ms : Nat} {free : Addr → Prop} {A0 A1 : Nat → Prop} {H0 : Heap} {a : Array Value} {ls : Array Slot} {st0 rest : List Value}
variable {Qc : Array Value → State → Outcome → State → Prop} {XC : String → State → State → Prop}
/-- what a body that may throw owes at its end -/
def vx_MQ (below : List Frame) (Qc : Array Value → State → Outcome → State → Prop) (XC : String → State → State → Prop) (a : Array Value) (s : State) (mc ms : Nat) (free : Addr → Prop) : State → Prop := fun t =>
  ∃ o, t.status = .running ∧ Ended t below o ∧ vx_Q Qc XC mc ms free a s o t
theorem vx_ret {g : JFrame} {mc ms : Nat} (k : W p l e R s m args below meth c H locs cells slots (MQ below Qc args s mc ms free) g) : W p l e R s m args below meth c H locs cells slots (vx_MQ below Qc XC args s mc ms free) g := by
  intro T hT X
  obtain ⟨t, a1, o, b1, b2, b3, b4⟩ := k T hT X
  exact ⟨t, a1, o, b1, b2, Or.inl ⟨b3, b4⟩⟩
/-- not caught here: it goes on to the caller -/
theorem vx_widen {g : JFrame} {q : Addr} {k n : Nat} (h1 : cells ≤ k) (h2 : slots ≤ n) (kk : vx_W p l e R s m args below meth c H locs k n Q g q) : vx_W p l e R s m args below meth c H locs cells slots Q g q := fun T hT X => kk T hT (stand_widen X h1 h2)
theorem vx_out {pc : Nat} {E : String} {ce : Cell} {q : Addr} {mc ms : Nat} (hout : ∀ x ∈ c.exceptionTable.toList, covers x pc = false) (hlocks : meth.locks = false) (hcell : H[q]? = some ce) (hv : ce.vm = .none) (hcl : s.vm.findClass E = some ce.cls)
    (hx : ∀ t : State, t.heap = H → s.vm.Alike t.vm → XC E s t) (hf : ∀ z ∈ locs, free z.base) (hc : cells ≤ mc) (hs : slots ≤ ms) :
    vx_W p l e R s m args below meth c H locs cells slots (vx_MQ below Qc XC args s mc ms free) (F0 m pc ls rest) q := by
  intro T hT X
  obtain ⟨st1, hrun, hend, hW, hsm⟩ := X.leaveThrown q (g := F0 m pc ls rest) rfl rfl rfl hout hlocks
  have hcell9 : (T.setFrames (.throwing q :: below)).heap[q]? = some ce := by
    show T.heap[q]? = some ce
    rw [hT]; exact hcell
  exact ⟨_, st1, .threw q, hrun, hend, Or.inr ⟨q, rfl, E, ce, locs, hx _ hT hW.alike, hcell9, hv, hcl, hW, hsm.mono hc hs, hf⟩⟩
theorem vx_frame {U : State} {k n : Nat} (h : s.sameButNew ({ U with vm := s.vm } : State) locs k n) : s.heap.size ≤ U.heap.size ∧ ∀ q : Nat, q < s.heap.size → (∀ z ∈ locs, z.base ≠ q) → U.heap[q]? = s.heap[q]? := by
  obtain ⟨-, h2, -, -, -, h6⟩ := h
  refine ⟨h2, fun q hq hz => ?_⟩
  obtain ⟨c9, e1, e2, e3, e4⟩ := h6 q _ (Array.getElem?_eq_getElem hq)
  have hs : c9.slots = (s.heap[q]).slots := Array.ext_getElem? fun i => e4 i fun hm => hz _ hm rfl
  have h9 : c9 = s.heap[q] := by
    rw [hs] at e2
    exact e2
  have e5 : U.heap[q]? = some c9 := e1
  rw [e5, h9, Array.getElem?_eq_getElem hq]
/-- the words of a throw but the four that speak of the heap -/
def vx_no (w : Cond) : Bool := decide (w ≠ .isRef (.static Bundle.tN "UNASSIGNED_STACK" Bundle.steD)) && decide (w ≠ .isRef (.static Bundle.tN "SUPPRESSED_SENTINEL" Bundle.listD)) && decide (w ≠ .laysStatic Bundle.tN "UNASSIGNED_STACK" Bundle.steD) && decide (w ≠ .laysStatic Bundle.tN "SUPPRESSED_SENTINEL" Bundle.listD)
def vx_at0 (own : String) (ic : Nat) (X : String) (names : List String) : List Cond := (Bundle.ownAtoms0 own ic X names).filter vx_no
def vx_atS (own : String) (ic : Nat) (X : String) (names : List String) : List Cond := (Bundle.ownAtoms own ic X names).filter vx_no
/-- a word that the tables alone decide, or a good one -/
def vx_ot (w : Cond) : Bool := w.onTables || goodWord w
theorem vx_ot_at {args a' : Array Value} {s U : State} {w : Cond} (hW : s.WarmedH U.vm) (hvm : s.vm = U.vm) (hg : vx_ot w = true) (h : w.before args s = true) : w.before a' U = true := by
  simp only [vx_ot, Bool.or_eq_true] at hg
  rcases hg with hg | hg
  · exact va_tabs hg hvm h
  · exact word_at hW (good_of_word hg) h
/-- a list's words: the good ones out of the method's own list, the others by premises of their own -/
theorem vx_hat {args : Array Value} {s : State} {L B : List Cond} (h1 : ∀ w ∈ L.filter goodWord, w.before args s = true) (h2 : ∀ w ∈ L.filter (fun w => !goodWord w), w ∈ B) (h3 : ∀ w ∈ B, w.before args s = true) : ∀ w ∈ L, w.before args s = true := by
  intro w hw
  by_cases g : goodWord w = true
  · exact h1 w (List.mem_filter.mpr ⟨hw, g⟩)
  · refine h3 w (h2 w (List.mem_filter.mpr ⟨hw, ?_⟩))
    show (!goodWord w) = true
    cases hgw : goodWord w
    · rfl
    · exact absurd hgw g
theorem vx_c {args : Array Value} {s : State} {w : Cond} {B : List Cond} (h : w.before args s = true) (t : ∀ w ∈ B, w.before args s = true) : ∀ w' ∈ w :: B, w'.before args s = true := fun w' h' => (List.mem_cons.mp h').elim (fun e => by rw [e]; exact h) (t w')
theorem vx_n {args : Array Value} {s : State} : ∀ w ∈ ([] : List Cond), w.before args s = true := fun _ h => nomatch h
theorem vx_own {args : Array Value} {s : State} {L : List Cond} (h1 : ∀ w ∈ L.filter vx_no, w.before args s = true)
    (hU : (Cond.isRef (.static Bundle.tN "UNASSIGNED_STACK" Bundle.steD)).before args s = true) (hN : (Cond.isRef (.static Bundle.tN "SUPPRESSED_SENTINEL" Bundle.listD)).before args s = true)
    (lU : (Cond.laysStatic Bundle.tN "UNASSIGNED_STACK" Bundle.steD).before args s = true) (lN : (Cond.laysStatic Bundle.tN "SUPPRESSED_SENTINEL" Bundle.listD).before args s = true) : ∀ w ∈ L, w.before args s = true := by
  intro w hw
  by_cases e1 : w = .isRef (.static Bundle.tN "UNASSIGNED_STACK" Bundle.steD)
  · rw [e1]; exact hU
  · by_cases e2 : w = .isRef (.static Bundle.tN "SUPPRESSED_SENTINEL" Bundle.listD)
    · rw [e2]; exact hN
    · by_cases e3 : w = .laysStatic Bundle.tN "UNASSIGNED_STACK" Bundle.steD
      · rw [e3]; exact lU
      · by_cases e4 : w = .laysStatic Bundle.tN "SUPPRESSED_SENTINEL" Bundle.listD
        · rw [e4]; exact lN
        · exact h1 w (List.mem_filter.mpr ⟨hw, by unfold vx_no; rw [decide_eq_true e1, decide_eq_true e2, decide_eq_true e3, decide_eq_true e4]; rfl⟩)
/-- where a static field lies, its class's statics cell in H -/
def vx_L (C n d : String) (A : Nat → Prop) (U : State) (H : Heap) : Prop := ∃ (c : ClassId) (k : Class) (i : Nat) (f : Field) (a : Nat) (cell : Cell), U.vm.findClass C = some c ∧ U.fieldFound? C n d = some (c, k, i, f) ∧ f.isStatic = true ∧ k.statics = some a ∧ H[a]? = some cell ∧ cell.vm.isStatics = true ∧ cell.cls = c ∧ f.slot < cell.slots.size ∧ k.staticTypes[f.slot]? = some f.type ∧ ¬ A a
theorem vx_L.moved {C n d : String} {A : Nat → Prop} {u U : State} {H : Heap} (hvm : u.vm.Alike U.vm) (h : vx_L C n d A u H) : vx_L C n d A U H := by
  obtain ⟨c, k, i, f, a, cell, h1, h2, h3, h4, h5, h6, h7, h8, h9, h10⟩ := h
  obtain ⟨k', hi', he⟩ := State.fieldFound?_setVm hvm h2
  exact ⟨c, k', i, f, a, cell, by rw [hvm.findClass]; exact h1, hi', h3, by rw [he]; exact h4, h5, h6, h7, h8, by rw [he]; exact h9, h10⟩
theorem vx_L.kept {C n d : String} {A : Nat → Prop} {U : State} {H H1 : Heap} (h : vx_L C n d A U H) (hq : ∀ a : Nat, a < H.size → ¬ A a → H1[a]? = H[a]?) : vx_L C n d A U H1 := by
  obtain ⟨c, k, i, f, a, cell, h1, h2, h3, h4, h5, h6, h7, h8, h9, h10⟩ := h
  exact ⟨c, k, i, f, a, cell, h1, h2, h3, h4, by rw [hq a (Array.getElem?_eq_some_iff.mp h5).1 h10]; exact h5, h6, h7, h8, h9, h10⟩
theorem vx_L.narrow {C n d : String} {A B : Nat → Prop} {U : State} {H : Heap} (h : vx_L C n d A U H) (hAB : ∀ q, B q → A q) : vx_L C n d B U H := by
  obtain ⟨c, k, i, f, a, cell, h1, h2, h3, h4, h5, h6, h7, h8, h9, h10⟩ := h
  exact ⟨c, k, i, f, a, cell, h1, h2, h3, h4, h5, h6, h7, h8, h9, fun z => h10 (hAB _ z)⟩
theorem vx_L.word {C n d : String} {A : Nat → Prop} {s : State} {args : Array Value} (h : vx_L C n d A s s.heap) : (Cond.laysStatic C n d).before args s = true := by
  obtain ⟨c, k, i, f, a, cell, h1, h2, h3, h4, h5, h6, h7, h8, h9, -⟩ := h
  show (Cond.laysStatic C n d).holds args s none s [] = true
  exact Cond.laysStatic_of h1 h2 h3 h4 h5 h6 h7 h8 h9
/-- .. and what it holds: null or some reference -/
def vx_Zq (C n d : String) (A : Nat → Prop) (U : State) (H : Heap) : Prop := va_Zq C n d A U H ∧ vx_L C n d A U H
theorem vx_Zq.moved {C n d : String} {A : Nat → Prop} {u U : State} {H : Heap} (hvm : u.vm.Alike U.vm) (h : vx_Zq C n d A u H) : vx_Zq C n d A U H := ⟨va_Zq.moved hvm h.1, vx_L.moved hvm h.2⟩
theorem vx_Zq.kept {C n d : String} {A : Nat → Prop} {U : State} {H H1 : Heap} (h : vx_Zq C n d A U H) (hq : ∀ a : Nat, a < H.size → ¬ A a → H1[a]? = H[a]?) : vx_Zq C n d A U H1 := ⟨va_Zq.kept h.1 hq, vx_L.kept h.2 hq⟩
theorem vx_Zq.narrow {C n d : String} {A B : Nat → Prop} {U : State} {H : Heap} (h : vx_Zq C n d A U H) (hAB : ∀ q, B q → A q) : vx_Zq C n d B U H := ⟨va_Zq.narrow h.1 hAB, vx_L.narrow h.2 hAB⟩
theorem vx_Zqof {args : Array Value} {s : State} {C n d : String} {A : Nat → Prop} (hl : (Cond.laysStatic C n d).before args s = true) (hini : (Cond.initialized C).before args s = true) (h : (Cond.isRef (.static C n d)).before args s = true) (hA : ∀ a : Nat, a < s.heap.size → ¬ A a) : vx_Zq C n d A s s.heap := by
  refine ⟨va_Zqof hl hini h hA, ?_⟩
  obtain ⟨c, k, i, f, a, cell, h1, h2, h3, h4, h5, h6, h7, h8, h9⟩ := Cond.laysStatic_spec hl
  exact ⟨c, k, i, f, a, cell, h1, h2, h3, h4, h5, h6, h7, h8, h9, hA a (Array.getElem?_eq_some_iff.mp h5).1⟩
theorem vx_isRef {C n d : String} {v : Value} {A : Nat → Prop} {s : State} {args : Array Value} (h : va_Z C n d v A s s.heap) (hv : v.isRef = true) : (Cond.isRef (.static C n d)).before args s = true := by
  obtain ⟨cf, kf, fi, f, a, cell, h1, h2, h3, h4, h5, h6, h7, -⟩ := h
  have he : (Term.static C n d).eval args s none [] s = some v := by
    simp [Term.eval, State.fieldNamed?, h1, h2, h4, h5, h6, h7]
  simp only [Cond.before, Cond.holds, Cond.value, he]
  cases v <;> simp_all [Value.isRef]
theorem vx_isRefq {C n d : String} {A : Nat → Prop} {s : State} {args : Array Value} (h : va_Zq C n d A s s.heap) : (Cond.isRef (.static C n d)).before args s = true := by
  rcases h with h | ⟨t, h⟩
  · exact vx_isRef h rfl
  · exact vx_isRef h rfl
/-- the same frame, seen from here: as if the method were called anew in this heap -/
theorem vx_rebase {T : State} (X : Stand p l e R s m args below meth c T locs cells slots) {R' : Room} (hf : R'.frames ≤ R.frames) (hl : R'.locals ≤ R.locals) (hc : cells + R'.cells ≤ R.cells) (hs : slots + R'.slots ≤ R.slots) :
    Stand p l e R' ((T.setVm s.vm).setFrames (.invoking m args :: below)) m args below meth c T [] 0 0 := by
  have htop : (T.setVm s.vm).topJava?.isSome := X.here.top
  have hF : ((T.setVm s.vm).setFrames (.invoking m args :: below)).frames = .invoking m args :: below := State.frames_setFrames _ (State.cur_lt_of_top htop)
  obtain ⟨g₀, hg0⟩ := Option.isSome_iff_exists.mp htop
  obtain ⟨r, hr⟩ := State.topJava?_eq_some.mp hg0
  have hl9 : e.platform.stackLimits (T.setVm s.vm).me = e.platform.stackLimits s.me := X.limits
  have hb9 : (T.setVm s.vm).me.stackBytes = s.me.stackBytes := X.bytes
  refine ⟨X.admits, X.cas, X.clock, hF, ?_, X.hears, X.method, X.code, X.here, X.tail, X.warmed, ?_, ?_, ?_⟩
  · have h := X.room
    have hU : ((T.setVm s.vm).setFrames (.invoking m args :: below)).localsInUse = s.localsInUse := by
      rw [State.localsInUse_invoking hF (meth := meth) (c := c) X.method X.code, State.localsInUse_invoking X.frames X.method X.code]
    simp only [State.hasRoom, Bool.and_eq_true, decide_eq_true_eq] at h ⊢
    obtain ⟨⟨⟨⟨h1, h2, h3, h4, h5, h6⟩, h7⟩, h8⟩, h9⟩ := h
    rw [X.frames, List.length_cons] at h2 h3
    have q1 := X.heapSize
    have q2 := X.used
    simp only [hF, hU, List.length_cons, State.stackLimits_setFrames, State.stackBytes_setFrames, hl9, hb9]
    refine ⟨⟨⟨⟨by omega, by omega, by omega, by omega, by omega, h6⟩, ?_⟩, ?_⟩, X.book⟩
    · show T.heap.size + R'.cells ≤ e.platform.maxCells
      omega
    · show T.slotsUsed + R'.slots ≤ e.platform.maxSlots
      omega
  · rw [State.stackLimits_setFrames]; rfl
  · rw [State.stackBytes_setFrames]; rfl
  · refine ⟨?_, Nat.le_refl _, Nat.le_refl _, ?_, ?_, fun a c9 h9 => ⟨c9, h9, rfl, rfl, fun _ _ => rfl⟩⟩
    · obtain ⟨t, ht, -⟩ := State.frames_cons hr
      show T.setVm s.vm = { ((T.setVm s.vm).setFrames (.invoking m args :: below)).setFrames (T.setVm s.vm).frames with heap := T.heap, slotsUsed := T.slotsUsed }
      rw [State.setFrames_setFrames, State.setFrames_self ht]
      rfl
    · show T.slotsUsed = T.slotsUsed + ((T.heap.toList.drop T.heap.size).map (·.slots.size)).sum
      rw [List.drop_eq_nil_of_le (Nat.le_of_eq Array.length_toList)]
      rfl
    · show ((T.heap.toList.drop T.heap.size).map (·.slots.size)).sum ≤ 0
      rw [List.drop_eq_nil_of_le (Nat.le_of_eq Array.length_toList)]
      exact Nat.le_refl _
/-- 'throw new E()': new; dup; invokespecial; athrow -/
theorem vx_throw0 {cc : ByteArray} {pc : Nat} (hexec : p.tables.exec = Jvm.exec) (hb : c.code = cc) (hl : l.stackTraces = false) {own cls : String} {names : List String} {ik ic mc ms : Nat} {A : Nat → Prop}
    (hown : s.vm.findClass own = some m.cls) (hcls : Bundle.fit cls = true) (hnames : ∀ n ∈ names, Bundle.fit n = true)
    (hk : (Cond.classLink own ik cls).before args s = true) (hini : (Cond.initialized cls).before args s = true) (hat : ∀ w ∈ vx_at0 own ic cls names, w.before args s = true)
    (hgood : ∀ w ∈ Cond.classLink own ik cls :: Cond.initialized cls :: vx_at0 own ic cls names, vx_ot w = true)
    (hU : vx_Zq Bundle.tN "UNASSIGNED_STACK" Bundle.steD A s s.heap) (hN : vx_Zq Bundle.tN "SUPPRESSED_SENTINEL" Bundle.listD A s s.heap) (hS : va_S A s.heap H locs) (hsize : ls.size = c.maxLocals)
    (d0 : decode cc pc = .ok (.new ik, 3)) (d3 : decode cc (pc + 3) = .ok (.dup, 1)) (d4 : decode cc (pc + 4) = .ok (.invokespecial ic, 3)) (d7 : decode cc (pc + 7) = .ok (.athrow, 1))
    (hout : ∀ x ∈ c.exceptionTable.toList, covers x (pc + 7) = false)
    (hRframes : names.length + 3 < R.frames) (hRlocals : (rest.map fun v => v.category).sum + (13 * (names.length + 1) + 42) ≤ R.locals) (hRcells : cells + 1 ≤ R.cells) (hRslots : slots + 6 ≤ R.slots) (hlocks : meth.locks = false)
    (hx : ∀ t : State, s.vm.Alike t.vm → H.size ≤ t.heap.size → (∀ q : Nat, q < H.size → t.heap[q]? = H[q]?) → XC cls s t)
    (hf : ∀ z ∈ locs, free z.base) (hc : cells + 1 ≤ mc) (hs : slots + 6 ≤ ms) :
    W p l e R s m args below meth c H locs cells slots (vx_MQ below Qc XC args s mc ms free) (F0 m pc ls rest) := by
  intro T hT X
  have htr : e.platform.stackTraces = false := (show e.platform.stackTraces = l.stackTraces by rw [X.admits.platform]).trans hl
  have Y := vx_rebase X (R' := { frames := R.frames, locals := R.locals, cells := 1, slots := 6 }) (Nat.le_refl _) (Nat.le_refl _) hRcells hRslots
  obtain ⟨s', hA⟩ : ∃ z, z = (T.setVm s.vm).setFrames (.invoking m args :: below) := ⟨_, rfl⟩
  rw [← hA] at Y
  have hvm : s'.vm = s.vm := by rw [hA]; rfl
  have hhp : s'.heap = H := by rw [hA]; exact hT
  have hW0 : s.WarmedH s'.vm := by rw [hvm]; exact State.WarmedH.refl s
  have hat' : ∀ w ∈ vx_at0 own ic cls names, w.before args s' = true := fun w hw => vx_ot_at hW0 hvm.symm (hgood w (List.mem_cons_of_mem _ (List.mem_cons_of_mem _ hw))) (hat w hw)
  have hk' : (Cond.classLink own ik cls).before args s' = true := vx_ot_at hW0 hvm.symm (hgood _ List.mem_cons_self) hk
  have hini' : (Cond.initialized cls).before args s' = true := vx_ot_at hW0 hvm.symm (hgood _ (List.mem_cons_of_mem _ List.mem_cons_self)) hini
  have hU' : vx_Zq Bundle.tN "UNASSIGNED_STACK" Bundle.steD A s' s'.heap := by rw [hhp]; exact vx_Zq.moved hW0.alike (hU.kept hS.2.1)
  have hN' : vx_Zq Bundle.tN "SUPPRESSED_SENTINEL" Bundle.listD A s' s'.heap := by rw [hhp]; exact vx_Zq.moved hW0.alike (hN.kept hS.2.1)
  have h : ∀ w ∈ Bundle.ownAtoms0 own ic cls names, w.before args s' = true := vx_own hat' (vx_isRefq hU'.1) (vx_isRefq hN'.1) hU'.2.word hN'.2.word
  have hown' : s'.vm.findClass own = some m.cls := by rw [hvm]; exact hown
  have hins : (Cond.instantiable cls 6).before args s' = true := h _ (by simp [Bundle.ownAtoms0])
  obtain ⟨vm₁, cX, kX, hfX, hkX, -, -, X₁, st1⟩ := Y.newCold hexec (own := own) (C := cls) (index := ik) (n := 6) hown' hk' hins hini'
    (g := F0 m pc ls rest) rfl (by rw [hb]; exact d0) (Nat.le_refl _) (Nat.le_refl _)
  generalize hT1 : (T.setVm vm₁).pushCell { cls := cX, slots := kX.instanceTypes.map defaultValue, vm := .none } = T1 at X₁ st1
  have hcat : (Value.ref T.heap.size).category = 1 := rfl
  have hcellA : T1.heap[T.heap.size]? = some (freshCell cX kX) := by rw [← hT1]; exact State.heap_pushCell_size _ _
  have d3' : decode c.code (pc + 3) = .ok (.dup, 1) := by rw [hb]; exact d3
  obtain ⟨U, hsteps, hrun, hend, hW, hsame, ce, hce, hO⟩ := X₁.ctorThrow0 hexec htr (own := own) (cls := cls) (names := names) (ic := ic) hown' hcls hnames h (fun x hx => nomatch hx) hfX hkX hcellA (by rw [hhp, hT]; exact Nat.le_refl _)
    (g := { method := m, pc := pc + 4, locals := ls, stack := .ref T.heap.size :: .ref T.heap.size :: rest, locked := none }) rfl hsize rfl rfl (rest := rest) rfl
    (by rw [hb]; exact d4) (by rw [hb]; exact d7) hout hRframes (by simp only [List.map_cons, List.sum_cons, hcat]; omega) hlocks
  obtain ⟨f1, f2⟩ := vx_frame hsame
  rw [hhp] at f1 f2
  have hWs : s.WarmedH U.vm := State.WarmedH.trans hW0 hW
  have hcl : s.vm.findClass cls = some ce.cls := by
    have h9 := hO.cls
    rw [hvm] at h9
    exact h9
  have hall : s.sameButNew ({ U with vm := s.vm } : State) locs mc ms := by
    subst hA
    obtain ⟨e1, e2⟩ := hsame
    rw [State.setFrames_setFrames] at e1
    have h2 : (T.setVm s.vm).sameButNew ({ U with vm := s.vm } : State) [] (0 + 1) (0 + 6) := ⟨e1, e2⟩
    have h3 := X.same.trans h2
    rw [List.append_nil] at h3
    exact h3.mono hc hs
  refine ⟨U, ?_, .threw T.heap.size, hrun, hend, Or.inr ⟨T.heap.size, rfl, cls, ce, locs, hx U hWs.alike f1 (fun q hq => f2 q hq (fun z hz => nomatch hz)), hce, hO.vm, hcl, hWs, hall, hf⟩⟩
  refine st1 _ ?_
  show Steps p.tables e below (T1.setTop { method := m, pc := pc + 3, locals := ls, stack := .ref T.heap.size :: rest, locked := none }) _
  jvm_step X₁.here [X₁.here.top, hexec, d3', Value.category]
  exact hsteps
/-- 'throw new E("text")': new; dup; ldc; invokespecial; athrow -/
theorem vx_throwS {cc : ByteArray} {pc : Nat} (hexec : p.tables.exec = Jvm.exec) (hb : c.code = cc) (hl : l.stackTraces = false) {own cls text : String} {names : List String} {ik is ic mc ms sa : Nat} {A : Nat → Prop}
    (hown : s.vm.findClass own = some m.cls) (hcls : Bundle.fit cls = true) (hnames : ∀ n ∈ names, Bundle.fit n = true)
    (hk : (Cond.classLink own ik cls).before args s = true) (hini : (Cond.initialized cls).before args s = true) (hstr : vk_R own is text sa s) (hat : ∀ w ∈ vx_atS own ic cls names, w.before args s = true)
    (hgood : ∀ w ∈ Cond.classLink own ik cls :: Cond.initialized cls :: vx_atS own ic cls names, vx_ot w = true)
    (hU : vx_Zq Bundle.tN "UNASSIGNED_STACK" Bundle.steD A s s.heap) (hN : vx_Zq Bundle.tN "SUPPRESSED_SENTINEL" Bundle.listD A s s.heap) (hS : va_S A s.heap H locs) (hsize : ls.size = c.maxLocals)
    (d0 : decode cc pc = .ok (.new ik, 3)) (d3 : decode cc (pc + 3) = .ok (.dup, 1)) (d4 : decode cc (pc + 4) = .ok (.ldc is, 2)) (d6 : decode cc (pc + 6) = .ok (.invokespecial ic, 3)) (d9 : decode cc (pc + 9) = .ok (.athrow, 1))
    (hout : ∀ x ∈ c.exceptionTable.toList, covers x (pc + 9) = false)
    (hRframes : names.length + 3 < R.frames) (hRlocals : (rest.map fun v => v.category).sum + (13 * (names.length + 1) + 43) ≤ R.locals) (hRcells : cells + 1 ≤ R.cells) (hRslots : slots + 6 ≤ R.slots) (hlocks : meth.locks = false)
    (hx : ∀ t : State, s.vm.Alike t.vm → H.size ≤ t.heap.size → (∀ q : Nat, q < H.size → t.heap[q]? = H[q]?) → XC cls s t)
    (hf : ∀ z ∈ locs, free z.base) (hc : cells + 1 ≤ mc) (hs : slots + 6 ≤ ms) :
    W p l e R s m args below meth c H locs cells slots (vx_MQ below Qc XC args s mc ms free) (F0 m pc ls rest) := by
  intro T hT X
  have htr : e.platform.stackTraces = false := (show e.platform.stackTraces = l.stackTraces by rw [X.admits.platform]).trans hl
  have Y := vx_rebase X (R' := { frames := R.frames, locals := R.locals, cells := 1, slots := 6 }) (Nat.le_refl _) (Nat.le_refl _) hRcells hRslots
  obtain ⟨s', hA⟩ : ∃ z, z = (T.setVm s.vm).setFrames (.invoking m args :: below) := ⟨_, rfl⟩
  rw [← hA] at Y
  have hvm : s'.vm = s.vm := by rw [hA]; rfl
  have hhp : s'.heap = H := by rw [hA]; exact hT
  have hW0 : s.WarmedH s'.vm := by rw [hvm]; exact State.WarmedH.refl s
  have hat' : ∀ w ∈ vx_atS own ic cls names, w.before args s' = true := fun w hw => vx_ot_at hW0 hvm.symm (hgood w (List.mem_cons_of_mem _ (List.mem_cons_of_mem _ hw))) (hat w hw)
  have hk' : (Cond.classLink own ik cls).before args s' = true := vx_ot_at hW0 hvm.symm (hgood _ List.mem_cons_self) hk
  have hini' : (Cond.initialized cls).before args s' = true := vx_ot_at hW0 hvm.symm (hgood _ (List.mem_cons_of_mem _ List.mem_cons_self)) hini
  have hU' : vx_Zq Bundle.tN "UNASSIGNED_STACK" Bundle.steD A s' s'.heap := by rw [hhp]; exact vx_Zq.moved hW0.alike (hU.kept hS.2.1)
  have hN' : vx_Zq Bundle.tN "SUPPRESSED_SENTINEL" Bundle.listD A s' s'.heap := by rw [hhp]; exact vx_Zq.moved hW0.alike (hN.kept hS.2.1)
  have h : ∀ w ∈ Bundle.ownAtoms own ic cls names, w.before args s' = true := vx_own hat' (vx_isRefq hU'.1) (vx_isRefq hN'.1) hU'.2.word hN'.2.word
  have hown' : s'.vm.findClass own = some m.cls := by rw [hvm]; exact hown
  have hins : (Cond.instantiable cls 6).before args s' = true := h _ (by simp [Bundle.ownAtoms])
  obtain ⟨vm₁, cX, kX, hfX, hkX, -, -, X₁, st1⟩ := Y.newCold hexec (own := own) (C := cls) (index := ik) (n := 6) hown' hk' hins hini'
    (g := F0 m pc ls rest) rfl (by rw [hb]; exact d0) (Nat.le_refl _) (Nat.le_refl _)
  generalize hT1 : (T.setVm vm₁).pushCell { cls := cX, slots := kX.instanceTypes.map defaultValue, vm := .none } = T1 at X₁ st1
  have hcat : (Value.ref T.heap.size).category = 1 := rfl
  have hcellA : T1.heap[T.heap.size]? = some (freshCell cX kX) := by rw [← hT1]; exact State.heap_pushCell_size _ _
  have d3' : decode c.code (pc + 3) = .ok (.dup, 1) := by rw [hb]; exact d3
  have d4' : decode c.code (pc + 4) = .ok (.ldc is, 2) := by rw [hb]; exact d4
  have hstr' : vk_R own is text sa s' := vk_R.warm hW0 hstr
  obtain ⟨U, hsteps, hrun, hend, hW, hsame, ce, hce, hO⟩ := X₁.ctorThrowS hexec htr (own := own) (cls := cls) (names := names) (ic := ic) hown' hcls hnames h (fun x hx => nomatch hx) hfX hkX hcellA (by rw [hhp, hT]; exact Nat.le_refl _) (msg := .ref sa) rfl
    (g := { method := m, pc := pc + 6, locals := ls, stack := .ref sa :: .ref T.heap.size :: .ref T.heap.size :: rest, locked := none }) rfl hsize rfl rfl (rest := rest) rfl
    (by rw [hb]; exact d6) (by rw [hb]; exact d9) hout hRframes (by simp only [List.map_cons, List.sum_cons, hcat]; omega) hlocks
  obtain ⟨f1, f2⟩ := vx_frame hsame
  rw [hhp] at f1 f2
  have hWs : s.WarmedH U.vm := State.WarmedH.trans hW0 hW
  have hcl : s.vm.findClass cls = some ce.cls := by
    have h9 := hO.cls
    rw [hvm] at h9
    exact h9
  have hall : s.sameButNew ({ U with vm := s.vm } : State) locs mc ms := by
    subst hA
    obtain ⟨e1, e2⟩ := hsame
    rw [State.setFrames_setFrames] at e1
    have h2 : (T.setVm s.vm).sameButNew ({ U with vm := s.vm } : State) [] (0 + 1) (0 + 6) := ⟨e1, e2⟩
    have h3 := X.same.trans h2
    rw [List.append_nil] at h3
    exact h3.mono hc hs
  refine ⟨U, ?_, .threw T.heap.size, hrun, hend, Or.inr ⟨T.heap.size, rfl, cls, ce, locs, hx U hWs.alike f1 (fun q hq => f2 q hq (fun z hz => nomatch hz)), hce, hO.vm, hcl, hWs, hall, hf⟩⟩
  refine st1 _ ?_
  show Steps p.tables e below (T1.setTop { method := m, pc := pc + 3, locals := ls, stack := .ref T.heap.size :: rest, locked := none }) _
  jvm_step X₁.here [X₁.here.top, hexec, d3', Value.category]
  exact X₁.ldcString hexec (own := own) (text := text) (index := is) (a := sa) hown' hstr'.1 hstr'.2
    (g := { method := m, pc := pc + 4, locals := ls, stack := .ref T.heap.size :: .ref T.heap.size :: rest, locked := none }) rfl d4' _ hsteps
/-- 'throw new E("text")', the text by a wide index -/
theorem vx_throwSW {cc : ByteArray} {pc : Nat} (hexec : p.tables.exec = Jvm.exec) (hb : c.code = cc) (hl : l.stackTraces = false) {own cls text : String} {names : List String} {ik is ic mc ms sa : Nat} {A : Nat → Prop}
    (hown : s.vm.findClass own = some m.cls) (hcls : Bundle.fit cls = true) (hnames : ∀ n ∈ names, Bundle.fit n = true)
    (hk : (Cond.classLink own ik cls).before args s = true) (hini : (Cond.initialized cls).before args s = true) (hstr : vk_R own is text sa s) (hat : ∀ w ∈ vx_atS own ic cls names, w.before args s = true)
    (hgood : ∀ w ∈ Cond.classLink own ik cls :: Cond.initialized cls :: vx_atS own ic cls names, vx_ot w = true)
    (hU : vx_Zq Bundle.tN "UNASSIGNED_STACK" Bundle.steD A s s.heap) (hN : vx_Zq Bundle.tN "SUPPRESSED_SENTINEL" Bundle.listD A s s.heap) (hS : va_S A s.heap H locs) (hsize : ls.size = c.maxLocals)
    (d0 : decode cc pc = .ok (.new ik, 3)) (d3 : decode cc (pc + 3) = .ok (.dup, 1)) (d4 : decode cc (pc + 4) = .ok (.ldc_w is, 3)) (d7 : decode cc (pc + 7) = .ok (.invokespecial ic, 3)) (d10 : decode cc (pc + 10) = .ok (.athrow, 1))
    (hout : ∀ x ∈ c.exceptionTable.toList, covers x (pc + 10) = false)
    (hRframes : names.length + 3 < R.frames) (hRlocals : (rest.map fun v => v.category).sum + (13 * (names.length + 1) + 43) ≤ R.locals) (hRcells : cells + 1 ≤ R.cells) (hRslots : slots + 6 ≤ R.slots) (hlocks : meth.locks = false)
    (hx : ∀ t : State, s.vm.Alike t.vm → H.size ≤ t.heap.size → (∀ q : Nat, q < H.size → t.heap[q]? = H[q]?) → XC cls s t)
    (hf : ∀ z ∈ locs, free z.base) (hc : cells + 1 ≤ mc) (hs : slots + 6 ≤ ms) :
    W p l e R s m args below meth c H locs cells slots (vx_MQ below Qc XC args s mc ms free) (F0 m pc ls rest) := by
  intro T hT X
  have htr : e.platform.stackTraces = false := (show e.platform.stackTraces = l.stackTraces by rw [X.admits.platform]).trans hl
  have Y := vx_rebase X (R' := { frames := R.frames, locals := R.locals, cells := 1, slots := 6 }) (Nat.le_refl _) (Nat.le_refl _) hRcells hRslots
  obtain ⟨s', hA⟩ : ∃ z, z = (T.setVm s.vm).setFrames (.invoking m args :: below) := ⟨_, rfl⟩
  rw [← hA] at Y
  have hvm : s'.vm = s.vm := by rw [hA]; rfl
  have hhp : s'.heap = H := by rw [hA]; exact hT
  have hW0 : s.WarmedH s'.vm := by rw [hvm]; exact State.WarmedH.refl s
  have hat' : ∀ w ∈ vx_atS own ic cls names, w.before args s' = true := fun w hw => vx_ot_at hW0 hvm.symm (hgood w (List.mem_cons_of_mem _ (List.mem_cons_of_mem _ hw))) (hat w hw)
  have hk' : (Cond.classLink own ik cls).before args s' = true := vx_ot_at hW0 hvm.symm (hgood _ List.mem_cons_self) hk
  have hini' : (Cond.initialized cls).before args s' = true := vx_ot_at hW0 hvm.symm (hgood _ (List.mem_cons_of_mem _ List.mem_cons_self)) hini
  have hU' : vx_Zq Bundle.tN "UNASSIGNED_STACK" Bundle.steD A s' s'.heap := by rw [hhp]; exact vx_Zq.moved hW0.alike (hU.kept hS.2.1)
  have hN' : vx_Zq Bundle.tN "SUPPRESSED_SENTINEL" Bundle.listD A s' s'.heap := by rw [hhp]; exact vx_Zq.moved hW0.alike (hN.kept hS.2.1)
  have h : ∀ w ∈ Bundle.ownAtoms own ic cls names, w.before args s' = true := vx_own hat' (vx_isRefq hU'.1) (vx_isRefq hN'.1) hU'.2.word hN'.2.word
  have hown' : s'.vm.findClass own = some m.cls := by rw [hvm]; exact hown
  have hins : (Cond.instantiable cls 6).before args s' = true := h _ (by simp [Bundle.ownAtoms])
  obtain ⟨vm₁, cX, kX, hfX, hkX, -, -, X₁, st1⟩ := Y.newCold hexec (own := own) (C := cls) (index := ik) (n := 6) hown' hk' hins hini'
    (g := F0 m pc ls rest) rfl (by rw [hb]; exact d0) (Nat.le_refl _) (Nat.le_refl _)
  generalize hT1 : (T.setVm vm₁).pushCell { cls := cX, slots := kX.instanceTypes.map defaultValue, vm := .none } = T1 at X₁ st1
  have hcat : (Value.ref T.heap.size).category = 1 := rfl
  have hcellA : T1.heap[T.heap.size]? = some (freshCell cX kX) := by rw [← hT1]; exact State.heap_pushCell_size _ _
  have d3' : decode c.code (pc + 3) = .ok (.dup, 1) := by rw [hb]; exact d3
  have d4' : decode c.code (pc + 4) = .ok (.ldc_w is, 3) := by rw [hb]; exact d4
  have hstr' : vk_R own is text sa s' := vk_R.warm hW0 hstr
  obtain ⟨U, hsteps, hrun, hend, hW, hsame, ce, hce, hO⟩ := X₁.ctorThrowS hexec htr (own := own) (cls := cls) (names := names) (ic := ic) hown' hcls hnames h (fun x hx => nomatch hx) hfX hkX hcellA (by rw [hhp, hT]; exact Nat.le_refl _) (msg := .ref sa) rfl
    (g := { method := m, pc := pc + 7, locals := ls, stack := .ref sa :: .ref T.heap.size :: .ref T.heap.size :: rest, locked := none }) rfl hsize rfl rfl (rest := rest) rfl
    (by rw [hb]; exact d7) (by rw [hb]; exact d10) hout hRframes (by simp only [List.map_cons, List.sum_cons, hcat]; omega) hlocks
  obtain ⟨f1, f2⟩ := vx_frame hsame
  rw [hhp] at f1 f2
  have hWs : s.WarmedH U.vm := State.WarmedH.trans hW0 hW
  have hcl : s.vm.findClass cls = some ce.cls := by
    have h9 := hO.cls
    rw [hvm] at h9
    exact h9
  have hall : s.sameButNew ({ U with vm := s.vm } : State) locs mc ms := by
    subst hA
    obtain ⟨e1, e2⟩ := hsame
    rw [State.setFrames_setFrames] at e1
    have h2 : (T.setVm s.vm).sameButNew ({ U with vm := s.vm } : State) [] (0 + 1) (0 + 6) := ⟨e1, e2⟩
    have h3 := X.same.trans h2
    rw [List.append_nil] at h3
    exact h3.mono hc hs
  refine ⟨U, ?_, .threw T.heap.size, hrun, hend, Or.inr ⟨T.heap.size, rfl, cls, ce, locs, hx U hWs.alike f1 (fun q hq => f2 q hq (fun z hz => nomatch hz)), hce, hO.vm, hcl, hWs, hall, hf⟩⟩
  refine st1 _ ?_
  show Steps p.tables e below (T1.setTop { method := m, pc := pc + 3, locals := ls, stack := .ref T.heap.size :: rest, locked := none }) _
  jvm_step X₁.here [X₁.here.top, hexec, d3', Value.category]
  exact X₁.ldcStringW hexec (own := own) (text := text) (index := is) (a := sa) hown' hstr'.1 hstr'.2
    (g := { method := m, pc := pc + 4, locals := ls, stack := .ref T.heap.size :: .ref T.heap.size :: rest, locked := none }) rfl d4' _ hsteps
end Ends
section Bodies
variable {l : Launch}
theorem vx_ofW {y : MethodName} {ws ws' : List Cond} {rm : Room} {Pc : Array Value → State → Prop} {Qc : Array Value → State → Outcome → State → Prop} {XC : String → State → State → Prop} {mc ms : Nat} {free : Addr → Prop} {cc : ByteArray} {maxL : Nat} {ret : Option FieldType}
    (hy : plainName y.cls = true) (hw : ws = Cond.code y cc maxL ret :: ws')
    (body : ∀ p e s m args below meth c s₁, BodyLoose p l y (headSpec ws rm) cc maxL ret e s m args below meth c s₁ → c.maxLocals = maxL → (∀ x ∈ c.exceptionTable.toList, False) → Pc args s →
      W p l e (headSpec ws rm).room s m args below meth c s.heap [] 0 0 (vx_MQ below Qc XC args s mc ms free) (entryFrame m args maxL)) : vx_Met l y ws rm Pc Qc XC mc ms free := by
  refine MetFree.of_bodyS (code := cc) (maxLocals := maxL) (ret := ret) hy ?_ ?_
  · intro args s m h hn
    obtain ⟨meth, c, h1, h2, h3, h4, h5, h6, -, -⟩ := Cond.code_spec hn (atoms_spec (ws := ws) h _ (by rw [hw]; exact List.mem_cons_self))
    exact ⟨meth, c, h1, h2, h3, h4, h5, h6⟩
  · intro p e s m args below meth c s₁ B hml hP _
    have hh0 : s₁.heap = s.heap := by rw [B.state]; rfl
    have ht : ∀ x ∈ c.exceptionTable.toList, False := by
      obtain ⟨meth9, c9, h1, h2, -, -, -, -, h7, -⟩ := Cond.code_spec B.named (atoms_spec (ws := ws) B.pre _ (by rw [hw]; exact List.mem_cons_self))
      cases Option.some.inj (h1.symm.trans B.method)
      cases Option.some.inj (h2.symm.trans (Stand.of_body B).code)
      intro x hx
      rw [Array.isEmpty_iff.mp h7] at hx
      cases hx
    obtain ⟨t, a1, o, b1, b2, b3⟩ := body p e s m args below meth c s₁ B hml ht hP s₁ hh0 (Stand.of_body B)
    exact ⟨t, o, a1, b1, b2, b3⟩
/-- the table of a body with handlers -/
theorem vx_table {p : Program} {x y : MethodName} {S : Spec} {cc bytes : ByteArray} {maxL maxL' : Nat} {ret ret' : Option FieldType} {e : Env} {s s₁ : State} {m : MethodId} {args : Array Value} {below : List Frame} {meth : Method} {c : Code} {hh : List (Nat × Nat × Nat × Nat)}
    (B : BodyLoose p l y S cc maxL ret e s m args below meth c s₁) (h : (Cond.codeWith y bytes maxL' ret' hh).before args s = true) : c.exceptionTable.toList = tableOf hh := by
  obtain ⟨m9, meth9, c9, hn9, h1, h2, -, -, h6, -⟩ := Cond.codeWith_spec h
  cases Option.some.inj (hn9.symm.trans B.named)
  cases Option.some.inj (h1.symm.trans B.method)
  cases Option.some.inj (h2.symm.trans (Stand.of_body B).code)
  rw [← h6, table_eq]
end Bodies
end VXA
/-! ===== END ===== -/
/-! ===== BEGIN a static call of a method with an exception table ===== -/
section VXS
variable {p : Program} {l : Launch} {e : Env} {R : Room} {s : State} {m : MethodId} {args : Array Value} {below : List Frame} {meth : Method} {c : Code} {T : State} {H : Heap} {locs : List Loc} {cells slots : Nat}
abbrev vx_CSW (R : Room) (s : State) (args : Array Value) (own : String) (index : Nat) (y : MethodName) (bytes : ByteArray) (maxL : Nat) (ret : Option FieldType) (hh : List (Nat × Nat × Nat × Nat)) (ws : List Cond) (rm : Room) (mc ms n : Nat) : Prop :=
  (rm.cells = mc ∧ rm.slots = ms ∧ rm.frames + 1 ≤ R.frames ∧ 8 + (maxL + 11) + rm.locals ≤ R.locals ∧ (∀ w ∈ ws, ∀ (a' : Array Value) (U : State), s.WarmedH U.vm → w.before a' U = true) ∧ Cond.codeWith y bytes maxL ret hh ∈ ws) ∧
  (Cond.codeWith y bytes maxL ret hh).before args s = true ∧ (Cond.initialized y.cls).before args s = true ∧ (y.cls ≠ "java/lang/invoke/MethodHandle" ∧ y.cls ≠ "java/lang/invoke/VarHandle") ∧
  (∀ sig, parseMethodDescriptor y.desc = some sig → n = sig.parameters.length) ∧ (Cond.methodLink own index y).before args s = true ∧ (Cond.static y).before args s = true
theorem vx_cwSW {own : String} {index maxL mc ms : Nat} {y : MethodName} {bytes : ByteArray} {ret : Option FieldType} {hh : List (Nat × Nat × Nat × Nat)} {Ts ws ws' : List Cond} {rm : Room} (n : Nat) (ht : ∀ w ∈ Ts, w.before args s = true) (hT : GoodIn Ts (va_wsS own index y ws)) (hw : ws = Cond.codeWith y bytes maxL ret hh :: ws') (hrc : rm.cells = mc) (hrs : rm.slots = ms)
    (hd : y.cls ≠ "java/lang/invoke/MethodHandle" ∧ y.cls ≠ "java/lang/invoke/VarHandle" ∧ (parseMethodDescriptor y.desc).map (fun d => d.parameters.length) = some n) (hR : rm.frames + 1 ≤ R.frames ∧ 8 + (maxL + 11) + rm.locals ≤ R.locals) :
    vx_CSW R s args own index y bytes maxL ret hh ws rm mc ms n := by
  have ok : ∀ w ∈ va_wsS own index y ws, w.before args s = true := fun w h => ht w (hT w h).1
  have hG : GoodIn Ts ws := fun w h => hT w (by unfold va_wsS; exact List.mem_append_right _ h)
  have hc : Cond.codeWith y bytes maxL ret hh ∈ ws := by rw [hw]; exact List.mem_cons_self
  refine ⟨⟨hrc, hrs, hR.1, hR.2, pay_in ht hG, hc⟩, ht _ (hG _ hc).1, ok _ (by simp [va_wsS]), ⟨hd.1, hd.2.1⟩, fun sig h => ?_, ok _ (by simp [va_wsS]), ok _ (by simp [va_wsS])⟩
  have h2 := hd.2.2
  rw [h] at h2
  exact (Option.some.inj h2).symm
theorem vx_callSW (X : Stand p l e R s m args below meth c T locs cells slots) (hexec : p.tables.exec = Jvm.exec) {own : String} {index : Nat} {y : MethodName} {bytes : ByteArray} {maxL : Nat} {ret : Option FieldType} {hh : List (Nat × Nat × Nat × Nat)}
    (hown : s.vm.findClass own = some m.cls) (hlink : (Cond.methodLink own index y).before args s = true) (hstat : (Cond.static y).before args s = true) (hinit : (Cond.initialized y.cls).before args s = true)
    (hcode : (Cond.codeWith y bytes maxL ret hh).before args s = true) (hy : y.cls ≠ "java/lang/invoke/MethodHandle" ∧ y.cls ≠ "java/lang/invoke/VarHandle")
    {W9 : Nat} {Pre : Pt → Array Value → Prop} {Post : Pt → Array Value → Option Value → Pt → Prop} (hK : Back l R p e below s args y 3 W9 Pre Post)
    {g : JFrame} (hg : g.method = m) (hsize : g.locals.size = c.maxLocals) {argsL rest : List Value} (hlen : ∀ sig, parseMethodDescriptor y.desc = some sig → argsL.length = sig.parameters.length)
    (hstack : g.stack = argsL.reverse ++ rest) (hW : 2 * g.monitorRoom + (rest.map fun v => v.category).sum ≤ W9) (hdg : decode c.code g.pc = .ok (.invokestatic index, 3))
    (hpre : ∀ vm₁, s.WarmedH vm₁ → Pre ⟨T.setVm vm₁, locs, cells, slots⟩ argsL.toArray) :
    ∃ (v : Option Value) (vm₁ : Vm) (B : Pt), s.WarmedH vm₁ ∧ Stand p l e R s m args below meth c B.U B.locs B.cells B.slots ∧ Post ⟨T.setVm vm₁, locs, cells, slots⟩ argsL.toArray v B ∧
      ∀ target, Steps p.tables e below (B.U.setTop { g with pc := g.pc + 3, stack := v.toList ++ rest }) target → Steps p.tables e below (T.setTop g) target := by
  obtain ⟨mk, methM, cM, hnamed, hmethM, -, -, -, -, -, -, hsigM⟩ := Cond.codeWith_spec hcode
  have hstatic : methM.isStatic = true := Cond.static_spec hnamed hmethM hstat
  obtain ⟨kP, hkP, -⟩ := className_of_methodNamed hnamed
  have hinitP : kP.init = .initialized := Cond.initialized_spec (findClass_of_methodNamed hnamed) hkP hinit
  obtain ⟨vm₁, X₁, hstep₁⟩ := X.invokestatic hexec hown hlink hnamed hmethM hstatic hkP hinitP hy (g := g) hg (argsL := argsL) (rest := rest) (hlen _ hsigM) hstack hdg
  obtain ⟨v, B, X', hpost, hsteps⟩ := hK m meth c ⟨T.setVm vm₁, locs, cells, slots⟩ { g with stack := rest } (.invokestatic index) mk argsL.toArray X₁ hg hsize hdg hW (X₁.named hnamed) (hpre vm₁ X₁.warmed)
  exact ⟨v, vm₁, B, X₁.warmed, X', hpost, fun target h => hstep₁ _ fun acts => by rw [doInvoke_state]; exact hsteps.trans h⟩
theorem vx_runSW {y : MethodName} {bytes cc : ByteArray} {maxL nL mc ms n index : Nat} {ret : Option FieldType} {hh : List (Nat × Nat × Nat × Nat)} {ws : List Cond} {rm : Room} {Pc : Array Value → State → Prop} {Qc : Array Value → State → Outcome → State → Prop} {free : Addr → Prop} {Ts : List Cond} {own : String} {As rest : List Value} {g : JFrame}
    (S : CallFix p m c cc nL s args Ts own) (hM : Met l y ws rm Pc Qc mc ms free) (cw : vx_CSW R s args own index y bytes maxL ret hh ws rm mc ms n) (hp : PreS s H Pc As)
    (hg : g.method = m) (hn : As.length = n) (hsize : g.locals.size = nL) (hstack : g.stack = As.reverse ++ rest) (hW : 2 * g.monitorRoom + (rest.map fun v => v.category).sum ≤ 8) (hdg : decode cc g.pc = .ok (.invokestatic index, 3)) (hf : cells + mc ≤ R.cells ∧ slots + ms ≤ R.slots) :
    va_Run p l e R s m args below meth c H locs cells slots mc ms g rest (Qc As.toArray) (free) := by
  obtain ⟨⟨hrc, hrs, hfr, hlo, hws, hcw⟩, hcode, hini, hy, hlen, hl, hstt⟩ := cw
  have hK : Back l R p e below s args y 3 8 (PreOf R mc ms Pc) (PostOf Qc mc ms free) := va_backW (hh := hh) (bytes := bytes) (maxL := maxL) (ret := ret) hM hp.1 hrc hrs hfr hlo hws hcw (fun a' U hW => word_at hW (Or.inl (by first | rfl | simp [Cond.onTables, Cond.keeps, Cond.steady])) hini)
  obtain ⟨hx, hb, hml, ho, -⟩ := S
  intro T hT X
  obtain ⟨v, vm₁, ⟨U', l2, c2, s2⟩, hW₁, X', ⟨g', mk, t, L, e1, e2, hq, h1, hL, h2, h3⟩, st⟩ := vx_callSW X hx (hh := hh) (bytes := bytes) (maxL := maxL) (ret := ret) ho hl hstt hini hcode hy hK hg (hsize.trans hml.symm) (argsL := As) (rest := rest) (fun sig h => hn.trans (hlen sig h)) hstack hW (by rw [hb]; exact hdg)
    (fun vm₁ hW₁ => ⟨hf.1, hf.2, hp.2 (T.setVm vm₁) hT hW₁⟩)
  dsimp only [Pt.U, Pt.locs, Pt.cells, Pt.slots] at X' e1 e2 h1 h2 h3 st
  subst h1; subst h2; subst h3
  exact ⟨v, (T.setVm vm₁).calling g' mk As.toArray, t, U', L, hT, X', hL, e1, e2, hq, st⟩
/-- not caught here, past rows that name other classes: it goes on to the caller -/
theorem vx_outP {p : Program} {l : Launch} {e : Env} {R : Room} {s : State} {m : MethodId} {args : Array Value} {below : List Frame} {meth : Method} {c : Code} {H : Heap} {locs : List Loc} {cells slots : Nat} {free : Addr → Prop} {ls : Array Slot} {rest : List Value} {Qc : Array Value → State → Outcome → State → Prop} {XC : String → State → State → Prop}
    {pc : Nat} {own E : String} {ce : Cell} {q : Addr} {mc ms : Nat} (hown : s.vm.findClass own = some m.cls) (hlocks : meth.locks = false)
    (hpass : ∀ z ∈ c.exceptionTable.toList, covers z pc = false ∨ (z.catchType ≠ 0 ∧ ∃ nm : String, (Cond.classLink own z.catchType nm).before args s = true ∧ va_Nc E nm s)) (hcell : H[q]? = some ce) (hv : ce.vm = .none) (hcl : s.vm.findClass E = some ce.cls)
    (hx : ∀ t : State, t.heap = H → s.vm.Alike t.vm → XC E s t) (hf : ∀ z ∈ locs, free z.base) (hc : cells ≤ mc) (hs : slots ≤ ms) :
    vx_W p l e R s m args below meth c H locs cells slots (vx_MQ below Qc XC args s mc ms free) (F0 m pc ls rest) q := by
  intro T hT X
  have hpl : e.platform.magicAccessors = ({} : Platform).magicAccessors := by rw [X.admits.platform]
  obtain ⟨vm', hW', X', st⟩ := X.outThrough hlocks q (g := F0 m pc ls rest) rfl rfl rfl (cell := ce) (by rw [hT]; exact hcell) (by rw [hv]; rfl)
    (by obtain ⟨k9, h9, -⟩ := Vm.findClass_spec hcl; exact ⟨k9, h9⟩) (fun z hz => by
      rcases hpass z hz with h | ⟨hz0, nm, hl1, hn1⟩
      · exact Or.inl h
      · obtain ⟨c6, hc6, hcl6⟩ := Cond.classLink_spec hown hl1 e.platform hpl
        obtain ⟨a8, b8, h1, h2, h3⟩ := hn1
        cases Option.some.inj (h1.symm.trans hcl)
        cases Option.some.inj (h2.symm.trans hc6)
        exact Or.inr ⟨hz0, _, hcl6, h3⟩)
  obtain ⟨g₀, hfr⟩ := X'.frames_eq
  have hcell9 : ((T.setVm vm').setFrames (.throwing q :: below)).heap[q]? = some ce := by
    show T.heap[q]? = some ce
    rw [hT]; exact hcell
  have hend : Ended ((T.setVm vm').setFrames (.throwing q :: below)) below (.threw q) := State.frames_setFrames _ (State.cur_lt_of_frames hfr)
  refine ⟨(T.setVm vm').setFrames (.throwing q :: below), ?_, .threw q, X'.here.running, hend, Or.inr ⟨q, rfl, E, ce, locs, hx _ hT (X'.ends _).1.alike, hcell9, hv, hcl, (X'.ends _).1, (X'.ends _).2.mono hc hs, hf⟩⟩
  rw [X.pushThrowing_eq]
  exact st
/-- a thing of a world lies in the heap -/
theorem vx_lt {D : va_G} {cl : List vw_C} {ws : va_W} {H1 : Heap} (h : va_P D cl ws H1) {k : Nat} {q : Nat × va_E} (hk : ws[k]? = some q) : q.1 < H1.size := (h k q hk).lt
end VXS
/-! ===== END ===== -/
/-! ===== BEGIN methods with a table of their own: called by a name, returning or throwing ===== -/
section VXH
/-! vx_backW, vx_callVX, vx_callSX, vx_callVW, vx_runVW, vx_runVX, vx_runSX, vx_ofWH follow the same proofs as their sisters above (Free/Laws.lean, Shelf42/LK1.lean); vx_outP calls Shelf42/NT130.lean (outThrough). -/
section
variable {l : Launch} {R : Room} {p : Program} {e : Env} {below : List Frame} {s : State} {sargs : Array Value} {y : MethodName} {len W9 : Nat}
theorem vx_backW {ws : List Cond} {rm : Room} {Pc : Array Value → State → Prop} {Qc : Array Value → State → Outcome → State → Prop} {XC : String → State → State → Prop} {mc ms : Nat} {free : Addr → Prop} {bytes : ByteArray} {maxL : Nat} {ret : Option FieldType} {hh : List (Nat × Nat × Nat × Nat)}
    (hM : vx_Met l y ws rm Pc Qc XC mc ms free) (hblind : FrameBlind Pc) (hrc : rm.cells = mc) (hrs : rm.slots = ms)
    (hframes : rm.frames + 1 ≤ R.frames) (hlocals : W9 + (maxL + 11) + rm.locals ≤ R.locals)
    (hws : ∀ w ∈ ws, ∀ a' U, s.WarmedH U.vm → w.before a' U = true) (hcode : Cond.codeWith y bytes maxL ret hh ∈ ws) (hinit : ∀ a' U, s.WarmedH U.vm → (Cond.initialized y.cls).before a' U = true) :
    vx_Back l R p e below s sargs y len W9 (PreOf R mc ms Pc) (PostOf Qc mc ms free) (vx_Post XC mc ms free) := by
  intro m meth c A g ig mk a X hg hsize hdg hW hn hp
  have h1 : (headSpec ws rm).pre.before a A.U = true := atoms_intro fun w hw => hws w hw _ _ X.warmed
  have h2 : (Cond.codeWith y bytes maxL ret hh).before a A.U = true := hws _ hcode _ _ X.warmed
  have h3 : (Cond.initialized y.cls).before a A.U = true := hinit _ _ X.warmed
  have h4 : A.cells + (headSpec ws rm).room.cells ≤ R.cells := by rw [show (headSpec ws rm).room.cells = mc from hrc]; exact hp.1
  have h5 : A.slots + (headSpec ws rm).room.slots ≤ R.slots := by rw [show (headSpec ws rm).room.slots = ms from hrs]; exact hp.2.1
  have hPc : Pc a (A.U.calling g mk a) := hblind _ _ _ _ hp.2.2
  obtain ⟨U, Ls, c0, s0⟩ := A
  dsimp only [Pt.U, Pt.locs, Pt.cells, Pt.slots] at h1 h2 h3 h4 h5 X hn hPc ⊢
  obtain ⟨m9, methY, cY, hn9, hmY, hcY, -, hlY, -⟩ := Cond.codeWith_spec h2
  cases Option.some.inj (hn9.symm.trans hn)
  obtain ⟨kY, hkY, -⟩ := className_of_methodNamed hn
  have hinitY : kY.init = .initialized := Cond.initialized_spec (findClass_of_methodNamed hn) hkY h3
  have h : At U g.method c below := by rw [hg]; exact X.here
  have hlocals9 : W9 + (maxL + 11) + (headSpec ws rm).room.locals ≤ R.locals := hlocals
  have happ : (headSpec ws rm).appliesLoose y e.platform (U.calling g mk a) = true :=
    Spec.appliesLoose_calling (g := g) h hdg hn hkY hinitY
      (X.room_calling (g := g) (R' := (headSpec ws rm).room) hsize hmY hcY hframes (by rw [hlY]; omega) h4 h5) h1
  obtain ⟨mid, hmid⟩ := h.above
  have hfr : (U.setTop g).frames = (.java g :: mid) ++ below := by rw [State.frames_setTop' g h.top, hmid]; rfl
  obtain ⟨o, s₂, hsteps, -, hend, hq⟩ := Steps.callFree hM p X.admits X.cas X.clock (acts := []) hfr happ hPc trivial
  have hq' : vx_Q Qc XC mc ms free a (U.calling g mk a) o s₂ := hq
  rw [State.frames_setTop' g h.top] at hend
  obtain ⟨g₀, hg0⟩ := Option.isSome_iff_exists.mp h.top
  obtain ⟨r, hr⟩ := State.topJava?_eq_some.mp hg0
  have hr' : (({ U with heap := s₂.heap, slotsUsed := s₂.slotsUsed } : State).setVm s₂.vm).frames = .java g₀ :: r := hr
  rcases hq' with ⟨hqc, L, hfe, hL⟩ | ⟨q, rfl, E, ce, L, hx, hce, hcv, hcl, hW₂, hsm, hL⟩
  · obtain ⟨⟨v, rfl⟩, hW₂, e2, q2, q3, q4, q5, q6⟩ := id hfe
    have e3 : s₂ = ({ (U.calling g mk a).setFrames s₂.frames with heap := s₂.heap, slotsUsed := s₂.slotsUsed } : State).setVm s₂.vm := by
      have : s₂ = ({ s₂ with vm := (U.calling g mk a).vm } : State).setVm s₂.vm := rfl
      rw [e2] at this
      exact this
    obtain ⟨c₂, i₂, len₂, hc₂, hd₂, hf₂⟩ := hend
    have hW' : U.WarmedH s₂.vm := hW₂
    have hcc : c₂ = c := by
      have h1 : s₂.code? g.method = U.code? g.method := by
        rw [State.code?_eq, State.code?_eq, hW'.alike.method?]
      exact Option.some.inj (hc₂.symm.trans (h1.trans h.code))
    subst hcc
    have hlen : len₂ = len := by rw [hdg] at hd₂; cases hd₂; rfl
    subst hlen
    have hs₂ : s₂ = (({ U with heap := s₂.heap, slotsUsed := s₂.slotsUsed } : State).setVm s₂.vm).setTop { g with pc := g.pc + len₂, stack := v.toList ++ g.stack } := by
      refine e3.trans ?_
      rw [hf₂, State.calling_eq h.top, State.setFrames_setFrames, State.setTop_of_frames _ hr', hr]
      rfl
    have hsame : U.sameButNew ({ U with heap := s₂.heap, slotsUsed := s₂.slotsUsed } : State) L mc ms := by
      refine ⟨?_, q2, q3, q4, q5, q6⟩
      obtain ⟨t, ht, -⟩ := State.frames_cons hr
      show ({ U with heap := s₂.heap, slotsUsed := s₂.slotsUsed } : State) = { U.setFrames U.frames with heap := s₂.heap, slotsUsed := s₂.slotsUsed }
      rw [State.setFrames_self ht]
    subst hg
    refine Or.inl ⟨v, ⟨(({ U with heap := s₂.heap, slotsUsed := s₂.slotsUsed } : State).setVm s₂.vm), Ls ++ L, c0 + mc, s0 + ms⟩,
      ⟨X.admits, X.cas, X.clock, X.frames, X.room, X.hears, X.method, X.code, (X.here.setHeapUsed s₂.heap s₂.slotsUsed).setVm hW'.alike, X.tail, State.WarmedH.trans X.warmed hW', X.limits, X.bytes, X.same.trans (hsame.setVm s.vm)⟩,
      ⟨g, mk, s₂, L, rfl, rfl, hqc, rfl, hL, rfl, rfl⟩, ?_⟩
    show Steps p.tables e below _ ((({ U with heap := s₂.heap, slotsUsed := s₂.slotsUsed } : State).setVm s₂.vm).setTop { g with pc := g.pc + len₂, stack := v.toList ++ g.stack })
    rw [← hs₂]
    exact hsteps
  · obtain ⟨e2, q2, q3, q4, q5, q6⟩ := id hsm
    have e3 : s₂ = ({ (U.calling g mk a).setFrames s₂.frames with heap := s₂.heap, slotsUsed := s₂.slotsUsed } : State).setVm s₂.vm := by
      have : s₂ = ({ s₂ with vm := (U.calling g mk a).vm } : State).setVm s₂.vm := rfl
      rw [e2] at this
      exact this
    have hf₂ : s₂.frames = .throwing q :: .java g :: U.frames.tail := hend
    have hW' : U.WarmedH s₂.vm := hW₂
    have hs₂ : s₂ = ((({ U with heap := s₂.heap, slotsUsed := s₂.slotsUsed } : State).setVm s₂.vm).setTop g).pushFrame (.throwing q) := by
      refine e3.trans ?_
      rw [hf₂, State.calling_eq h.top, State.setFrames_setFrames, State.pushFrame, State.frames_setTop _ hr', State.setTop_of_frames _ hr', State.setFrames_setFrames, hr]
      rfl
    have hsame : U.sameButNew ({ U with heap := s₂.heap, slotsUsed := s₂.slotsUsed } : State) L mc ms := by
      refine ⟨?_, q2, q3, q4, q5, q6⟩
      obtain ⟨t, ht, -⟩ := State.frames_cons hr
      show ({ U with heap := s₂.heap, slotsUsed := s₂.slotsUsed } : State) = { U.setFrames U.frames with heap := s₂.heap, slotsUsed := s₂.slotsUsed }
      rw [State.setFrames_self ht]
    subst hg
    refine Or.inr ⟨q, ⟨(({ U with heap := s₂.heap, slotsUsed := s₂.slotsUsed } : State).setVm s₂.vm), Ls ++ L, c0 + mc, s0 + ms⟩,
      ⟨X.admits, X.cas, X.clock, X.frames, X.room, X.hears, X.method, X.code, (X.here.setHeapUsed s₂.heap s₂.slotsUsed).setVm hW'.alike, X.tail, State.WarmedH.trans X.warmed hW', X.limits, X.bytes, X.same.trans (hsame.setVm s.vm)⟩,
      ⟨g, mk, s₂, L, E, ce, rfl, rfl, hx, hce, hcv, hcl, rfl, hL, rfl, rfl⟩, ?_⟩
    show Steps p.tables e below _ (((({ U with heap := s₂.heap, slotsUsed := s₂.slotsUsed } : State).setVm s₂.vm).setTop g).pushFrame (.throwing q))
    rw [← hs₂]
    exact hsteps
end
variable {p : Program} {l : Launch} {e : Env} {R : Room} {s : State} {m : MethodId} {args : Array Value} {below : List Frame} {meth : Method} {c : Code} {T : State} {H : Heap} {locs : List Loc} {cells slots : Nat}
theorem vx_callVX (X : Stand p l e R s m args below meth c T locs cells slots) (hexec : p.tables.exec = Jvm.exec) {own C : String} {index : Nat} {y : MethodName} {bytes : ByteArray} {maxL : Nat} {ret : Option FieldType} {hh : List (Nat × Nat × Nat × Nat)}
    (hown : s.vm.findClass own = some m.cls) (hlink : (Cond.methodLink own index y).before args s = true) (hinst : (Cond.instanceMethod y).before args s = true) (hsel : (Cond.selects C y y).before args s = true)
    (hcode : (Cond.codeWith y bytes maxL ret hh).before args s = true) (hy : y.cls ≠ "java/lang/invoke/MethodHandle" ∧ y.cls ≠ "java/lang/invoke/VarHandle")
    {W9 : Nat} {Pre : Pt → Array Value → Prop} {Post : Pt → Array Value → Option Value → Pt → Prop} {PostX : Pt → Array Value → Addr → Pt → Prop} (hK : vx_Back l R p e below s args y 3 W9 Pre Post PostX)
    {b : Addr} {cellB : Cell} (hcell : T.heap[b]? = some cellB) (hobj : cellB.vm.isStatics = false) (hcls : s.vm.findClass C = some cellB.cls)
    {g : JFrame} (hg : g.method = m) (hsize : g.locals.size = c.maxLocals) {argsL rest : List Value} (hlen : ∀ sig, parseMethodDescriptor y.desc = some sig → argsL.length = sig.parameters.length)
    (hstack : g.stack = argsL.reverse ++ .ref b :: rest) (hW : 2 * g.monitorRoom + (rest.map fun v => v.category).sum ≤ W9) (hdg : decode c.code g.pc = .ok (.invokevirtual index, 3))
    (hpre : ∀ vm₁, s.WarmedH vm₁ → Pre ⟨T.setVm vm₁, locs, cells, slots⟩ (Value.ref b :: argsL).toArray) :
    (∃ (v : Option Value) (vm₁ : Vm) (B : Pt), s.WarmedH vm₁ ∧ Stand p l e R s m args below meth c B.U B.locs B.cells B.slots ∧ Post ⟨T.setVm vm₁, locs, cells, slots⟩ (Value.ref b :: argsL).toArray v B ∧
      ∀ target, Steps p.tables e below (B.U.setTop { g with pc := g.pc + 3, stack := v.toList ++ rest }) target → Steps p.tables e below (T.setTop g) target) ∨
    (∃ (q : Addr) (vm₁ : Vm) (B : Pt), s.WarmedH vm₁ ∧ Stand p l e R s m args below meth c B.U B.locs B.cells B.slots ∧ PostX ⟨T.setVm vm₁, locs, cells, slots⟩ (Value.ref b :: argsL).toArray q B ∧
      Steps p.tables e below (T.setTop g) ((B.U.setTop { g with stack := rest }).pushFrame (.throwing q))) := by
  obtain ⟨mk, methM, hnamed, hmethM, hstM, habM⟩ := Cond.instanceMethod_spec hinst
  obtain ⟨m8, methM', cM, hn8, hmethM', -, -, -, -, -, -, hsigM⟩ := Cond.codeWith_spec hcode
  cases Option.some.inj (hn8.symm.trans hnamed)
  cases hmethM.symm.trans hmethM'
  obtain ⟨c2, r2, m2, q1, q2, q3, q4, kP, hkP, hkPi⟩ := Cond.selects_spec hsel
  cases hcls.symm.trans q1
  cases (State.methodFound?_of_named hnamed hy).symm.trans q2
  cases hnamed.symm.trans q3
  have hselP : selectMethod e.platform s.vm cellB.cls mk = .method mk := by rw [Launch.admits_selectMethod X.admits]; exact q4
  obtain ⟨vm₁, X₁, hstep₁⟩ := X.invokevirtual hexec hown hlink hnamed hmethM hstM hkP hkPi hy (a := b) (cell := cellB) hcell
    (fun z h => by rw [h] at hobj; cases hobj) hselP hmethM habM hkP hkPi (g := g) hg (argsL := argsL) (rest := rest) (hlen _ hsigM) hstack hdg
  rcases hK m meth c ⟨T.setVm vm₁, locs, cells, slots⟩ { g with stack := rest } (.invokevirtual index) mk (Value.ref b :: argsL).toArray X₁ hg hsize hdg hW (X₁.named hnamed) (hpre vm₁ X₁.warmed) with ⟨v, B, X', hpost, hsteps⟩ | ⟨q, B, X', hpost, hsteps⟩
  · exact Or.inl ⟨v, vm₁, B, X₁.warmed, X', hpost, fun target h => hstep₁ _ fun acts => by rw [doInvoke_state]; exact hsteps.trans h⟩
  · exact Or.inr ⟨q, vm₁, B, X₁.warmed, X', hpost, hstep₁ _ fun acts => by rw [doInvoke_state]; exact hsteps⟩
theorem vx_callSX (X : Stand p l e R s m args below meth c T locs cells slots) (hexec : p.tables.exec = Jvm.exec) {own : String} {index : Nat} {y : MethodName} {bytes : ByteArray} {maxL : Nat} {ret : Option FieldType} {hh : List (Nat × Nat × Nat × Nat)}
    (hown : s.vm.findClass own = some m.cls) (hlink : (Cond.methodLink own index y).before args s = true) (hstat : (Cond.static y).before args s = true) (hinit : (Cond.initialized y.cls).before args s = true)
    (hcode : (Cond.codeWith y bytes maxL ret hh).before args s = true) (hy : y.cls ≠ "java/lang/invoke/MethodHandle" ∧ y.cls ≠ "java/lang/invoke/VarHandle")
    {W9 : Nat} {Pre : Pt → Array Value → Prop} {Post : Pt → Array Value → Option Value → Pt → Prop} {PostX : Pt → Array Value → Addr → Pt → Prop} (hK : vx_Back l R p e below s args y 3 W9 Pre Post PostX)
    {g : JFrame} (hg : g.method = m) (hsize : g.locals.size = c.maxLocals) {argsL rest : List Value} (hlen : ∀ sig, parseMethodDescriptor y.desc = some sig → argsL.length = sig.parameters.length)
    (hstack : g.stack = argsL.reverse ++ rest) (hW : 2 * g.monitorRoom + (rest.map fun v => v.category).sum ≤ W9) (hdg : decode c.code g.pc = .ok (.invokestatic index, 3))
    (hpre : ∀ vm₁, s.WarmedH vm₁ → Pre ⟨T.setVm vm₁, locs, cells, slots⟩ argsL.toArray) :
    (∃ (v : Option Value) (vm₁ : Vm) (B : Pt), s.WarmedH vm₁ ∧ Stand p l e R s m args below meth c B.U B.locs B.cells B.slots ∧ Post ⟨T.setVm vm₁, locs, cells, slots⟩ argsL.toArray v B ∧
      ∀ target, Steps p.tables e below (B.U.setTop { g with pc := g.pc + 3, stack := v.toList ++ rest }) target → Steps p.tables e below (T.setTop g) target) ∨
    (∃ (q : Addr) (vm₁ : Vm) (B : Pt), s.WarmedH vm₁ ∧ Stand p l e R s m args below meth c B.U B.locs B.cells B.slots ∧ PostX ⟨T.setVm vm₁, locs, cells, slots⟩ argsL.toArray q B ∧
      Steps p.tables e below (T.setTop g) ((B.U.setTop { g with stack := rest }).pushFrame (.throwing q))) := by
  obtain ⟨mk, methM, cM, hnamed, hmethM, -, -, -, -, -, -, hsigM⟩ := Cond.codeWith_spec hcode
  have hstatic : methM.isStatic = true := Cond.static_spec hnamed hmethM hstat
  obtain ⟨kP, hkP, -⟩ := className_of_methodNamed hnamed
  have hinitP : kP.init = .initialized := Cond.initialized_spec (findClass_of_methodNamed hnamed) hkP hinit
  obtain ⟨vm₁, X₁, hstep₁⟩ := X.invokestatic hexec hown hlink hnamed hmethM hstatic hkP hinitP hy (g := g) hg (argsL := argsL) (rest := rest) (hlen _ hsigM) hstack hdg
  rcases hK m meth c ⟨T.setVm vm₁, locs, cells, slots⟩ { g with stack := rest } (.invokestatic index) mk argsL.toArray X₁ hg hsize hdg hW (X₁.named hnamed) (hpre vm₁ X₁.warmed) with ⟨v, B, X', hpost, hsteps⟩ | ⟨q, B, X', hpost, hsteps⟩
  · exact Or.inl ⟨v, vm₁, B, X₁.warmed, X', hpost, fun target h => hstep₁ _ fun acts => by rw [doInvoke_state]; exact hsteps.trans h⟩
  · exact Or.inr ⟨q, vm₁, B, X₁.warmed, X', hpost, hstep₁ _ fun acts => by rw [doInvoke_state]; exact hsteps⟩
theorem vx_callVW (X : Stand p l e R s m args below meth c T locs cells slots) (hexec : p.tables.exec = Jvm.exec) {own C : String} {index : Nat} {y : MethodName} {bytes : ByteArray} {maxL : Nat} {ret : Option FieldType} {hh : List (Nat × Nat × Nat × Nat)}
    (hown : s.vm.findClass own = some m.cls) (hlink : (Cond.methodLink own index y).before args s = true) (hinst : (Cond.instanceMethod y).before args s = true) (hsel : (Cond.selects C y y).before args s = true)
    (hcode : (Cond.codeWith y bytes maxL ret hh).before args s = true) (hy : y.cls ≠ "java/lang/invoke/MethodHandle" ∧ y.cls ≠ "java/lang/invoke/VarHandle")
    {W9 : Nat} {Pre : Pt → Array Value → Prop} {Post : Pt → Array Value → Option Value → Pt → Prop} (hK : Back l R p e below s args y 3 W9 Pre Post)
    {b : Addr} {cellB : Cell} (hcell : T.heap[b]? = some cellB) (hobj : cellB.vm.isStatics = false) (hcls : s.vm.findClass C = some cellB.cls)
    {g : JFrame} (hg : g.method = m) (hsize : g.locals.size = c.maxLocals) {argsL rest : List Value} (hlen : ∀ sig, parseMethodDescriptor y.desc = some sig → argsL.length = sig.parameters.length)
    (hstack : g.stack = argsL.reverse ++ .ref b :: rest) (hW : 2 * g.monitorRoom + (rest.map fun v => v.category).sum ≤ W9) (hdg : decode c.code g.pc = .ok (.invokevirtual index, 3))
    (hpre : ∀ vm₁, s.WarmedH vm₁ → Pre ⟨T.setVm vm₁, locs, cells, slots⟩ (Value.ref b :: argsL).toArray) :
    ∃ (v : Option Value) (vm₁ : Vm) (B : Pt), s.WarmedH vm₁ ∧ Stand p l e R s m args below meth c B.U B.locs B.cells B.slots ∧ Post ⟨T.setVm vm₁, locs, cells, slots⟩ (Value.ref b :: argsL).toArray v B ∧
      ∀ target, Steps p.tables e below (B.U.setTop { g with pc := g.pc + 3, stack := v.toList ++ rest }) target → Steps p.tables e below (T.setTop g) target := by
  obtain ⟨mk, methM, hnamed, hmethM, hstM, habM⟩ := Cond.instanceMethod_spec hinst
  obtain ⟨m8, methM', cM, hn8, hmethM', -, -, -, -, -, -, hsigM⟩ := Cond.codeWith_spec hcode
  cases Option.some.inj (hn8.symm.trans hnamed)
  cases hmethM.symm.trans hmethM'
  obtain ⟨c2, r2, m2, q1, q2, q3, q4, kP, hkP, hkPi⟩ := Cond.selects_spec hsel
  cases hcls.symm.trans q1
  cases (State.methodFound?_of_named hnamed hy).symm.trans q2
  cases hnamed.symm.trans q3
  have hselP : selectMethod e.platform s.vm cellB.cls mk = .method mk := by rw [Launch.admits_selectMethod X.admits]; exact q4
  obtain ⟨vm₁, X₁, hstep₁⟩ := X.invokevirtual hexec hown hlink hnamed hmethM hstM hkP hkPi hy (a := b) (cell := cellB) hcell
    (fun z h => by rw [h] at hobj; cases hobj) hselP hmethM habM hkP hkPi (g := g) hg (argsL := argsL) (rest := rest) (hlen _ hsigM) hstack hdg
  obtain ⟨v, B, X', hpost, hsteps⟩ := hK m meth c ⟨T.setVm vm₁, locs, cells, slots⟩ { g with stack := rest } (.invokevirtual index) mk (Value.ref b :: argsL).toArray X₁ hg hsize hdg hW (X₁.named hnamed) (hpre vm₁ X₁.warmed)
  exact ⟨v, vm₁, B, X₁.warmed, X', hpost, fun target h => hstep₁ _ fun acts => by rw [doInvoke_state]; exact hsteps.trans h⟩
abbrev vx_CVW (R : Room) (s : State) (args : Array Value) (own C : String) (index : Nat) (y : MethodName) (bytes : ByteArray) (maxL : Nat) (ret : Option FieldType) (hh : List (Nat × Nat × Nat × Nat)) (ws : List Cond) (rm : Room) (mc ms n : Nat) : Prop :=
  (rm.cells = mc ∧ rm.slots = ms ∧ rm.frames + 1 ≤ R.frames ∧ 8 + (maxL + 11) + rm.locals ≤ R.locals ∧ (∀ w ∈ ws, ∀ (a' : Array Value) (U : State), s.WarmedH U.vm → w.before a' U = true) ∧ Cond.codeWith y bytes maxL ret hh ∈ ws) ∧
  (Cond.codeWith y bytes maxL ret hh).before args s = true ∧ (Cond.initialized y.cls).before args s = true ∧ (y.cls ≠ "java/lang/invoke/MethodHandle" ∧ y.cls ≠ "java/lang/invoke/VarHandle") ∧
  (∀ sig, parseMethodDescriptor y.desc = some sig → n = sig.parameters.length) ∧ (Cond.methodLink own index y).before args s = true ∧ (Cond.instanceMethod y).before args s = true ∧ (Cond.selects C y y).before args s = true
theorem vx_cwVW {own C : String} {index maxL mc ms : Nat} {y : MethodName} {bytes : ByteArray} {ret : Option FieldType} {hh : List (Nat × Nat × Nat × Nat)} {Ts ws ws' : List Cond} {rm : Room} (n : Nat) (ht : ∀ w ∈ Ts, w.before args s = true) (hT : GoodIn Ts (wsV own index C y ws)) (hw : ws = Cond.codeWith y bytes maxL ret hh :: ws') (hrc : rm.cells = mc) (hrs : rm.slots = ms)
    (hd : y.cls = C ∧ y.cls ≠ "java/lang/invoke/MethodHandle" ∧ y.cls ≠ "java/lang/invoke/VarHandle" ∧ (parseMethodDescriptor y.desc).map (fun d => d.parameters.length) = some n) (hR : rm.frames + 1 ≤ R.frames ∧ 8 + (maxL + 11) + rm.locals ≤ R.locals) :
    vx_CVW R s args own C index y bytes maxL ret hh ws rm mc ms n := by
  obtain ⟨hC, hd⟩ := hd
  subst hC
  have ok : ∀ w ∈ wsV own index y.cls y ws, w.before args s = true := fun w h => ht w (hT w h).1
  have hG : GoodIn Ts ws := fun w h => hT w (by unfold wsV; exact List.mem_append_right _ h)
  have hc : Cond.codeWith y bytes maxL ret hh ∈ ws := by rw [hw]; exact List.mem_cons_self
  refine ⟨⟨hrc, hrs, hR.1, hR.2, pay_in ht hG, hc⟩, ht _ (hG _ hc).1, ok _ (by simp [wsV]), ⟨hd.1, hd.2.1⟩, fun sig h => ?_, ok _ (by simp [wsV]), ok _ (by simp [wsV]), ok _ (by simp [wsV])⟩
  have h2 := hd.2.2
  rw [h] at h2
  exact (Option.some.inj h2).symm
theorem vx_runVW {y : MethodName} {bytes cc : ByteArray} {maxL nL mc ms n index : Nat} {ret : Option FieldType} {hh : List (Nat × Nat × Nat × Nat)} {ws : List Cond} {rm : Room} {Pc : Array Value → State → Prop} {Qc : Array Value → State → Outcome → State → Prop} {free : Addr → Prop} {Ts : List Cond} {own C : String} {b : Addr} {As rest : List Value} {g : JFrame}
    (S : CallFix p m c cc nL s args Ts own) (hM : Met l y ws rm Pc Qc mc ms free) (cw : vx_CVW R s args own C index y bytes maxL ret hh ws rm mc ms n) (hp : PreV s H C b Pc As)
    (hg : g.method = m) (hn : As.length = n) (hsize : g.locals.size = nL) (hstack : g.stack = As.reverse ++ .ref b :: rest) (hW : 2 * g.monitorRoom + (rest.map fun v => v.category).sum ≤ 8) (hdg : decode cc g.pc = .ok (.invokevirtual index, 3)) (hf : cells + mc ≤ R.cells ∧ slots + ms ≤ R.slots) :
    va_Run p l e R s m args below meth c H locs cells slots mc ms g rest (Qc (Value.ref b :: As).toArray) free := by
  obtain ⟨⟨hrc, hrs, hfr, hlo, hws, hcw⟩, hcode, hini, hy, hlen, hl, hin, hse⟩ := cw
  have hK : Back l R p e below s args y 3 8 (PreOf R mc ms Pc) (PostOf Qc mc ms free) := va_backW (hh := hh) (bytes := bytes) (maxL := maxL) (ret := ret) hM hp.1 hrc hrs hfr hlo hws hcw (fun a' U hW => word_at hW (Or.inl (by first | rfl | simp [Cond.onTables, Cond.keeps, Cond.steady])) hini)
  obtain ⟨hx, hb, hml, ho, -⟩ := S
  obtain ⟨-, ⟨cellB, hcB, hoB, hclB⟩, hPc⟩ := hp
  intro T hT X
  obtain ⟨v, vm₁, ⟨U', l2, c2, s2⟩, hW₁, X', ⟨g', mk, t, L, e1, e2, hq, h1, hL, h2, h3⟩, st⟩ := vx_callVW X hx (C := C) (hh := hh) (bytes := bytes) (maxL := maxL) (ret := ret) ho hl hin hse hcode hy hK (by rw [hT]; exact hcB) hoB hclB hg (hsize.trans hml.symm) (argsL := As) (rest := rest) (fun sig h => hn.trans (hlen sig h)) hstack hW (by rw [hb]; exact hdg)
    (fun vm₁ hW₁ => ⟨hf.1, hf.2, hPc (T.setVm vm₁) hT hW₁⟩)
  dsimp only [Pt.U, Pt.locs, Pt.cells, Pt.slots] at X' e1 e2 h1 h2 h3 st
  subst h1; subst h2; subst h3
  exact ⟨v, (T.setVm vm₁).calling g' mk (Value.ref b :: As).toArray, t, U', L, hT, X', hL, e1, e2, hq, st⟩
section
variable {y : MethodName} {bytes cc : ByteArray} {maxL nL mc ms n index : Nat} {ret : Option FieldType} {ws : List Cond} {rm : Room} {Pc : Array Value → State → Prop} {Qc : Array Value → State → Outcome → State → Prop} {XC : String → State → State → Prop} {free : Addr → Prop} {Ts : List Cond} {own C : String} {b : Addr} {As rest : List Value} {g : JFrame}
theorem vx_runVX {hh : List (Nat × Nat × Nat × Nat)} (S : CallFix p m c cc nL s args Ts own) (hM : vx_Met l y ws rm Pc Qc XC mc ms free) (cw : vx_CVW R s args own C index y bytes maxL ret hh ws rm mc ms n) (hp : PreV s H C b Pc As)
    (hg : g.method = m) (hn : As.length = n) (hsize : g.locals.size = nL) (hstack : g.stack = As.reverse ++ .ref b :: rest) (hW : 2 * g.monitorRoom + (rest.map fun v => v.category).sum ≤ 8) (hdg : decode cc g.pc = .ok (.invokevirtual index, 3)) (hf : cells + mc ≤ R.cells ∧ slots + ms ≤ R.slots) :
    vx_Run p l e R s m args below meth c H locs cells slots mc ms g rest (Qc (Value.ref b :: As).toArray) XC free := by
  obtain ⟨⟨hrc, hrs, hfr, hlo, hws, hcw⟩, hcode, hini, hy, hlen, hl, hin, hse⟩ := cw
  have hK : vx_Back l R p e below s args y 3 8 (PreOf R mc ms Pc) (PostOf Qc mc ms free) (vx_Post XC mc ms free) := vx_backW (hh := hh) (bytes := bytes) (maxL := maxL) (ret := ret) hM hp.1 hrc hrs hfr hlo hws hcw (fun a' U hW => word_at hW (Or.inl (by first | rfl | simp [Cond.onTables, Cond.keeps, Cond.steady])) hini)
  obtain ⟨hx, hb, hml, ho, -⟩ := S
  obtain ⟨-, ⟨cellB, hcB, hoB, hclB⟩, hPc⟩ := hp
  intro T hT X
  rcases vx_callVX X hx (C := C) (hh := hh) (bytes := bytes) (maxL := maxL) (ret := ret) ho hl hin hse hcode hy hK (by rw [hT]; exact hcB) hoB hclB hg (hsize.trans hml.symm) (argsL := As) (rest := rest) (fun sig h => hn.trans (hlen sig h)) hstack hW (by rw [hb]; exact hdg)
    (fun vm₁ hW₁ => ⟨hf.1, hf.2, hPc (T.setVm vm₁) hT hW₁⟩) with ⟨v, vm₁, ⟨U', l2, c2, s2⟩, hW₁, X', ⟨g', mk, t, L, e1, e2, hq, h1, hL, h2, h3⟩, st⟩ | ⟨q, vm₁, ⟨U', l2, c2, s2⟩, hW₁, X', ⟨g', mk, t, L, E, ce, e1, e2, hq, hce, hcv, hcl, h1, hL, h2, h3⟩, st⟩
  · dsimp only [Pt.U, Pt.locs, Pt.cells, Pt.slots] at X' e1 e2 h1 h2 h3 st
    subst h1; subst h2; subst h3
    exact Or.inl ⟨v, (T.setVm vm₁).calling g' mk (Value.ref b :: As).toArray, t, U', L, hT, X', hL, e1, e2, hq, st⟩
  · dsimp only [Pt.U, Pt.locs, Pt.cells, Pt.slots] at X' e1 e2 h1 h2 h3 st hcl
    subst h1; subst h2; subst h3
    exact Or.inr ⟨q, (T.setVm vm₁).calling g' mk (Value.ref b :: As).toArray, t, U', L, E, ce, hT, X', hL, e1, e2, hq, hce, hcv, vx_cls hW₁ hcl, st⟩
theorem vx_runSX {hh : List (Nat × Nat × Nat × Nat)} (S : CallFix p m c cc nL s args Ts own) (hM : vx_Met l y ws rm Pc Qc XC mc ms free) (cw : vx_CSW R s args own index y bytes maxL ret hh ws rm mc ms n) (hp : PreS s H Pc As)
    (hg : g.method = m) (hn : As.length = n) (hsize : g.locals.size = nL) (hstack : g.stack = As.reverse ++ rest) (hW : 2 * g.monitorRoom + (rest.map fun v => v.category).sum ≤ 8) (hdg : decode cc g.pc = .ok (.invokestatic index, 3)) (hf : cells + mc ≤ R.cells ∧ slots + ms ≤ R.slots) :
    vx_Run p l e R s m args below meth c H locs cells slots mc ms g rest (Qc As.toArray) XC free := by
  obtain ⟨⟨hrc, hrs, hfr, hlo, hws, hcw⟩, hcode, hini, hy, hlen, hl, hstt⟩ := cw
  have hK : vx_Back l R p e below s args y 3 8 (PreOf R mc ms Pc) (PostOf Qc mc ms free) (vx_Post XC mc ms free) := vx_backW (hh := hh) (bytes := bytes) (maxL := maxL) (ret := ret) hM hp.1 hrc hrs hfr hlo hws hcw (fun a' U hW => word_at hW (Or.inl (by first | rfl | simp [Cond.onTables, Cond.keeps, Cond.steady])) hini)
  obtain ⟨hx, hb, hml, ho, -⟩ := S
  intro T hT X
  rcases vx_callSX X hx (hh := hh) (bytes := bytes) (maxL := maxL) (ret := ret) ho hl hstt hini hcode hy hK hg (hsize.trans hml.symm) (argsL := As) (rest := rest) (fun sig h => hn.trans (hlen sig h)) hstack hW (by rw [hb]; exact hdg)
    (fun vm₁ hW₁ => ⟨hf.1, hf.2, hp.2 (T.setVm vm₁) hT hW₁⟩) with ⟨v, vm₁, ⟨U', l2, c2, s2⟩, hW₁, X', ⟨g', mk, t, L, e1, e2, hq, h1, hL, h2, h3⟩, st⟩ | ⟨q, vm₁, ⟨U', l2, c2, s2⟩, hW₁, X', ⟨g', mk, t, L, E, ce, e1, e2, hq, hce, hcv, hcl, h1, hL, h2, h3⟩, st⟩
  · dsimp only [Pt.U, Pt.locs, Pt.cells, Pt.slots] at X' e1 e2 h1 h2 h3 st
    subst h1; subst h2; subst h3
    exact Or.inl ⟨v, (T.setVm vm₁).calling g' mk As.toArray, t, U', L, hT, X', hL, e1, e2, hq, st⟩
  · dsimp only [Pt.U, Pt.locs, Pt.cells, Pt.slots] at X' e1 e2 h1 h2 h3 st hcl
    subst h1; subst h2; subst h3
    exact Or.inr ⟨q, (T.setVm vm₁).calling g' mk As.toArray, t, U', L, E, ce, hT, X', hL, e1, e2, hq, hce, hcv, vx_cls hW₁ hcl, st⟩
end
end VXH
theorem vx_ofWH {l : Launch} {y : MethodName} {ws ws' : List Cond} {rm : Room} {Pc : Array Value → State → Prop} {Qc : Array Value → State → Outcome → State → Prop} {XC : String → State → State → Prop} {mc ms : Nat} {free : Addr → Prop} {cc : ByteArray} {maxL : Nat} {ret : Option FieldType} {hh : List (Nat × Nat × Nat × Nat)}
    (hy : plainName y.cls = true) (hw : ws = Cond.codeWith y cc maxL ret hh :: ws')
    (body : ∀ p e s m args below meth c s₁, BodyLoose p l y (headSpec ws rm) cc maxL ret e s m args below meth c s₁ → c.maxLocals = maxL → Pc args s →
      W p l e (headSpec ws rm).room s m args below meth c s.heap [] 0 0 (vx_MQ below Qc XC args s mc ms free) (entryFrame m args maxL)) : vx_Met l y ws rm Pc Qc XC mc ms free := by
  refine MetFree.of_bodyS (code := cc) (maxLocals := maxL) (ret := ret) hy ?_ ?_
  · intro args s m h hn
    obtain ⟨m9, meth, c, hn9, h1, h2, h3, h4, -, h5, h6, -⟩ := Cond.codeWith_spec (atoms_spec (ws := ws) h _ (by rw [hw]; exact List.mem_cons_self))
    cases hn.symm.trans hn9
    exact ⟨meth, c, h1, h2, h3, h4, h5, h6⟩
  · intro p e s m args below meth c s₁ B hml hP _
    have hh0 : s₁.heap = s.heap := by rw [B.state]; rfl
    obtain ⟨t, a1, o, b1, b2, b3⟩ := body p e s m args below meth c s₁ B hml hP s₁ hh0 (Stand.of_body B)
    exact ⟨t, o, a1, b1, b2, b3⟩
/-! ===== END ===== -/
end
section
/-! ===== BEGIN printed: names, fields, word lists, decode rows ===== -/
def RX0 : String := "GuestChairs"
def TX0 : u_T := fun k => match k with
  | 0 => ("GuestChairs", "firsts", "[I", true)
  | 1 => ("GuestChairs", "seconds", "[I", true)
  | 2 => ("GuestChairs", "direct", "[I", true)
  | 3 => ("GuestChairs", "closed", "[I", true)
  | 4 => ("GuestChairs", "trial", "[I", true)
  | 5 => ("GuestChairs", "seated", "[I", true)
  | 6 => ("GuestChairs", "guestCount", "I", false)
  | 7 => ("GuestChairs", "ruleCount", "I", false)
  | 8 => ("GuestChairs", "inForce", "I", false)
  | _ => ("GuestChairs", "seatingCount", "I", false)
def tyX0 : Nat → FieldType := fun k => match k with
  | 0 => .array .int
  | 1 => .array .int
  | 2 => .array .int
  | 3 => .array .int
  | 4 => .array .int
  | 5 => .array .int
  | 6 => .int
  | 7 => .int
  | 8 => .int
  | _ => .int
abbrev wsX00 : List Cond := u_ws RX0 TX0 10
theorem nmX0 : ∀ a, a < 10 → ∀ b, b < 10 → a ≠ b → (TX0 a).2.1 ≠ (TX0 b).2.1 := by decide +kernel
theorem tyX0_ok : ∀ k, k < 10 → parseFieldDescriptor (TX0 k).2.2.1 = some (tyX0 k) := by decide +kernel
abbrev cX0_init : ByteArray := prog_1_method_1_code
def yX0_init : MethodName := ⟨RX0, "<init>", "()V"⟩
abbrev cX0_invite : ByteArray := prog_1_method_2_code
def yX0_invite : MethodName := ⟨RX0, "invite", "()I"⟩
abbrev cX0_rule : ByteArray := prog_1_method_3_code
def yX0_rule : MethodName := ⟨RX0, "rule", "(II)I"⟩
abbrev cX0_turn : ByteArray := prog_1_method_4_code
def yX0_turn : MethodName := ⟨RX0, "turn", "(I)Z"⟩
abbrev cX0_told : ByteArray := prog_1_method_5_code
def yX0_told : MethodName := ⟨RX0, "told", "(II)I"⟩
abbrev cX0_follows : ByteArray := prog_1_method_6_code
def yX0_follows : MethodName := ⟨RX0, "follows", "(II)Z"⟩
abbrev cX0_reach : ByteArray := prog_1_method_7_code
def yX0_reach : MethodName := ⟨RX0, "reach", "(I)I"⟩
abbrev cX0_steps : ByteArray := prog_1_method_8_code
def yX0_steps : MethodName := ⟨RX0, "steps", "(II)I"⟩
abbrev cX0_guest : ByteArray := prog_1_method_9_code
def yX0_guest : MethodName := ⟨RX0, "guest", "(II)I"⟩
abbrev cX0_fits : ByteArray := prog_1_method_10_code
def yX0_fits : MethodName := ⟨RX0, "fits", "()Z"⟩
abbrev cX0_seat : ByteArray := prog_1_method_11_code
def yX0_seat : MethodName := ⟨RX0, "seat", "()I"⟩
abbrev cX0_seatings : ByteArray := prog_1_method_12_code
def yX0_seatings : MethodName := ⟨RX0, "seatings", "()I"⟩
abbrev cX0_fewest : ByteArray := prog_1_method_13_code
def yX0_fewest : MethodName := ⟨RX0, "fewest", "()I"⟩
abbrev cX0_most : ByteArray := prog_1_method_14_code
def yX0_most : MethodName := ⟨RX0, "most", "()I"⟩
abbrev cX0_broken : ByteArray := prog_1_method_15_code
def yX0_broken : MethodName := ⟨RX0, "broken", "(I)I"⟩
abbrev cX0_blame : ByteArray := prog_1_method_16_code
def yX0_blame : MethodName := ⟨RX0, "blame", "()I"⟩
abbrev cX0_tightens : ByteArray := prog_1_method_17_code
def yX0_tightens : MethodName := ⟨RX0, "tightens", "(II)I"⟩
abbrev cX0_count : ByteArray := prog_1_method_18_code
def yX0_count : MethodName := ⟨RX0, "count", "(I)I"⟩
abbrev cX0_mean : ByteArray := prog_1_method_19_code
def yX0_mean : MethodName := ⟨RX0, "mean", "()D"⟩
abbrev cX0_digest : ByteArray := prog_1_method_20_code
def yX0_digest : MethodName := ⟨RX0, "digest", "()J"⟩
abbrev cX0_requireWishes : ByteArray := prog_1_method_21_code
def yX0_requireWishes : MethodName := ⟨RX0, "requireWishes", "(II)V"⟩
abbrev cX0_requireGuest : ByteArray := prog_1_method_22_code
def yX0_requireGuest : MethodName := ⟨RX0, "requireGuest", "(I)V"⟩
abbrev cX0_requireRule : ByteArray := prog_1_method_23_code
def yX0_requireRule : MethodName := ⟨RX0, "requireRule", "(I)V"⟩
abbrev cX0_requireFact : ByteArray := prog_1_method_24_code
def yX0_requireFact : MethodName := ⟨RX0, "requireFact", "(II)V"⟩
abbrev cX0_refresh : ByteArray := prog_1_method_25_code
def yX0_refresh : MethodName := ⟨RX0, "refresh", "()V"⟩
abbrev cX0_linkAllBut : ByteArray := prog_1_method_26_code
def yX0_linkAllBut : MethodName := ⟨RX0, "linkAllBut", "(I[I)V"⟩
abbrev cX0_link : ByteArray := prog_1_method_27_code
def yX0_link : MethodName := ⟨RX0, "link", "([III)V"⟩
abbrev cX0_close : ByteArray := prog_1_method_28_code
def yX0_close : MethodName := ⟨RX0, "close", "([I)V"⟩
abbrev cX0_listSeatings : ByteArray := prog_1_method_29_code
def yX0_listSeatings : MethodName := ⟨RX0, "listSeatings", "()V"⟩
abbrev cX0_settle : ByteArray := prog_1_method_30_code
def yX0_settle : MethodName := ⟨RX0, "settle", "(I)V"⟩
abbrev cX0_fitsWithout : ByteArray := prog_1_method_31_code
def yX0_fitsWithout : MethodName := ⟨RX0, "fitsWithout", "(I)Z"⟩
abbrev cX0_wishCount : ByteArray := prog_1_method_32_code
def yX0_wishCount : MethodName := ⟨RX0, "wishCount", "()I"⟩
abbrev cX0_against : ByteArray := prog_1_method_33_code
def yX0_against : MethodName := ⟨RX0, "against", "(I)I"⟩
abbrev cX0_holds : ByteArray := prog_1_method_34_code
def yX0_holds : MethodName := ⟨RX0, "holds", "(II)Z"⟩
abbrev cX0_isVain : ByteArray := prog_1_method_35_code
def yX0_isVain : MethodName := ⟨RX0, "isVain", "([II)Z"⟩
abbrev cX0_isTorn : ByteArray := prog_1_method_36_code
def yX0_isTorn : MethodName := ⟨RX0, "isTorn", "([II)Z"⟩
abbrev cX0_countTorn : ByteArray := prog_1_method_37_code
def yX0_countTorn : MethodName := ⟨RX0, "countTorn", "([I)I"⟩
abbrev cX0_countVain : ByteArray := prog_1_method_38_code
def yX0_countVain : MethodName := ⟨RX0, "countVain", "()I"⟩
abbrev cX0_countPairs : ByteArray := prog_1_method_39_code
def yX0_countPairs : MethodName := ⟨RX0, "countPairs", "()I"⟩
abbrev cX0_oneStepOn : ByteArray := prog_1_method_40_code
def yX0_oneStepOn : MethodName := ⟨RX0, "oneStepOn", "(I)I"⟩
abbrev cX0_guestsBoundTo : ByteArray := prog_1_method_41_code
def yX0_guestsBoundTo : MethodName := ⟨RX0, "guestsBoundTo", "(I)I"⟩
abbrev cX0_guestsComing : ByteArray := prog_1_method_42_code
def yX0_guestsComing : MethodName := ⟨RX0, "guestsComing", "(I)I"⟩
abbrev cX0_countComing : ByteArray := prog_1_method_43_code
def yX0_countComing : MethodName := ⟨RX0, "countComing", "(I)I"⟩
abbrev cX0_has : ByteArray := prog_1_method_44_code
def yX0_has : MethodName := ⟨RX0, "has", "(II)Z"⟩
abbrev cX0_at : ByteArray := prog_1_method_45_code
def yX0_at : MethodName := ⟨RX0, "at", "([II)I"⟩
abbrev cX0_put : ByteArray := prog_1_method_46_code
def yX0_put : MethodName := ⟨RX0, "put", "([III)V"⟩
abbrev cX0_oneIf : ByteArray := prog_1_method_47_code
def yX0_oneIf : MethodName := ⟨RX0, "oneIf", "(Z)I"⟩
abbrev cX0_mix : ByteArray := prog_1_method_48_code
def yX0_mix : MethodName := ⟨RX0, "mix", "(JI)J"⟩
def RX1 : String := "GuestChairsModel"
def TX1 : u_T := fun k => match k with
  | 0 => ("GuestChairsModel", "thrown", "I", false)
  | 1 => ("GuestChairsModel", "guests", "I", false)
  | 2 => ("GuestChairsModel", "rules", "I", false)
  | 3 => ("GuestChairsModel", "firsts", "[I", true)
  | 4 => ("GuestChairsModel", "seconds", "[I", true)
  | 5 => ("GuestChairsModel", "off", "[Z", true)
  | 6 => ("GuestChairsModel", "asIfFirst", "I", false)
  | 7 => ("GuestChairsModel", "asIfSecond", "I", false)
  | 8 => ("GuestChairsModel", "row", "[I", true)
  | _ => ("GuestChairsModel", "far", "[I", true)
def tyX1 : Nat → FieldType := fun k => match k with
  | 0 => .int
  | 1 => .int
  | 2 => .int
  | 3 => .array .int
  | 4 => .array .int
  | 5 => .array .boolean
  | 6 => .int
  | 7 => .int
  | 8 => .array .int
  | _ => .array .int
abbrev wsX10 : List Cond := u_ws RX1 TX1 10
theorem nmX1 : ∀ a, a < 10 → ∀ b, b < 10 → a ≠ b → (TX1 a).2.1 ≠ (TX1 b).2.1 := by decide +kernel
theorem tyX1_ok : ∀ k, k < 10 → parseFieldDescriptor (TX1 k).2.2.1 = some (tyX1 k) := by decide +kernel
abbrev cX1_init : ByteArray := prog_3_method_1_code
def yX1_init : MethodName := ⟨RX1, "<init>", "()V"⟩
abbrev cX1_thrown : ByteArray := prog_3_method_2_code
def yX1_thrown : MethodName := ⟨RX1, "thrown", "()I"⟩
abbrev cX1_fail : ByteArray := prog_3_method_3_code
def yX1_fail : MethodName := ⟨RX1, "fail", "(I)I"⟩
abbrev cX1_isIn : ByteArray := prog_3_method_4_code
def yX1_isIn : MethodName := ⟨RX1, "isIn", "(III)Z"⟩
abbrev cX1_isWish : ByteArray := prog_3_method_5_code
def yX1_isWish : MethodName := ⟨RX1, "isWish", "(I)Z"⟩
abbrev cX1_against : ByteArray := prog_3_method_6_code
def yX1_against : MethodName := ⟨RX1, "against", "(I)I"⟩
abbrev cX1_invite : ByteArray := prog_3_method_7_code
def yX1_invite : MethodName := ⟨RX1, "invite", "()I"⟩
abbrev cX1_rule : ByteArray := prog_3_method_8_code
def yX1_rule : MethodName := ⟨RX1, "rule", "(II)I"⟩
abbrev cX1_turn : ByteArray := prog_3_method_9_code
def yX1_turn : MethodName := ⟨RX1, "turn", "(I)Z"⟩
abbrev cX1_ruleTold : ByteArray := prog_3_method_10_code
def yX1_ruleTold : MethodName := ⟨RX1, "ruleTold", "(II)I"⟩
abbrev cX1_told : ByteArray := prog_3_method_11_code
def yX1_told : MethodName := ⟨RX1, "told", "(II)I"⟩
abbrev cX1_put : ByteArray := prog_3_method_12_code
def yX1_put : MethodName := ⟨RX1, "put", "(III)I"⟩
abbrev cX1_spread : ByteArray := prog_3_method_13_code
def yX1_spread : MethodName := ⟨RX1, "spread", "(I)I"⟩
abbrev cX1_leads : ByteArray := prog_3_method_14_code
def yX1_leads : MethodName := ⟨RX1, "leads", "(II)Z"⟩
abbrev cX1_follows : ByteArray := prog_3_method_15_code
def yX1_follows : MethodName := ⟨RX1, "follows", "(II)Z"⟩
abbrev cX1_reachOf : ByteArray := prog_3_method_16_code
def yX1_reachOf : MethodName := ⟨RX1, "reachOf", "(I)I"⟩
abbrev cX1_reach : ByteArray := prog_3_method_17_code
def yX1_reach : MethodName := ⟨RX1, "reach", "(I)I"⟩
abbrev cX1_steps : ByteArray := prog_3_method_18_code
def yX1_steps : MethodName := ⟨RX1, "steps", "(II)I"⟩
abbrev cX1_isVain : ByteArray := prog_3_method_19_code
def yX1_isVain : MethodName := ⟨RX1, "isVain", "(I)Z"⟩
abbrev cX1_isTorn : ByteArray := prog_3_method_20_code
def yX1_isTorn : MethodName := ⟨RX1, "isTorn", "(I)Z"⟩
abbrev cX1_holds : ByteArray := prog_3_method_21_code
def yX1_holds : MethodName := ⟨RX1, "holds", "(II)Z"⟩
abbrev cX1_brokenBy : ByteArray := prog_3_method_22_code
def yX1_brokenBy : MethodName := ⟨RX1, "brokenBy", "(I)I"⟩
abbrev cX1_seatingsWith : ByteArray := prog_3_method_23_code
def yX1_seatingsWith : MethodName := ⟨RX1, "seatingsWith", "(II)I"⟩
abbrev cX1_all : ByteArray := prog_3_method_24_code
def yX1_all : MethodName := ⟨RX1, "all", "()I"⟩
abbrev cX1_isForced : ByteArray := prog_3_method_25_code
def yX1_isForced : MethodName := ⟨RX1, "isForced", "(I)Z"⟩
abbrev cX1_guestTold : ByteArray := prog_3_method_26_code
def yX1_guestTold : MethodName := ⟨RX1, "guestTold", "(II)I"⟩
abbrev cX1_guest : ByteArray := prog_3_method_27_code
def yX1_guest : MethodName := ⟨RX1, "guest", "(II)I"⟩
abbrev cX1_fits : ByteArray := prog_3_method_28_code
def yX1_fits : MethodName := ⟨RX1, "fits", "()Z"⟩
abbrev cX1_seated : ByteArray := prog_3_method_29_code
def yX1_seated : MethodName := ⟨RX1, "seated", "()I"⟩
abbrev cX1_seat : ByteArray := prog_3_method_30_code
def yX1_seat : MethodName := ⟨RX1, "seat", "()I"⟩
abbrev cX1_seatings : ByteArray := prog_3_method_31_code
def yX1_seatings : MethodName := ⟨RX1, "seatings", "()I"⟩
abbrev cX1_size : ByteArray := prog_3_method_32_code
def yX1_size : MethodName := ⟨RX1, "size", "(I)I"⟩
abbrev cX1_fewest : ByteArray := prog_3_method_33_code
def yX1_fewest : MethodName := ⟨RX1, "fewest", "()I"⟩
abbrev cX1_most : ByteArray := prog_3_method_34_code
def yX1_most : MethodName := ⟨RX1, "most", "()I"⟩
abbrev cX1_broken : ByteArray := prog_3_method_35_code
def yX1_broken : MethodName := ⟨RX1, "broken", "(I)I"⟩
abbrev cX1_blame : ByteArray := prog_3_method_36_code
def yX1_blame : MethodName := ⟨RX1, "blame", "()I"⟩
abbrev cX1_tightens : ByteArray := prog_3_method_37_code
def yX1_tightens : MethodName := ⟨RX1, "tightens", "(II)I"⟩
abbrev cX1_counted : ByteArray := prog_3_method_38_code
def yX1_counted : MethodName := ⟨RX1, "counted", "(I)I"⟩
abbrev cX1_count : ByteArray := prog_3_method_39_code
def yX1_count : MethodName := ⟨RX1, "count", "(I)I"⟩
abbrev cX1_mean : ByteArray := prog_3_method_40_code
def yX1_mean : MethodName := ⟨RX1, "mean", "()D"⟩
abbrev cX1_digest : ByteArray := prog_3_method_41_code
def yX1_digest : MethodName := ⟨RX1, "digest", "()J"⟩
def RJ6 : String := "java/lang/Integer"
def TJ6 : u_T := fun k => match k with
  | _ => ("", "", "", false)
def tyJ6 : Nat → FieldType := fun k => match k with
  | _ => .int
abbrev wsJ60 : List Cond := u_ws RJ6 TJ6 0
theorem nmJ6 : ∀ a, a < 0 → ∀ b, b < 0 → a ≠ b → (TJ6 a).2.1 ≠ (TJ6 b).2.1 := by decide +kernel
theorem tyJ6_ok : ∀ k, k < 0 → parseFieldDescriptor (TJ6 k).2.2.1 = some (tyJ6 k) := by decide +kernel
abbrev cJ6_bitCount_0f7a4 : ByteArray := prog_8_method_49_code
def yJ6_bitCount_0f7a4 : MethodName := ⟨RJ6, "bitCount", "(I)I"⟩
def RJ9 : String := "java/lang/Math"
def TJ9 : u_T := fun k => match k with
  | _ => ("", "", "", false)
def tyJ9 : Nat → FieldType := fun k => match k with
  | _ => .int
abbrev wsJ90 : List Cond := u_ws RJ9 TJ9 0
theorem nmJ9 : ∀ a, a < 0 → ∀ b, b < 0 → a ≠ b → (TJ9 a).2.1 ≠ (TJ9 b).2.1 := by decide +kernel
theorem tyJ9_ok : ∀ k, k < 0 → parseFieldDescriptor (TJ9 k).2.2.1 = some (tyJ9 k) := by decide +kernel
abbrev cJ9_max_7cf53 : ByteArray := prog_9_method_65_code
def yJ9_max_7cf53 : MethodName := ⟨RJ9, "max", "(II)I"⟩
def RJ0 : String := "java/lang/String"
def TJ0 : u_T := fun k => match k with
  | _ => ("", "", "", false)
def tyJ0 : Nat → FieldType := fun k => match k with
  | _ => .int
abbrev wsJ00 : List Cond := u_ws RJ0 TJ0 0
theorem nmJ0 : ∀ a, a < 0 → ∀ b, b < 0 → a ≠ b → (TJ0 a).2.1 ≠ (TJ0 b).2.1 := by decide +kernel
theorem tyJ0_ok : ∀ k, k < 0 → parseFieldDescriptor (TJ0 k).2.2.1 = some (tyJ0 k) := by decide +kernel
def RL : String := "GuestChairsLaw"
abbrev cL_invite : ByteArray := method_3_code
def yL_invite : MethodName := ⟨RL, "invite", "(LGuestChairs;[J)I"⟩
abbrev cL_rule : ByteArray := method_4_code
def yL_rule : MethodName := ⟨RL, "rule", "(LGuestChairs;II[J)I"⟩
abbrev cL_turn : ByteArray := method_5_code
def yL_turn : MethodName := ⟨RL, "turn", "(LGuestChairs;I[J)I"⟩
abbrev cL_told : ByteArray := method_6_code
def yL_told : MethodName := ⟨RL, "told", "(LGuestChairs;II[J)I"⟩
abbrev cL_follows : ByteArray := method_7_code
def yL_follows : MethodName := ⟨RL, "follows", "(LGuestChairs;II[J)I"⟩
abbrev cL_reach : ByteArray := method_8_code
def yL_reach : MethodName := ⟨RL, "reach", "(LGuestChairs;I[J)I"⟩
abbrev cL_steps : ByteArray := method_9_code
def yL_steps : MethodName := ⟨RL, "steps", "(LGuestChairs;II[J)I"⟩
abbrev cL_guest : ByteArray := method_10_code
def yL_guest : MethodName := ⟨RL, "guest", "(LGuestChairs;II[J)I"⟩
abbrev cL_broken : ByteArray := method_11_code
def yL_broken : MethodName := ⟨RL, "broken", "(LGuestChairs;I[J)I"⟩
abbrev cL_tightens : ByteArray := method_12_code
def yL_tightens : MethodName := ⟨RL, "tightens", "(LGuestChairs;II[J)I"⟩
abbrev cL_count : ByteArray := method_13_code
def yL_count : MethodName := ⟨RL, "count", "(LGuestChairs;I[J)I"⟩
abbrev cL_law : ByteArray := code
def yL_law : MethodName := ⟨RL, "law", "([I)Z"⟩
def wsX0_has : List Cond := .code yX0_has cX0_has 2 (some .boolean) :: ([])
def wsX0_at : List Cond := .code yX0_at cX0_at 2 (some .int) :: ([])
def wsX0_put : List Cond := .code yX0_put cX0_put 3 none :: ([])
def wsX0_link : List Cond := .code yX0_link cX0_link 3 none :: ([.methodLink RX0 74 yX0_at, .static yX0_at, .initialized RX0, .code yX0_at cX0_at 2 (some .int), .methodLink RX0 56 yX0_put, .static yX0_put, .code yX0_put cX0_put 3 none])
def wsX0_against : List Cond := .code yX0_against cX0_against 1 (some .int) :: ([])
def wsX0_linkAllBut : List Cond := .code yX0_linkAllBut cX0_linkAllBut 6 none :: ([.fieldLink RX0 51 "GuestChairs" "ruleCount" "I", .fieldLink RX0 60 "GuestChairs" "inForce" "I", .fieldLink RX0 9 "GuestChairs" "firsts" "[I", .fieldLink RX0 13 "GuestChairs" "seconds" "[I", .methodLink RX0 67 yX0_has, .static yX0_has, .initialized RX0, .code yX0_has cX0_has 2 (some .boolean), .methodLink RX0 74 yX0_at, .static yX0_at, .code yX0_at cX0_at 2 (some .int), .methodLink RX0 189 yX0_link, .static yX0_link, .code yX0_link cX0_link 3 none, .methodLink RX0 56 yX0_put, .static yX0_put, .code yX0_put cX0_put 3 none, .methodLink RX0 93 yX0_against, .static yX0_against, .code yX0_against cX0_against 1 (some .int)] ++ wsX00)
def wsX0_close : List Cond := .code yX0_close cX0_close 3 none :: ([.methodLink RX0 67 yX0_has, .static yX0_has, .initialized RX0, .code yX0_has cX0_has 2 (some .boolean)])
def wsX0_isVain : List Cond := .code yX0_isVain cX0_isVain 2 (some .boolean) :: ([.methodLink RX0 74 yX0_at, .static yX0_at, .initialized RX0, .code yX0_at cX0_at 2 (some .int), .methodLink RX0 93 yX0_against, .static yX0_against, .code yX0_against cX0_against 1 (some .int), .methodLink RX0 67 yX0_has, .static yX0_has, .code yX0_has cX0_has 2 (some .boolean)])
def wsX0_isTorn : List Cond := .code yX0_isTorn cX0_isTorn 2 (some .boolean) :: ([.methodLink RX0 96 yX0_isVain, .static yX0_isVain, .initialized RX0, .code yX0_isVain cX0_isVain 2 (some .boolean), .methodLink RX0 74 yX0_at, .static yX0_at, .code yX0_at cX0_at 2 (some .int), .methodLink RX0 93 yX0_against, .static yX0_against, .code yX0_against cX0_against 1 (some .int), .methodLink RX0 67 yX0_has, .static yX0_has, .code yX0_has cX0_has 2 (some .boolean)])
def wsX0_oneIf : List Cond := .code yX0_oneIf cX0_oneIf 1 (some .int) :: ([])
def wsX0_countTorn : List Cond := .code yX0_countTorn cX0_countTorn 4 (some .int) :: ([.fieldLink RX0 31 "GuestChairs" "guestCount" "I", .methodLink RX0 100 yX0_isTorn, .static yX0_isTorn, .initialized RX0, .code yX0_isTorn cX0_isTorn 2 (some .boolean), .methodLink RX0 96 yX0_isVain, .static yX0_isVain, .code yX0_isVain cX0_isVain 2 (some .boolean), .methodLink RX0 74 yX0_at, .static yX0_at, .code yX0_at cX0_at 2 (some .int), .methodLink RX0 93 yX0_against, .static yX0_against, .code yX0_against cX0_against 1 (some .int), .methodLink RX0 67 yX0_has, .static yX0_has, .code yX0_has cX0_has 2 (some .boolean), .methodLink RX0 78 yX0_oneIf, .static yX0_oneIf, .code yX0_oneIf cX0_oneIf 1 (some .int)] ++ wsX00)
def wsX0_fits_r1 : List Cond := [Cond.fieldLink RX0 19 "GuestChairs" "closed" "[I", Cond.methodLink RX0 111 yX0_countTorn, Cond.instanceMethod yX0_countTorn, Cond.selects RX0 yX0_countTorn yX0_countTorn, Cond.initialized RX0, Cond.code yX0_countTorn cX0_countTorn 4 (some .int), Cond.fieldLink RX0 31 "GuestChairs" "guestCount" "I", Cond.methodLink RX0 100 yX0_isTorn, Cond.static yX0_isTorn, Cond.code yX0_isTorn cX0_isTorn 2 (some .boolean), Cond.methodLink RX0 96 yX0_isVain, Cond.static yX0_isVain, Cond.code yX0_isVain cX0_isVain 2 (some .boolean), Cond.methodLink RX0 74 yX0_at, Cond.static yX0_at, Cond.code yX0_at cX0_at 2 (some .int), Cond.methodLink RX0 93 yX0_against, Cond.static yX0_against, Cond.code yX0_against cX0_against 1 (some .int), Cond.methodLink RX0 67 yX0_has, Cond.static yX0_has, Cond.code yX0_has cX0_has 2 (some .boolean), Cond.methodLink RX0 78 yX0_oneIf, Cond.static yX0_oneIf]
def wsX0_fits_r2 : List Cond := [Cond.code yX0_oneIf cX0_oneIf 1 (some .int)]
def wsX0_fits : List Cond := .code yX0_fits cX0_fits 1 (some .boolean) :: ((wsX0_fits_r1 ++ wsX0_fits_r2) ++ wsX00)
def wsX0_settle : List Cond := .code yX0_settle cX0_settle 6 none :: ([.fieldLink RX0 115 "GuestChairs" "seatingCount" "I", .fieldLink RX0 25 "GuestChairs" "seated" "[I", .fieldLink RX0 19 "GuestChairs" "closed" "[I", .methodLink RX0 93 yX0_against, .static yX0_against, .initialized RX0, .code yX0_against cX0_against 1 (some .int), .methodLink RX0 74 yX0_at, .static yX0_at, .code yX0_at cX0_at 2 (some .int), .methodLink RX0 67 yX0_has, .static yX0_has, .code yX0_has cX0_has 2 (some .boolean), .methodLink RX0 96 yX0_isVain, .static yX0_isVain, .code yX0_isVain cX0_isVain 2 (some .boolean), .methodLink RX0 56 yX0_put, .static yX0_put, .code yX0_put cX0_put 3 none] ++ wsX00)
def wsX0_listSeatings_r1 : List Cond := [Cond.fieldLink RX0 115 "GuestChairs" "seatingCount" "I", Cond.fieldLink RX0 25 "GuestChairs" "seated" "[I", Cond.fieldLink RX0 31 "GuestChairs" "guestCount" "I", Cond.methodLink RX0 89 yX0_fits, Cond.instanceMethod yX0_fits, Cond.selects RX0 yX0_fits yX0_fits, Cond.initialized RX0, Cond.code yX0_fits cX0_fits 1 (some .boolean), Cond.fieldLink RX0 19 "GuestChairs" "closed" "[I", Cond.methodLink RX0 111 yX0_countTorn, Cond.instanceMethod yX0_countTorn, Cond.selects RX0 yX0_countTorn yX0_countTorn, Cond.code yX0_countTorn cX0_countTorn 4 (some .int), Cond.methodLink RX0 100 yX0_isTorn, Cond.static yX0_isTorn, Cond.code yX0_isTorn cX0_isTorn 2 (some .boolean), Cond.methodLink RX0 96 yX0_isVain, Cond.static yX0_isVain, Cond.code yX0_isVain cX0_isVain 2 (some .boolean), Cond.methodLink RX0 74 yX0_at, Cond.static yX0_at, Cond.code yX0_at cX0_at 2 (some .int), Cond.methodLink RX0 93 yX0_against, Cond.static yX0_against]
def wsX0_listSeatings_r2 : List Cond := [Cond.code yX0_against cX0_against 1 (some .int), Cond.methodLink RX0 67 yX0_has, Cond.static yX0_has, Cond.code yX0_has cX0_has 2 (some .boolean), Cond.methodLink RX0 78 yX0_oneIf, Cond.static yX0_oneIf, Cond.code yX0_oneIf cX0_oneIf 1 (some .int), Cond.methodLink RX0 56 yX0_put, Cond.static yX0_put, Cond.code yX0_put cX0_put 3 none, Cond.methodLink RX0 192 yX0_settle, Cond.instanceMethod yX0_settle, Cond.selects RX0 yX0_settle yX0_settle, Cond.code yX0_settle cX0_settle 6 none]
def wsX0_listSeatings : List Cond := .code yX0_listSeatings cX0_listSeatings 2 none :: ((wsX0_listSeatings_r1 ++ wsX0_listSeatings_r2) ++ wsX00)
def wsX0_refresh_r1 : List Cond := [Cond.fieldLink RX0 16 "GuestChairs" "direct" "[I", Cond.fieldLink RX0 19 "GuestChairs" "closed" "[I", Cond.methodLink RX0 178 yX0_linkAllBut, Cond.instanceMethod yX0_linkAllBut, Cond.selects RX0 yX0_linkAllBut yX0_linkAllBut, Cond.initialized RX0, Cond.code yX0_linkAllBut cX0_linkAllBut 6 none, Cond.fieldLink RX0 51 "GuestChairs" "ruleCount" "I", Cond.fieldLink RX0 60 "GuestChairs" "inForce" "I", Cond.fieldLink RX0 9 "GuestChairs" "firsts" "[I", Cond.fieldLink RX0 13 "GuestChairs" "seconds" "[I", Cond.methodLink RX0 67 yX0_has, Cond.static yX0_has, Cond.code yX0_has cX0_has 2 (some .boolean), Cond.methodLink RX0 74 yX0_at, Cond.static yX0_at, Cond.code yX0_at cX0_at 2 (some .int), Cond.methodLink RX0 189 yX0_link, Cond.static yX0_link, Cond.code yX0_link cX0_link 3 none, Cond.methodLink RX0 56 yX0_put, Cond.static yX0_put, Cond.code yX0_put cX0_put 3 none, Cond.methodLink RX0 93 yX0_against]
def wsX0_refresh_r2 : List Cond := [Cond.static yX0_against, Cond.code yX0_against cX0_against 1 (some .int), Cond.methodLink RX0 182 yX0_close, Cond.static yX0_close, Cond.code yX0_close cX0_close 3 none, Cond.methodLink RX0 186 yX0_listSeatings, Cond.instanceMethod yX0_listSeatings, Cond.selects RX0 yX0_listSeatings yX0_listSeatings, Cond.code yX0_listSeatings cX0_listSeatings 2 none, Cond.fieldLink RX0 115 "GuestChairs" "seatingCount" "I", Cond.fieldLink RX0 25 "GuestChairs" "seated" "[I", Cond.fieldLink RX0 31 "GuestChairs" "guestCount" "I", Cond.methodLink RX0 89 yX0_fits, Cond.instanceMethod yX0_fits, Cond.selects RX0 yX0_fits yX0_fits, Cond.code yX0_fits cX0_fits 1 (some .boolean), Cond.methodLink RX0 111 yX0_countTorn, Cond.instanceMethod yX0_countTorn, Cond.selects RX0 yX0_countTorn yX0_countTorn, Cond.code yX0_countTorn cX0_countTorn 4 (some .int), Cond.methodLink RX0 100 yX0_isTorn, Cond.static yX0_isTorn, Cond.code yX0_isTorn cX0_isTorn 2 (some .boolean), Cond.methodLink RX0 96 yX0_isVain]
def wsX0_refresh_r3 : List Cond := [Cond.static yX0_isVain, Cond.code yX0_isVain cX0_isVain 2 (some .boolean), Cond.methodLink RX0 78 yX0_oneIf, Cond.static yX0_oneIf, Cond.code yX0_oneIf cX0_oneIf 1 (some .int), Cond.methodLink RX0 192 yX0_settle, Cond.instanceMethod yX0_settle, Cond.selects RX0 yX0_settle yX0_settle, Cond.code yX0_settle cX0_settle 6 none]
def wsX0_refresh : List Cond := .code yX0_refresh cX0_refresh 1 none :: ((wsX0_refresh_r1 ++ (wsX0_refresh_r2 ++ wsX0_refresh_r3)) ++ wsX00)
def wsX0_init_r1 : List Cond := [Cond.methodLink RX0 1 objectInit, Cond.instanceMethod objectInit, Cond.code objectInit ⟨#[0xb1]⟩ 1 none, Cond.arrayClass .int, Cond.fieldLink RX0 9 "GuestChairs" "firsts" "[I", Cond.fieldLink RX0 13 "GuestChairs" "seconds" "[I", Cond.fieldLink RX0 16 "GuestChairs" "direct" "[I", Cond.fieldLink RX0 19 "GuestChairs" "closed" "[I", Cond.fieldLink RX0 22 "GuestChairs" "trial" "[I", Cond.fieldLink RX0 25 "GuestChairs" "seated" "[I", Cond.methodLink RX0 28 yX0_refresh, Cond.instanceMethod yX0_refresh, Cond.selects RX0 yX0_refresh yX0_refresh, Cond.initialized RX0, Cond.code yX0_refresh cX0_refresh 1 none, Cond.methodLink RX0 178 yX0_linkAllBut, Cond.instanceMethod yX0_linkAllBut, Cond.selects RX0 yX0_linkAllBut yX0_linkAllBut, Cond.code yX0_linkAllBut cX0_linkAllBut 6 none, Cond.fieldLink RX0 51 "GuestChairs" "ruleCount" "I", Cond.fieldLink RX0 60 "GuestChairs" "inForce" "I", Cond.methodLink RX0 67 yX0_has, Cond.static yX0_has, Cond.code yX0_has cX0_has 2 (some .boolean)]
def wsX0_init_r2 : List Cond := [Cond.methodLink RX0 74 yX0_at, Cond.static yX0_at, Cond.code yX0_at cX0_at 2 (some .int), Cond.methodLink RX0 189 yX0_link, Cond.static yX0_link, Cond.code yX0_link cX0_link 3 none, Cond.methodLink RX0 56 yX0_put, Cond.static yX0_put, Cond.code yX0_put cX0_put 3 none, Cond.methodLink RX0 93 yX0_against, Cond.static yX0_against, Cond.code yX0_against cX0_against 1 (some .int), Cond.methodLink RX0 182 yX0_close, Cond.static yX0_close, Cond.code yX0_close cX0_close 3 none, Cond.methodLink RX0 186 yX0_listSeatings, Cond.instanceMethod yX0_listSeatings, Cond.selects RX0 yX0_listSeatings yX0_listSeatings, Cond.code yX0_listSeatings cX0_listSeatings 2 none, Cond.fieldLink RX0 115 "GuestChairs" "seatingCount" "I", Cond.fieldLink RX0 31 "GuestChairs" "guestCount" "I", Cond.methodLink RX0 89 yX0_fits, Cond.instanceMethod yX0_fits, Cond.selects RX0 yX0_fits yX0_fits]
def wsX0_init_r3 : List Cond := [Cond.code yX0_fits cX0_fits 1 (some .boolean), Cond.methodLink RX0 111 yX0_countTorn, Cond.instanceMethod yX0_countTorn, Cond.selects RX0 yX0_countTorn yX0_countTorn, Cond.code yX0_countTorn cX0_countTorn 4 (some .int), Cond.methodLink RX0 100 yX0_isTorn, Cond.static yX0_isTorn, Cond.code yX0_isTorn cX0_isTorn 2 (some .boolean), Cond.methodLink RX0 96 yX0_isVain, Cond.static yX0_isVain, Cond.code yX0_isVain cX0_isVain 2 (some .boolean), Cond.methodLink RX0 78 yX0_oneIf, Cond.static yX0_oneIf, Cond.code yX0_oneIf cX0_oneIf 1 (some .int), Cond.methodLink RX0 192 yX0_settle, Cond.instanceMethod yX0_settle, Cond.selects RX0 yX0_settle yX0_settle, Cond.code yX0_settle cX0_settle 6 none]
def wsX0_init : List Cond := .code yX0_init cX0_init 1 none :: ((wsX0_init_r1 ++ (wsX0_init_r2 ++ wsX0_init_r3)) ++ wsX00)
def wsX0_invite_r1 : List Cond := [Cond.classLink RX0 35 "java/lang/IllegalStateException", Cond.initialized "java/lang/IllegalStateException", Cond.fieldLink RX0 31 "GuestChairs" "guestCount" "I", Cond.methodLink RX0 28 yX0_refresh, Cond.instanceMethod yX0_refresh, Cond.selects RX0 yX0_refresh yX0_refresh, Cond.initialized RX0, Cond.code yX0_refresh cX0_refresh 1 none, Cond.fieldLink RX0 16 "GuestChairs" "direct" "[I", Cond.fieldLink RX0 19 "GuestChairs" "closed" "[I", Cond.methodLink RX0 178 yX0_linkAllBut, Cond.instanceMethod yX0_linkAllBut, Cond.selects RX0 yX0_linkAllBut yX0_linkAllBut, Cond.code yX0_linkAllBut cX0_linkAllBut 6 none, Cond.fieldLink RX0 51 "GuestChairs" "ruleCount" "I", Cond.fieldLink RX0 60 "GuestChairs" "inForce" "I", Cond.fieldLink RX0 9 "GuestChairs" "firsts" "[I", Cond.fieldLink RX0 13 "GuestChairs" "seconds" "[I", Cond.methodLink RX0 67 yX0_has, Cond.static yX0_has, Cond.code yX0_has cX0_has 2 (some .boolean), Cond.methodLink RX0 74 yX0_at, Cond.static yX0_at, Cond.code yX0_at cX0_at 2 (some .int)]
def wsX0_invite_r2 : List Cond := [Cond.methodLink RX0 189 yX0_link, Cond.static yX0_link, Cond.code yX0_link cX0_link 3 none, Cond.methodLink RX0 56 yX0_put, Cond.static yX0_put, Cond.code yX0_put cX0_put 3 none, Cond.methodLink RX0 93 yX0_against, Cond.static yX0_against, Cond.code yX0_against cX0_against 1 (some .int), Cond.methodLink RX0 182 yX0_close, Cond.static yX0_close, Cond.code yX0_close cX0_close 3 none, Cond.methodLink RX0 186 yX0_listSeatings, Cond.instanceMethod yX0_listSeatings, Cond.selects RX0 yX0_listSeatings yX0_listSeatings, Cond.code yX0_listSeatings cX0_listSeatings 2 none, Cond.fieldLink RX0 115 "GuestChairs" "seatingCount" "I", Cond.fieldLink RX0 25 "GuestChairs" "seated" "[I", Cond.methodLink RX0 89 yX0_fits, Cond.instanceMethod yX0_fits, Cond.selects RX0 yX0_fits yX0_fits, Cond.code yX0_fits cX0_fits 1 (some .boolean), Cond.methodLink RX0 111 yX0_countTorn, Cond.instanceMethod yX0_countTorn]
def wsX0_invite_r3 : List Cond := [Cond.selects RX0 yX0_countTorn yX0_countTorn, Cond.code yX0_countTorn cX0_countTorn 4 (some .int), Cond.methodLink RX0 100 yX0_isTorn, Cond.static yX0_isTorn, Cond.code yX0_isTorn cX0_isTorn 2 (some .boolean), Cond.methodLink RX0 96 yX0_isVain, Cond.static yX0_isVain, Cond.code yX0_isVain cX0_isVain 2 (some .boolean), Cond.methodLink RX0 78 yX0_oneIf, Cond.static yX0_oneIf, Cond.code yX0_oneIf cX0_oneIf 1 (some .int), Cond.methodLink RX0 192 yX0_settle, Cond.instanceMethod yX0_settle, Cond.selects RX0 yX0_settle yX0_settle, Cond.code yX0_settle cX0_settle 6 none]
def wsX0_invite : List Cond := .code yX0_invite cX0_invite 2 (some .int) :: ((wsX0_invite_r1 ++ (wsX0_invite_r2 ++ wsX0_invite_r3)) ++ wsX00 ++ (vx_atS RX0 39 "java/lang/IllegalStateException" ["java/lang/RuntimeException", "java/lang/Exception"]).filter goodWord)
def wsX0_wishCount : List Cond := .code yX0_wishCount cX0_wishCount 1 (some .int) :: ([.fieldLink RX0 31 "GuestChairs" "guestCount" "I"] ++ wsX00)
def wsX0_requireWishes : List Cond := .code yX0_requireWishes cX0_requireWishes 3 none :: ([.classLink RX0 167 "java/lang/IndexOutOfBoundsException", .initialized "java/lang/IndexOutOfBoundsException", .methodLink RX0 158 yX0_wishCount, .instanceMethod yX0_wishCount, .selects RX0 yX0_wishCount yX0_wishCount, .initialized RX0, .code yX0_wishCount cX0_wishCount 1 (some .int), .fieldLink RX0 31 "GuestChairs" "guestCount" "I"] ++ wsX00 ++ (vx_atS RX0 171 "java/lang/IndexOutOfBoundsException" ["java/lang/RuntimeException", "java/lang/Exception"]).filter goodWord)
def wsX0_rule_r1 : List Cond := [Cond.classLink RX0 46 "java/lang/IllegalArgumentException", Cond.initialized "java/lang/IllegalArgumentException", Cond.classLink RX0 35 "java/lang/IllegalStateException", Cond.initialized "java/lang/IllegalStateException", Cond.fieldLink RX0 51 "GuestChairs" "ruleCount" "I", Cond.fieldLink RX0 9 "GuestChairs" "firsts" "[I", Cond.fieldLink RX0 13 "GuestChairs" "seconds" "[I", Cond.fieldLink RX0 60 "GuestChairs" "inForce" "I", Cond.methodLink RX0 42 yX0_requireWishes, Cond.instanceMethod yX0_requireWishes, Cond.selects RX0 yX0_requireWishes yX0_requireWishes, Cond.initialized RX0, Cond.code yX0_requireWishes cX0_requireWishes 3 none, Cond.classLink RX0 167 "java/lang/IndexOutOfBoundsException", Cond.initialized "java/lang/IndexOutOfBoundsException", Cond.methodLink RX0 158 yX0_wishCount, Cond.instanceMethod yX0_wishCount, Cond.selects RX0 yX0_wishCount yX0_wishCount, Cond.code yX0_wishCount cX0_wishCount 1 (some .int), Cond.fieldLink RX0 31 "GuestChairs" "guestCount" "I", Cond.methodLink RX0 56 yX0_put, Cond.static yX0_put, Cond.code yX0_put cX0_put 3 none, Cond.methodLink RX0 28 yX0_refresh]
def wsX0_rule_r2 : List Cond := [Cond.instanceMethod yX0_refresh, Cond.selects RX0 yX0_refresh yX0_refresh, Cond.code yX0_refresh cX0_refresh 1 none, Cond.fieldLink RX0 16 "GuestChairs" "direct" "[I", Cond.fieldLink RX0 19 "GuestChairs" "closed" "[I", Cond.methodLink RX0 178 yX0_linkAllBut, Cond.instanceMethod yX0_linkAllBut, Cond.selects RX0 yX0_linkAllBut yX0_linkAllBut, Cond.code yX0_linkAllBut cX0_linkAllBut 6 none, Cond.methodLink RX0 67 yX0_has, Cond.static yX0_has, Cond.code yX0_has cX0_has 2 (some .boolean), Cond.methodLink RX0 74 yX0_at, Cond.static yX0_at, Cond.code yX0_at cX0_at 2 (some .int), Cond.methodLink RX0 189 yX0_link, Cond.static yX0_link, Cond.code yX0_link cX0_link 3 none, Cond.methodLink RX0 93 yX0_against, Cond.static yX0_against, Cond.code yX0_against cX0_against 1 (some .int), Cond.methodLink RX0 182 yX0_close, Cond.static yX0_close, Cond.code yX0_close cX0_close 3 none]
def wsX0_rule_r3 : List Cond := [Cond.methodLink RX0 186 yX0_listSeatings, Cond.instanceMethod yX0_listSeatings, Cond.selects RX0 yX0_listSeatings yX0_listSeatings, Cond.code yX0_listSeatings cX0_listSeatings 2 none, Cond.fieldLink RX0 115 "GuestChairs" "seatingCount" "I", Cond.fieldLink RX0 25 "GuestChairs" "seated" "[I", Cond.methodLink RX0 89 yX0_fits, Cond.instanceMethod yX0_fits, Cond.selects RX0 yX0_fits yX0_fits, Cond.code yX0_fits cX0_fits 1 (some .boolean), Cond.methodLink RX0 111 yX0_countTorn, Cond.instanceMethod yX0_countTorn, Cond.selects RX0 yX0_countTorn yX0_countTorn, Cond.code yX0_countTorn cX0_countTorn 4 (some .int), Cond.methodLink RX0 100 yX0_isTorn, Cond.static yX0_isTorn, Cond.code yX0_isTorn cX0_isTorn 2 (some .boolean), Cond.methodLink RX0 96 yX0_isVain, Cond.static yX0_isVain, Cond.code yX0_isVain cX0_isVain 2 (some .boolean), Cond.methodLink RX0 78 yX0_oneIf, Cond.static yX0_oneIf, Cond.code yX0_oneIf cX0_oneIf 1 (some .int), Cond.methodLink RX0 192 yX0_settle]
def wsX0_rule_r4 : List Cond := [Cond.instanceMethod yX0_settle, Cond.selects RX0 yX0_settle yX0_settle, Cond.code yX0_settle cX0_settle 6 none]
def wsX0_rule : List Cond := .code yX0_rule cX0_rule 4 (some .int) :: ((wsX0_rule_r1 ++ (wsX0_rule_r2 ++ (wsX0_rule_r3 ++ wsX0_rule_r4))) ++ wsX00 ++ (vx_atS RX0 50 "java/lang/IllegalArgumentException" ["java/lang/RuntimeException", "java/lang/Exception"]).filter goodWord ++ (vx_atS RX0 39 "java/lang/IllegalStateException" ["java/lang/RuntimeException", "java/lang/Exception"]).filter goodWord ++ (vx_atS RX0 171 "java/lang/IndexOutOfBoundsException" ["java/lang/RuntimeException", "java/lang/Exception"]).filter goodWord)
def wsX0_requireRule : List Cond := .code yX0_requireRule cX0_requireRule 2 none :: ([.classLink RX0 167 "java/lang/IndexOutOfBoundsException", .initialized "java/lang/IndexOutOfBoundsException", .fieldLink RX0 51 "GuestChairs" "ruleCount" "I"] ++ wsX00 ++ (vx_atS RX0 171 "java/lang/IndexOutOfBoundsException" ["java/lang/RuntimeException", "java/lang/Exception"]).filter goodWord)
def wsX0_turn_r1 : List Cond := [Cond.fieldLink RX0 60 "GuestChairs" "inForce" "I", Cond.methodLink RX0 63 yX0_requireRule, Cond.instanceMethod yX0_requireRule, Cond.selects RX0 yX0_requireRule yX0_requireRule, Cond.initialized RX0, Cond.code yX0_requireRule cX0_requireRule 2 none, Cond.classLink RX0 167 "java/lang/IndexOutOfBoundsException", Cond.initialized "java/lang/IndexOutOfBoundsException", Cond.fieldLink RX0 51 "GuestChairs" "ruleCount" "I", Cond.methodLink RX0 28 yX0_refresh, Cond.instanceMethod yX0_refresh, Cond.selects RX0 yX0_refresh yX0_refresh, Cond.code yX0_refresh cX0_refresh 1 none, Cond.fieldLink RX0 16 "GuestChairs" "direct" "[I", Cond.fieldLink RX0 19 "GuestChairs" "closed" "[I", Cond.methodLink RX0 178 yX0_linkAllBut, Cond.instanceMethod yX0_linkAllBut, Cond.selects RX0 yX0_linkAllBut yX0_linkAllBut, Cond.code yX0_linkAllBut cX0_linkAllBut 6 none, Cond.fieldLink RX0 9 "GuestChairs" "firsts" "[I", Cond.fieldLink RX0 13 "GuestChairs" "seconds" "[I", Cond.methodLink RX0 67 yX0_has, Cond.static yX0_has, Cond.code yX0_has cX0_has 2 (some .boolean)]
def wsX0_turn_r2 : List Cond := [Cond.methodLink RX0 74 yX0_at, Cond.static yX0_at, Cond.code yX0_at cX0_at 2 (some .int), Cond.methodLink RX0 189 yX0_link, Cond.static yX0_link, Cond.code yX0_link cX0_link 3 none, Cond.methodLink RX0 56 yX0_put, Cond.static yX0_put, Cond.code yX0_put cX0_put 3 none, Cond.methodLink RX0 93 yX0_against, Cond.static yX0_against, Cond.code yX0_against cX0_against 1 (some .int), Cond.methodLink RX0 182 yX0_close, Cond.static yX0_close, Cond.code yX0_close cX0_close 3 none, Cond.methodLink RX0 186 yX0_listSeatings, Cond.instanceMethod yX0_listSeatings, Cond.selects RX0 yX0_listSeatings yX0_listSeatings, Cond.code yX0_listSeatings cX0_listSeatings 2 none, Cond.fieldLink RX0 115 "GuestChairs" "seatingCount" "I", Cond.fieldLink RX0 25 "GuestChairs" "seated" "[I", Cond.fieldLink RX0 31 "GuestChairs" "guestCount" "I", Cond.methodLink RX0 89 yX0_fits, Cond.instanceMethod yX0_fits]
def wsX0_turn_r3 : List Cond := [Cond.selects RX0 yX0_fits yX0_fits, Cond.code yX0_fits cX0_fits 1 (some .boolean), Cond.methodLink RX0 111 yX0_countTorn, Cond.instanceMethod yX0_countTorn, Cond.selects RX0 yX0_countTorn yX0_countTorn, Cond.code yX0_countTorn cX0_countTorn 4 (some .int), Cond.methodLink RX0 100 yX0_isTorn, Cond.static yX0_isTorn, Cond.code yX0_isTorn cX0_isTorn 2 (some .boolean), Cond.methodLink RX0 96 yX0_isVain, Cond.static yX0_isVain, Cond.code yX0_isVain cX0_isVain 2 (some .boolean), Cond.methodLink RX0 78 yX0_oneIf, Cond.static yX0_oneIf, Cond.code yX0_oneIf cX0_oneIf 1 (some .int), Cond.methodLink RX0 192 yX0_settle, Cond.instanceMethod yX0_settle, Cond.selects RX0 yX0_settle yX0_settle, Cond.code yX0_settle cX0_settle 6 none]
def wsX0_turn : List Cond := .code yX0_turn cX0_turn 2 (some .boolean) :: ((wsX0_turn_r1 ++ (wsX0_turn_r2 ++ wsX0_turn_r3)) ++ wsX00 ++ (vx_atS RX0 171 "java/lang/IndexOutOfBoundsException" ["java/lang/RuntimeException", "java/lang/Exception"]).filter goodWord)
def wsX0_requireFact : List Cond := .code yX0_requireFact cX0_requireFact 2 none :: ([.classLink RX0 167 "java/lang/IndexOutOfBoundsException", .initialized "java/lang/IndexOutOfBoundsException"] ++ (vx_atS RX0 171 "java/lang/IndexOutOfBoundsException" ["java/lang/RuntimeException", "java/lang/Exception"]).filter goodWord)
def wsX0_told : List Cond := .code yX0_told cX0_told 3 (some .int) :: ([.fieldLink RX0 9 "GuestChairs" "firsts" "[I", .fieldLink RX0 13 "GuestChairs" "seconds" "[I", .fieldLink RX0 60 "GuestChairs" "inForce" "I", .methodLink RX0 63 yX0_requireRule, .instanceMethod yX0_requireRule, .selects RX0 yX0_requireRule yX0_requireRule, .initialized RX0, .code yX0_requireRule cX0_requireRule 2 none, .classLink RX0 167 "java/lang/IndexOutOfBoundsException", .initialized "java/lang/IndexOutOfBoundsException", .fieldLink RX0 51 "GuestChairs" "ruleCount" "I", .methodLink RX0 71 yX0_requireFact, .static yX0_requireFact, .code yX0_requireFact cX0_requireFact 2 none, .methodLink RX0 74 yX0_at, .static yX0_at, .code yX0_at cX0_at 2 (some .int), .methodLink RX0 67 yX0_has, .static yX0_has, .code yX0_has cX0_has 2 (some .boolean), .methodLink RX0 78 yX0_oneIf, .static yX0_oneIf, .code yX0_oneIf cX0_oneIf 1 (some .int)] ++ wsX00 ++ (vx_atS RX0 171 "java/lang/IndexOutOfBoundsException" ["java/lang/RuntimeException", "java/lang/Exception"]).filter goodWord)
def wsX0_follows : List Cond := .code yX0_follows cX0_follows 3 (some .boolean) :: ([.fieldLink RX0 19 "GuestChairs" "closed" "[I", .methodLink RX0 42 yX0_requireWishes, .instanceMethod yX0_requireWishes, .selects RX0 yX0_requireWishes yX0_requireWishes, .initialized RX0, .code yX0_requireWishes cX0_requireWishes 3 none, .classLink RX0 167 "java/lang/IndexOutOfBoundsException", .initialized "java/lang/IndexOutOfBoundsException", .methodLink RX0 158 yX0_wishCount, .instanceMethod yX0_wishCount, .selects RX0 yX0_wishCount yX0_wishCount, .code yX0_wishCount cX0_wishCount 1 (some .int), .fieldLink RX0 31 "GuestChairs" "guestCount" "I", .methodLink RX0 74 yX0_at, .static yX0_at, .code yX0_at cX0_at 2 (some .int), .methodLink RX0 67 yX0_has, .static yX0_has, .code yX0_has cX0_has 2 (some .boolean)] ++ wsX00 ++ (vx_atS RX0 171 "java/lang/IndexOutOfBoundsException" ["java/lang/RuntimeException", "java/lang/Exception"]).filter goodWord)
def wsX0_reach : List Cond := .code yX0_reach cX0_reach 2 (some .int) :: ([.fieldLink RX0 19 "GuestChairs" "closed" "[I", .methodLink RX0 42 yX0_requireWishes, .instanceMethod yX0_requireWishes, .selects RX0 yX0_requireWishes yX0_requireWishes, .initialized RX0, .code yX0_requireWishes cX0_requireWishes 3 none, .classLink RX0 167 "java/lang/IndexOutOfBoundsException", .initialized "java/lang/IndexOutOfBoundsException", .methodLink RX0 158 yX0_wishCount, .instanceMethod yX0_wishCount, .selects RX0 yX0_wishCount yX0_wishCount, .code yX0_wishCount cX0_wishCount 1 (some .int), .fieldLink RX0 31 "GuestChairs" "guestCount" "I", .methodLink RX0 74 yX0_at, .static yX0_at, .code yX0_at cX0_at 2 (some .int)] ++ wsX00 ++ (vx_atS RX0 171 "java/lang/IndexOutOfBoundsException" ["java/lang/RuntimeException", "java/lang/Exception"]).filter goodWord)
def wsX0_oneStepOn : List Cond := .code yX0_oneStepOn cX0_oneStepOn 4 (some .int) :: ([.fieldLink RX0 16 "GuestChairs" "direct" "[I", .methodLink RX0 158 yX0_wishCount, .instanceMethod yX0_wishCount, .selects RX0 yX0_wishCount yX0_wishCount, .initialized RX0, .code yX0_wishCount cX0_wishCount 1 (some .int), .fieldLink RX0 31 "GuestChairs" "guestCount" "I", .methodLink RX0 67 yX0_has, .static yX0_has, .code yX0_has cX0_has 2 (some .boolean), .methodLink RX0 74 yX0_at, .static yX0_at, .code yX0_at cX0_at 2 (some .int)] ++ wsX00)
def wsX0_steps : List Cond := .code yX0_steps cX0_steps 5 (some .int) :: ([.methodLink RX0 42 yX0_requireWishes, .instanceMethod yX0_requireWishes, .selects RX0 yX0_requireWishes yX0_requireWishes, .initialized RX0, .code yX0_requireWishes cX0_requireWishes 3 none, .classLink RX0 167 "java/lang/IndexOutOfBoundsException", .initialized "java/lang/IndexOutOfBoundsException", .methodLink RX0 158 yX0_wishCount, .instanceMethod yX0_wishCount, .selects RX0 yX0_wishCount yX0_wishCount, .code yX0_wishCount cX0_wishCount 1 (some .int), .fieldLink RX0 31 "GuestChairs" "guestCount" "I", .methodLink RX0 67 yX0_has, .static yX0_has, .code yX0_has cX0_has 2 (some .boolean), .methodLink RX0 82 yX0_oneStepOn, .instanceMethod yX0_oneStepOn, .selects RX0 yX0_oneStepOn yX0_oneStepOn, .code yX0_oneStepOn cX0_oneStepOn 4 (some .int), .fieldLink RX0 16 "GuestChairs" "direct" "[I", .methodLink RX0 74 yX0_at, .static yX0_at, .code yX0_at cX0_at 2 (some .int)] ++ wsX00 ++ (vx_atS RX0 171 "java/lang/IndexOutOfBoundsException" ["java/lang/RuntimeException", "java/lang/Exception"]).filter goodWord)
def wsX0_requireGuest : List Cond := .code yX0_requireGuest cX0_requireGuest 2 none :: ([.classLink RX0 167 "java/lang/IndexOutOfBoundsException", .initialized "java/lang/IndexOutOfBoundsException", .fieldLink RX0 31 "GuestChairs" "guestCount" "I"] ++ wsX00 ++ (vx_atS RX0 171 "java/lang/IndexOutOfBoundsException" ["java/lang/RuntimeException", "java/lang/Exception"]).filter goodWord)
def wsX0_guestsBoundTo : List Cond := .code yX0_guestsBoundTo cX0_guestsBoundTo 4 (some .int) :: ([.fieldLink RX0 19 "GuestChairs" "closed" "[I", .methodLink RX0 158 yX0_wishCount, .instanceMethod yX0_wishCount, .selects RX0 yX0_wishCount yX0_wishCount, .initialized RX0, .code yX0_wishCount cX0_wishCount 1 (some .int), .fieldLink RX0 31 "GuestChairs" "guestCount" "I", .methodLink RX0 74 yX0_at, .static yX0_at, .code yX0_at cX0_at 2 (some .int), .methodLink RX0 67 yX0_has, .static yX0_has, .code yX0_has cX0_has 2 (some .boolean)] ++ wsX00)
def wsJ6_bitCount_0f7a4 : List Cond := .code yJ6_bitCount_0f7a4 cJ6_bitCount_0f7a4 1 (some .int) :: ([.constant RJ6 265 (1431655765), .constant RJ6 266 (858993459), .constant RJ6 267 (252645135)])
def wsX0_guest_r1 : List Cond := [Cond.fieldLink RX0 19 "GuestChairs" "closed" "[I", Cond.methodLink RX0 86 yX0_requireGuest, Cond.instanceMethod yX0_requireGuest, Cond.selects RX0 yX0_requireGuest yX0_requireGuest, Cond.initialized RX0, Cond.code yX0_requireGuest cX0_requireGuest 2 none, Cond.classLink RX0 167 "java/lang/IndexOutOfBoundsException", Cond.initialized "java/lang/IndexOutOfBoundsException", Cond.fieldLink RX0 31 "GuestChairs" "guestCount" "I", Cond.methodLink RX0 71 yX0_requireFact, Cond.static yX0_requireFact, Cond.code yX0_requireFact cX0_requireFact 2 none, Cond.methodLink RX0 89 yX0_fits, Cond.instanceMethod yX0_fits, Cond.selects RX0 yX0_fits yX0_fits, Cond.code yX0_fits cX0_fits 1 (some .boolean), Cond.methodLink RX0 111 yX0_countTorn, Cond.instanceMethod yX0_countTorn, Cond.selects RX0 yX0_countTorn yX0_countTorn, Cond.code yX0_countTorn cX0_countTorn 4 (some .int), Cond.methodLink RX0 100 yX0_isTorn, Cond.static yX0_isTorn, Cond.code yX0_isTorn cX0_isTorn 2 (some .boolean), Cond.methodLink RX0 96 yX0_isVain]
def wsX0_guest_r2 : List Cond := [Cond.static yX0_isVain, Cond.code yX0_isVain cX0_isVain 2 (some .boolean), Cond.methodLink RX0 74 yX0_at, Cond.static yX0_at, Cond.code yX0_at cX0_at 2 (some .int), Cond.methodLink RX0 93 yX0_against, Cond.static yX0_against, Cond.code yX0_against cX0_against 1 (some .int), Cond.methodLink RX0 67 yX0_has, Cond.static yX0_has, Cond.code yX0_has cX0_has 2 (some .boolean), Cond.methodLink RX0 78 yX0_oneIf, Cond.static yX0_oneIf, Cond.code yX0_oneIf cX0_oneIf 1 (some .int), Cond.methodLink RX0 103 yX0_guestsBoundTo, Cond.instanceMethod yX0_guestsBoundTo, Cond.selects RX0 yX0_guestsBoundTo yX0_guestsBoundTo, Cond.code yX0_guestsBoundTo cX0_guestsBoundTo 4 (some .int), Cond.methodLink RX0 158 yX0_wishCount, Cond.instanceMethod yX0_wishCount, Cond.selects RX0 yX0_wishCount yX0_wishCount, Cond.code yX0_wishCount cX0_wishCount 1 (some .int), Cond.methodLink RX0 106 yJ6_bitCount_0f7a4, Cond.static yJ6_bitCount_0f7a4]
def wsX0_guest_r3 : List Cond := [Cond.initialized RJ6, Cond.code yJ6_bitCount_0f7a4 cJ6_bitCount_0f7a4 1 (some .int), Cond.constant RJ6 265 (1431655765), Cond.constant RJ6 266 (858993459), Cond.constant RJ6 267 (252645135)]
def wsX0_guest : List Cond := .code yX0_guest cX0_guest 4 (some .int) :: ((wsX0_guest_r1 ++ (wsX0_guest_r2 ++ wsX0_guest_r3)) ++ wsX00 ++ (vx_atS RX0 171 "java/lang/IndexOutOfBoundsException" ["java/lang/RuntimeException", "java/lang/Exception"]).filter goodWord)
def wsX0_guestsComing : List Cond := .code yX0_guestsComing cX0_guestsComing 4 (some .int) :: ([.fieldLink RX0 31 "GuestChairs" "guestCount" "I", .methodLink RX0 67 yX0_has, .static yX0_has, .initialized RX0, .code yX0_has cX0_has 2 (some .boolean)] ++ wsX00)
def wsX0_seat : List Cond := .code yX0_seat cX0_seat 1 (some .int) :: ([.fieldLink RX0 115 "GuestChairs" "seatingCount" "I", .fieldLink RX0 25 "GuestChairs" "seated" "[I", .methodLink RX0 74 yX0_at, .static yX0_at, .initialized RX0, .code yX0_at cX0_at 2 (some .int), .methodLink RX0 118 yX0_guestsComing, .instanceMethod yX0_guestsComing, .selects RX0 yX0_guestsComing yX0_guestsComing, .code yX0_guestsComing cX0_guestsComing 4 (some .int), .fieldLink RX0 31 "GuestChairs" "guestCount" "I", .methodLink RX0 67 yX0_has, .static yX0_has, .code yX0_has cX0_has 2 (some .boolean)] ++ wsX00)
def wsX0_seatings : List Cond := .code yX0_seatings cX0_seatings 1 (some .int) :: ([.fieldLink RX0 115 "GuestChairs" "seatingCount" "I"] ++ wsX00)
def wsX0_countComing : List Cond := .code yX0_countComing cX0_countComing 1 (some .int) :: ([.constant RX0 195 (349525), .methodLink RX0 106 yJ6_bitCount_0f7a4, .static yJ6_bitCount_0f7a4, .initialized RJ6, .code yJ6_bitCount_0f7a4 cJ6_bitCount_0f7a4 1 (some .int), .constant RJ6 265 (1431655765), .constant RJ6 266 (858993459), .constant RJ6 267 (252645135)])
def wsX0_fewest : List Cond := .code yX0_fewest cX0_fewest 4 (some .int) :: ([.fieldLink RX0 115 "GuestChairs" "seatingCount" "I", .fieldLink RX0 25 "GuestChairs" "seated" "[I", .methodLink RX0 74 yX0_at, .static yX0_at, .initialized RX0, .code yX0_at cX0_at 2 (some .int), .methodLink RX0 121 yX0_countComing, .static yX0_countComing, .code yX0_countComing cX0_countComing 1 (some .int), .constant RX0 195 (349525), .methodLink RX0 106 yJ6_bitCount_0f7a4, .static yJ6_bitCount_0f7a4, .initialized RJ6, .code yJ6_bitCount_0f7a4 cJ6_bitCount_0f7a4 1 (some .int), .constant RJ6 265 (1431655765), .constant RJ6 266 (858993459), .constant RJ6 267 (252645135)] ++ wsX00)
def wsX0_most : List Cond := .code yX0_most cX0_most 3 (some .int) :: ([.fieldLink RX0 115 "GuestChairs" "seatingCount" "I", .fieldLink RX0 25 "GuestChairs" "seated" "[I", .methodLink RX0 124 Lib.Math.max.name, .static Lib.Math.max.name, .initialized "java/lang/Math", .code Lib.Math.max.name Lib.Math.max.code 2 (some .int), .methodLink RX0 74 yX0_at, .static yX0_at, .initialized RX0, .code yX0_at cX0_at 2 (some .int), .methodLink RX0 121 yX0_countComing, .static yX0_countComing, .code yX0_countComing cX0_countComing 1 (some .int), .constant RX0 195 (349525), .methodLink RX0 106 yJ6_bitCount_0f7a4, .static yJ6_bitCount_0f7a4, .initialized RJ6, .code yJ6_bitCount_0f7a4 cJ6_bitCount_0f7a4 1 (some .int), .constant RJ6 265 (1431655765), .constant RJ6 266 (858993459), .constant RJ6 267 (252645135)] ++ wsX00)
def wsX0_holds : List Cond := .code yX0_holds cX0_holds 3 (some .boolean) :: ([.methodLink RX0 67 yX0_has, .static yX0_has, .initialized RX0, .code yX0_has cX0_has 2 (some .boolean)])
def wsX0_broken : List Cond := .code yX0_broken cX0_broken 3 (some .int) :: ([.classLink RX0 46 "java/lang/IllegalArgumentException", .initialized "java/lang/IllegalArgumentException", .fieldLink RX0 31 "GuestChairs" "guestCount" "I", .fieldLink RX0 51 "GuestChairs" "ruleCount" "I", .fieldLink RX0 60 "GuestChairs" "inForce" "I", .fieldLink RX0 9 "GuestChairs" "firsts" "[I", .fieldLink RX0 13 "GuestChairs" "seconds" "[I", .methodLink RX0 67 yX0_has, .static yX0_has, .initialized RX0, .code yX0_has cX0_has 2 (some .boolean), .methodLink RX0 74 yX0_at, .static yX0_at, .code yX0_at cX0_at 2 (some .int), .methodLink RX0 132 yX0_holds, .static yX0_holds, .code yX0_holds cX0_holds 3 (some .boolean)] ++ wsX00 ++ (vx_atS RX0 50 "java/lang/IllegalArgumentException" ["java/lang/RuntimeException", "java/lang/Exception"]).filter goodWord)
def wsX0_fitsWithout_r1 : List Cond := [Cond.fieldLink RX0 22 "GuestChairs" "trial" "[I", Cond.methodLink RX0 178 yX0_linkAllBut, Cond.instanceMethod yX0_linkAllBut, Cond.selects RX0 yX0_linkAllBut yX0_linkAllBut, Cond.initialized RX0, Cond.code yX0_linkAllBut cX0_linkAllBut 6 none, Cond.fieldLink RX0 51 "GuestChairs" "ruleCount" "I", Cond.fieldLink RX0 60 "GuestChairs" "inForce" "I", Cond.fieldLink RX0 9 "GuestChairs" "firsts" "[I", Cond.fieldLink RX0 13 "GuestChairs" "seconds" "[I", Cond.methodLink RX0 67 yX0_has, Cond.static yX0_has, Cond.code yX0_has cX0_has 2 (some .boolean), Cond.methodLink RX0 74 yX0_at, Cond.static yX0_at, Cond.code yX0_at cX0_at 2 (some .int), Cond.methodLink RX0 189 yX0_link, Cond.static yX0_link, Cond.code yX0_link cX0_link 3 none, Cond.methodLink RX0 56 yX0_put, Cond.static yX0_put, Cond.code yX0_put cX0_put 3 none, Cond.methodLink RX0 93 yX0_against, Cond.static yX0_against]
def wsX0_fitsWithout_r2 : List Cond := [Cond.code yX0_against cX0_against 1 (some .int), Cond.methodLink RX0 182 yX0_close, Cond.static yX0_close, Cond.code yX0_close cX0_close 3 none, Cond.methodLink RX0 111 yX0_countTorn, Cond.instanceMethod yX0_countTorn, Cond.selects RX0 yX0_countTorn yX0_countTorn, Cond.code yX0_countTorn cX0_countTorn 4 (some .int), Cond.fieldLink RX0 31 "GuestChairs" "guestCount" "I", Cond.methodLink RX0 100 yX0_isTorn, Cond.static yX0_isTorn, Cond.code yX0_isTorn cX0_isTorn 2 (some .boolean), Cond.methodLink RX0 96 yX0_isVain, Cond.static yX0_isVain, Cond.code yX0_isVain cX0_isVain 2 (some .boolean), Cond.methodLink RX0 78 yX0_oneIf, Cond.static yX0_oneIf, Cond.code yX0_oneIf cX0_oneIf 1 (some .int)]
def wsX0_fitsWithout : List Cond := .code yX0_fitsWithout cX0_fitsWithout 2 (some .boolean) :: ((wsX0_fitsWithout_r1 ++ wsX0_fitsWithout_r2) ++ wsX00)
def wsX0_blame_r1 : List Cond := [Cond.fieldLink RX0 51 "GuestChairs" "ruleCount" "I", Cond.fieldLink RX0 60 "GuestChairs" "inForce" "I", Cond.methodLink RX0 89 yX0_fits, Cond.instanceMethod yX0_fits, Cond.selects RX0 yX0_fits yX0_fits, Cond.initialized RX0, Cond.code yX0_fits cX0_fits 1 (some .boolean), Cond.fieldLink RX0 19 "GuestChairs" "closed" "[I", Cond.methodLink RX0 111 yX0_countTorn, Cond.instanceMethod yX0_countTorn, Cond.selects RX0 yX0_countTorn yX0_countTorn, Cond.code yX0_countTorn cX0_countTorn 4 (some .int), Cond.fieldLink RX0 31 "GuestChairs" "guestCount" "I", Cond.methodLink RX0 100 yX0_isTorn, Cond.static yX0_isTorn, Cond.code yX0_isTorn cX0_isTorn 2 (some .boolean), Cond.methodLink RX0 96 yX0_isVain, Cond.static yX0_isVain, Cond.code yX0_isVain cX0_isVain 2 (some .boolean), Cond.methodLink RX0 74 yX0_at, Cond.static yX0_at, Cond.code yX0_at cX0_at 2 (some .int), Cond.methodLink RX0 93 yX0_against, Cond.static yX0_against]
def wsX0_blame_r2 : List Cond := [Cond.code yX0_against cX0_against 1 (some .int), Cond.methodLink RX0 67 yX0_has, Cond.static yX0_has, Cond.code yX0_has cX0_has 2 (some .boolean), Cond.methodLink RX0 78 yX0_oneIf, Cond.static yX0_oneIf, Cond.code yX0_oneIf cX0_oneIf 1 (some .int), Cond.methodLink RX0 135 yX0_fitsWithout, Cond.instanceMethod yX0_fitsWithout, Cond.selects RX0 yX0_fitsWithout yX0_fitsWithout, Cond.code yX0_fitsWithout cX0_fitsWithout 2 (some .boolean), Cond.fieldLink RX0 22 "GuestChairs" "trial" "[I", Cond.methodLink RX0 178 yX0_linkAllBut, Cond.instanceMethod yX0_linkAllBut, Cond.selects RX0 yX0_linkAllBut yX0_linkAllBut, Cond.code yX0_linkAllBut cX0_linkAllBut 6 none, Cond.fieldLink RX0 9 "GuestChairs" "firsts" "[I", Cond.fieldLink RX0 13 "GuestChairs" "seconds" "[I", Cond.methodLink RX0 189 yX0_link, Cond.static yX0_link, Cond.code yX0_link cX0_link 3 none, Cond.methodLink RX0 56 yX0_put, Cond.static yX0_put, Cond.code yX0_put cX0_put 3 none]
def wsX0_blame_r3 : List Cond := [Cond.methodLink RX0 182 yX0_close, Cond.static yX0_close, Cond.code yX0_close cX0_close 3 none]
def wsX0_blame : List Cond := .code yX0_blame cX0_blame 2 (some .int) :: ((wsX0_blame_r1 ++ (wsX0_blame_r2 ++ wsX0_blame_r3)) ++ wsX00)
def wsX0_tightens : List Cond := .code yX0_tightens cX0_tightens 6 (some .int) :: ([.fieldLink RX0 115 "GuestChairs" "seatingCount" "I", .fieldLink RX0 25 "GuestChairs" "seated" "[I", .methodLink RX0 42 yX0_requireWishes, .instanceMethod yX0_requireWishes, .selects RX0 yX0_requireWishes yX0_requireWishes, .initialized RX0, .code yX0_requireWishes cX0_requireWishes 3 none, .classLink RX0 167 "java/lang/IndexOutOfBoundsException", .initialized "java/lang/IndexOutOfBoundsException", .methodLink RX0 158 yX0_wishCount, .instanceMethod yX0_wishCount, .selects RX0 yX0_wishCount yX0_wishCount, .code yX0_wishCount cX0_wishCount 1 (some .int), .fieldLink RX0 31 "GuestChairs" "guestCount" "I", .methodLink RX0 74 yX0_at, .static yX0_at, .code yX0_at cX0_at 2 (some .int), .methodLink RX0 67 yX0_has, .static yX0_has, .code yX0_has cX0_has 2 (some .boolean)] ++ wsX00 ++ (vx_atS RX0 171 "java/lang/IndexOutOfBoundsException" ["java/lang/RuntimeException", "java/lang/Exception"]).filter goodWord)
def wsX0_countVain : List Cond := .code yX0_countVain cX0_countVain 3 (some .int) :: ([.fieldLink RX0 19 "GuestChairs" "closed" "[I", .methodLink RX0 158 yX0_wishCount, .instanceMethod yX0_wishCount, .selects RX0 yX0_wishCount yX0_wishCount, .initialized RX0, .code yX0_wishCount cX0_wishCount 1 (some .int), .fieldLink RX0 31 "GuestChairs" "guestCount" "I", .methodLink RX0 96 yX0_isVain, .static yX0_isVain, .code yX0_isVain cX0_isVain 2 (some .boolean), .methodLink RX0 74 yX0_at, .static yX0_at, .code yX0_at cX0_at 2 (some .int), .methodLink RX0 93 yX0_against, .static yX0_against, .code yX0_against cX0_against 1 (some .int), .methodLink RX0 67 yX0_has, .static yX0_has, .code yX0_has cX0_has 2 (some .boolean), .methodLink RX0 78 yX0_oneIf, .static yX0_oneIf, .code yX0_oneIf cX0_oneIf 1 (some .int)] ++ wsX00)
def wsX0_countPairs : List Cond := .code yX0_countPairs cX0_countPairs 3 (some .int) :: ([.fieldLink RX0 19 "GuestChairs" "closed" "[I", .methodLink RX0 158 yX0_wishCount, .instanceMethod yX0_wishCount, .selects RX0 yX0_wishCount yX0_wishCount, .initialized RX0, .code yX0_wishCount cX0_wishCount 1 (some .int), .fieldLink RX0 31 "GuestChairs" "guestCount" "I", .methodLink RX0 74 yX0_at, .static yX0_at, .code yX0_at cX0_at 2 (some .int), .methodLink RX0 106 yJ6_bitCount_0f7a4, .static yJ6_bitCount_0f7a4, .initialized RJ6, .code yJ6_bitCount_0f7a4 cJ6_bitCount_0f7a4 1 (some .int), .constant RJ6 265 (1431655765), .constant RJ6 266 (858993459), .constant RJ6 267 (252645135)] ++ wsX00)
def wsX0_count_r1 : List Cond := [Cond.fieldLink RX0 31 "GuestChairs" "guestCount" "I", Cond.fieldLink RX0 51 "GuestChairs" "ruleCount" "I", Cond.fieldLink RX0 60 "GuestChairs" "inForce" "I", Cond.fieldLink RX0 19 "GuestChairs" "closed" "[I", Cond.methodLink RX0 71 yX0_requireFact, Cond.static yX0_requireFact, Cond.initialized RX0, Cond.code yX0_requireFact cX0_requireFact 2 none, Cond.classLink RX0 167 "java/lang/IndexOutOfBoundsException", Cond.initialized "java/lang/IndexOutOfBoundsException", Cond.methodLink RX0 106 yJ6_bitCount_0f7a4, Cond.static yJ6_bitCount_0f7a4, Cond.initialized RJ6, Cond.code yJ6_bitCount_0f7a4 cJ6_bitCount_0f7a4 1 (some .int), Cond.constant RJ6 265 (1431655765), Cond.constant RJ6 266 (858993459), Cond.constant RJ6 267 (252645135), Cond.methodLink RX0 111 yX0_countTorn, Cond.instanceMethod yX0_countTorn, Cond.selects RX0 yX0_countTorn yX0_countTorn, Cond.code yX0_countTorn cX0_countTorn 4 (some .int), Cond.methodLink RX0 100 yX0_isTorn, Cond.static yX0_isTorn, Cond.code yX0_isTorn cX0_isTorn 2 (some .boolean)]
def wsX0_count_r2 : List Cond := [Cond.methodLink RX0 96 yX0_isVain, Cond.static yX0_isVain, Cond.code yX0_isVain cX0_isVain 2 (some .boolean), Cond.methodLink RX0 74 yX0_at, Cond.static yX0_at, Cond.code yX0_at cX0_at 2 (some .int), Cond.methodLink RX0 93 yX0_against, Cond.static yX0_against, Cond.code yX0_against cX0_against 1 (some .int), Cond.methodLink RX0 67 yX0_has, Cond.static yX0_has, Cond.code yX0_has cX0_has 2 (some .boolean), Cond.methodLink RX0 78 yX0_oneIf, Cond.static yX0_oneIf, Cond.code yX0_oneIf cX0_oneIf 1 (some .int), Cond.methodLink RX0 139 yX0_countVain, Cond.instanceMethod yX0_countVain, Cond.selects RX0 yX0_countVain yX0_countVain, Cond.code yX0_countVain cX0_countVain 3 (some .int), Cond.methodLink RX0 158 yX0_wishCount, Cond.instanceMethod yX0_wishCount, Cond.selects RX0 yX0_wishCount yX0_wishCount, Cond.code yX0_wishCount cX0_wishCount 1 (some .int), Cond.methodLink RX0 143 yX0_countPairs]
def wsX0_count_r3 : List Cond := [Cond.instanceMethod yX0_countPairs, Cond.selects RX0 yX0_countPairs yX0_countPairs, Cond.code yX0_countPairs cX0_countPairs 3 (some .int)]
def wsX0_count : List Cond := .code yX0_count cX0_count 2 (some .int) :: ((wsX0_count_r1 ++ (wsX0_count_r2 ++ wsX0_count_r3)) ++ wsX00 ++ (vx_atS RX0 171 "java/lang/IndexOutOfBoundsException" ["java/lang/RuntimeException", "java/lang/Exception"]).filter goodWord)
def wsX0_mean : List Cond := .code yX0_mean cX0_mean 3 (some .double) :: ([.fieldLink RX0 115 "GuestChairs" "seatingCount" "I", .fieldLink RX0 25 "GuestChairs" "seated" "[I", .methodLink RX0 74 yX0_at, .static yX0_at, .initialized RX0, .code yX0_at cX0_at 2 (some .int), .methodLink RX0 121 yX0_countComing, .static yX0_countComing, .code yX0_countComing cX0_countComing 1 (some .int), .constant RX0 195 (349525), .methodLink RX0 106 yJ6_bitCount_0f7a4, .static yJ6_bitCount_0f7a4, .initialized RJ6, .code yJ6_bitCount_0f7a4 cJ6_bitCount_0f7a4 1 (some .int), .constant RJ6 265 (1431655765), .constant RJ6 266 (858993459), .constant RJ6 267 (252645135)] ++ wsX00)
def wsX0_mix : List Cond := .code yX0_mix cX0_mix 3 (some .long) :: ([.constantLong RX0 196 (31)])
def wsX0_digest_r1 : List Cond := [Cond.constantLong RX0 146 (1279), Cond.fieldLink RX0 51 "GuestChairs" "ruleCount" "I", Cond.fieldLink RX0 19 "GuestChairs" "closed" "[I", Cond.fieldLink RX0 31 "GuestChairs" "guestCount" "I", Cond.fieldLink RX0 115 "GuestChairs" "seatingCount" "I", Cond.methodLink RX0 148 yX0_count, Cond.instanceMethod yX0_count, Cond.selects RX0 yX0_count yX0_count, Cond.initialized RX0, Cond.code yX0_count cX0_count 2 (some .int), Cond.fieldLink RX0 60 "GuestChairs" "inForce" "I", Cond.methodLink RX0 71 yX0_requireFact, Cond.static yX0_requireFact, Cond.code yX0_requireFact cX0_requireFact 2 none, Cond.classLink RX0 167 "java/lang/IndexOutOfBoundsException", Cond.initialized "java/lang/IndexOutOfBoundsException", Cond.methodLink RX0 106 yJ6_bitCount_0f7a4, Cond.static yJ6_bitCount_0f7a4, Cond.initialized RJ6, Cond.code yJ6_bitCount_0f7a4 cJ6_bitCount_0f7a4 1 (some .int), Cond.constant RJ6 265 (1431655765), Cond.constant RJ6 266 (858993459), Cond.constant RJ6 267 (252645135), Cond.methodLink RX0 111 yX0_countTorn]
def wsX0_digest_r2 : List Cond := [Cond.instanceMethod yX0_countTorn, Cond.selects RX0 yX0_countTorn yX0_countTorn, Cond.code yX0_countTorn cX0_countTorn 4 (some .int), Cond.methodLink RX0 100 yX0_isTorn, Cond.static yX0_isTorn, Cond.code yX0_isTorn cX0_isTorn 2 (some .boolean), Cond.methodLink RX0 96 yX0_isVain, Cond.static yX0_isVain, Cond.code yX0_isVain cX0_isVain 2 (some .boolean), Cond.methodLink RX0 74 yX0_at, Cond.static yX0_at, Cond.code yX0_at cX0_at 2 (some .int), Cond.methodLink RX0 93 yX0_against, Cond.static yX0_against, Cond.code yX0_against cX0_against 1 (some .int), Cond.methodLink RX0 67 yX0_has, Cond.static yX0_has, Cond.code yX0_has cX0_has 2 (some .boolean), Cond.methodLink RX0 78 yX0_oneIf, Cond.static yX0_oneIf, Cond.code yX0_oneIf cX0_oneIf 1 (some .int), Cond.methodLink RX0 139 yX0_countVain, Cond.instanceMethod yX0_countVain, Cond.selects RX0 yX0_countVain yX0_countVain]
def wsX0_digest_r3 : List Cond := [Cond.code yX0_countVain cX0_countVain 3 (some .int), Cond.methodLink RX0 158 yX0_wishCount, Cond.instanceMethod yX0_wishCount, Cond.selects RX0 yX0_wishCount yX0_wishCount, Cond.code yX0_wishCount cX0_wishCount 1 (some .int), Cond.methodLink RX0 143 yX0_countPairs, Cond.instanceMethod yX0_countPairs, Cond.selects RX0 yX0_countPairs yX0_countPairs, Cond.code yX0_countPairs cX0_countPairs 3 (some .int), Cond.methodLink RX0 151 yX0_mix, Cond.static yX0_mix, Cond.code yX0_mix cX0_mix 3 (some .long), Cond.constantLong RX0 196 (31), Cond.methodLink RX0 155 yX0_told, Cond.instanceMethod yX0_told, Cond.selects RX0 yX0_told yX0_told, Cond.code yX0_told cX0_told 3 (some .int), Cond.fieldLink RX0 9 "GuestChairs" "firsts" "[I", Cond.fieldLink RX0 13 "GuestChairs" "seconds" "[I", Cond.methodLink RX0 63 yX0_requireRule, Cond.instanceMethod yX0_requireRule, Cond.selects RX0 yX0_requireRule yX0_requireRule, Cond.code yX0_requireRule cX0_requireRule 2 none, Cond.methodLink RX0 161 yX0_guest]
def wsX0_digest_r4 : List Cond := [Cond.instanceMethod yX0_guest, Cond.selects RX0 yX0_guest yX0_guest, Cond.code yX0_guest cX0_guest 4 (some .int), Cond.methodLink RX0 86 yX0_requireGuest, Cond.instanceMethod yX0_requireGuest, Cond.selects RX0 yX0_requireGuest yX0_requireGuest, Cond.code yX0_requireGuest cX0_requireGuest 2 none, Cond.methodLink RX0 89 yX0_fits, Cond.instanceMethod yX0_fits, Cond.selects RX0 yX0_fits yX0_fits, Cond.code yX0_fits cX0_fits 1 (some .boolean), Cond.methodLink RX0 103 yX0_guestsBoundTo, Cond.instanceMethod yX0_guestsBoundTo, Cond.selects RX0 yX0_guestsBoundTo yX0_guestsBoundTo, Cond.code yX0_guestsBoundTo cX0_guestsBoundTo 4 (some .int), Cond.methodLink RX0 164 yX0_seat, Cond.instanceMethod yX0_seat, Cond.selects RX0 yX0_seat yX0_seat, Cond.code yX0_seat cX0_seat 1 (some .int), Cond.fieldLink RX0 25 "GuestChairs" "seated" "[I", Cond.methodLink RX0 118 yX0_guestsComing, Cond.instanceMethod yX0_guestsComing, Cond.selects RX0 yX0_guestsComing yX0_guestsComing, Cond.code yX0_guestsComing cX0_guestsComing 4 (some .int)]
def wsX0_digest : List Cond := .code yX0_digest cX0_digest 5 (some .long) :: ((wsX0_digest_r1 ++ (wsX0_digest_r2 ++ (wsX0_digest_r3 ++ wsX0_digest_r4))) ++ wsX00 ++ (vx_atS RX0 171 "java/lang/IndexOutOfBoundsException" ["java/lang/RuntimeException", "java/lang/Exception"]).filter goodWord)
def wsX1_init : List Cond := .code yX1_init cX1_init 1 none :: ([.methodLink RX1 1 objectInit, .instanceMethod objectInit, .code objectInit ⟨#[0xb1]⟩ 1 none, .arrayClass .int, .fieldLink RX1 9 "GuestChairsModel" "firsts" "[I", .fieldLink RX1 13 "GuestChairsModel" "seconds" "[I", .arrayClass .boolean, .fieldLink RX1 16 "GuestChairsModel" "off" "[Z", .fieldLink RX1 20 "GuestChairsModel" "asIfFirst" "I", .fieldLink RX1 24 "GuestChairsModel" "asIfSecond" "I", .fieldLink RX1 27 "GuestChairsModel" "row" "[I", .fieldLink RX1 30 "GuestChairsModel" "far" "[I"] ++ wsX10)
def wsX1_thrown : List Cond := .code yX1_thrown cX1_thrown 1 (some .int) :: ([.fieldLink RX1 33 "GuestChairsModel" "thrown" "I"] ++ wsX10)
def wsX1_fail : List Cond := .code yX1_fail cX1_fail 2 (some .int) :: ([.fieldLink RX1 33 "GuestChairsModel" "thrown" "I"] ++ wsX10)
def wsX1_isIn : List Cond := .code yX1_isIn cX1_isIn 3 (some .boolean) :: ([])
def wsX1_isWish : List Cond := .code yX1_isWish cX1_isWish 2 (some .boolean) :: ([.fieldLink RX1 36 "GuestChairsModel" "guests" "I", .methodLink RX1 39 yX1_isIn, .static yX1_isIn, .initialized RX1, .code yX1_isIn cX1_isIn 3 (some .boolean)] ++ wsX10)
def wsX1_against : List Cond := .code yX1_against cX1_against 1 (some .int) :: ([])
def wsX1_invite : List Cond := .code yX1_invite cX1_invite 1 (some .int) :: ([.fieldLink RX1 33 "GuestChairsModel" "thrown" "I", .fieldLink RX1 36 "GuestChairsModel" "guests" "I", .methodLink RX1 43 yX1_fail, .instanceMethod yX1_fail, .selects RX1 yX1_fail yX1_fail, .initialized RX1, .code yX1_fail cX1_fail 2 (some .int)] ++ wsX10)
def wsX1_rule : List Cond := .code yX1_rule cX1_rule 3 (some .int) :: ([.fieldLink RX1 33 "GuestChairsModel" "thrown" "I", .fieldLink RX1 51 "GuestChairsModel" "rules" "I", .fieldLink RX1 9 "GuestChairsModel" "firsts" "[I", .fieldLink RX1 13 "GuestChairsModel" "seconds" "[I", .methodLink RX1 47 yX1_isWish, .instanceMethod yX1_isWish, .selects RX1 yX1_isWish yX1_isWish, .initialized RX1, .code yX1_isWish cX1_isWish 2 (some .boolean), .fieldLink RX1 36 "GuestChairsModel" "guests" "I", .methodLink RX1 39 yX1_isIn, .static yX1_isIn, .code yX1_isIn cX1_isIn 3 (some .boolean), .methodLink RX1 43 yX1_fail, .instanceMethod yX1_fail, .selects RX1 yX1_fail yX1_fail, .code yX1_fail cX1_fail 2 (some .int)] ++ wsX10)
def wsX1_turn : List Cond := .code yX1_turn cX1_turn 2 (some .boolean) :: ([.fieldLink RX1 51 "GuestChairsModel" "rules" "I", .fieldLink RX1 33 "GuestChairsModel" "thrown" "I", .fieldLink RX1 16 "GuestChairsModel" "off" "[Z", .methodLink RX1 39 yX1_isIn, .static yX1_isIn, .initialized RX1, .code yX1_isIn cX1_isIn 3 (some .boolean)] ++ wsX10)
def wsX1_ruleTold : List Cond := .code yX1_ruleTold cX1_ruleTold 3 (some .int) :: ([.fieldLink RX1 9 "GuestChairsModel" "firsts" "[I", .fieldLink RX1 13 "GuestChairsModel" "seconds" "[I", .fieldLink RX1 16 "GuestChairsModel" "off" "[Z"] ++ wsX10)
def wsX1_told : List Cond := .code yX1_told cX1_told 3 (some .int) :: ([.fieldLink RX1 33 "GuestChairsModel" "thrown" "I", .fieldLink RX1 51 "GuestChairsModel" "rules" "I", .methodLink RX1 39 yX1_isIn, .static yX1_isIn, .initialized RX1, .code yX1_isIn cX1_isIn 3 (some .boolean), .methodLink RX1 54 yX1_ruleTold, .instanceMethod yX1_ruleTold, .selects RX1 yX1_ruleTold yX1_ruleTold, .code yX1_ruleTold cX1_ruleTold 3 (some .int), .fieldLink RX1 9 "GuestChairsModel" "firsts" "[I", .fieldLink RX1 13 "GuestChairsModel" "seconds" "[I", .fieldLink RX1 16 "GuestChairsModel" "off" "[Z", .methodLink RX1 43 yX1_fail, .instanceMethod yX1_fail, .selects RX1 yX1_fail yX1_fail, .code yX1_fail cX1_fail 2 (some .int)] ++ wsX10)
def wsX1_put : List Cond := .code yX1_put cX1_put 4 (some .int) :: ([.fieldLink RX1 30 "GuestChairsModel" "far" "[I", .fieldLink RX1 27 "GuestChairsModel" "row" "[I"] ++ wsX10)
def wsX1_spread : List Cond := .code yX1_spread cX1_spread 6 (some .int) :: ([.fieldLink RX1 30 "GuestChairsModel" "far" "[I", .fieldLink RX1 27 "GuestChairsModel" "row" "[I", .fieldLink RX1 51 "GuestChairsModel" "rules" "I", .fieldLink RX1 16 "GuestChairsModel" "off" "[Z", .fieldLink RX1 9 "GuestChairsModel" "firsts" "[I", .fieldLink RX1 13 "GuestChairsModel" "seconds" "[I", .methodLink RX1 58 yX1_put, .instanceMethod yX1_put, .selects RX1 yX1_put yX1_put, .initialized RX1, .code yX1_put cX1_put 4 (some .int), .methodLink RX1 62 yX1_against, .static yX1_against, .code yX1_against cX1_against 1 (some .int)] ++ wsX10)
def wsX1_leads : List Cond := .code yX1_leads cX1_leads 3 (some .boolean) :: ([.fieldLink RX1 30 "GuestChairsModel" "far" "[I", .methodLink RX1 65 yX1_spread, .instanceMethod yX1_spread, .selects RX1 yX1_spread yX1_spread, .initialized RX1, .code yX1_spread cX1_spread 6 (some .int), .fieldLink RX1 27 "GuestChairsModel" "row" "[I", .fieldLink RX1 51 "GuestChairsModel" "rules" "I", .fieldLink RX1 16 "GuestChairsModel" "off" "[Z", .fieldLink RX1 9 "GuestChairsModel" "firsts" "[I", .fieldLink RX1 13 "GuestChairsModel" "seconds" "[I", .methodLink RX1 58 yX1_put, .instanceMethod yX1_put, .selects RX1 yX1_put yX1_put, .code yX1_put cX1_put 4 (some .int), .methodLink RX1 62 yX1_against, .static yX1_against, .code yX1_against cX1_against 1 (some .int)] ++ wsX10)
def wsX1_follows_r1 : List Cond := [Cond.fieldLink RX1 33 "GuestChairsModel" "thrown" "I", Cond.methodLink RX1 47 yX1_isWish, Cond.instanceMethod yX1_isWish, Cond.selects RX1 yX1_isWish yX1_isWish, Cond.initialized RX1, Cond.code yX1_isWish cX1_isWish 2 (some .boolean), Cond.fieldLink RX1 36 "GuestChairsModel" "guests" "I", Cond.methodLink RX1 39 yX1_isIn, Cond.static yX1_isIn, Cond.code yX1_isIn cX1_isIn 3 (some .boolean), Cond.methodLink RX1 68 yX1_leads, Cond.instanceMethod yX1_leads, Cond.selects RX1 yX1_leads yX1_leads, Cond.code yX1_leads cX1_leads 3 (some .boolean), Cond.fieldLink RX1 30 "GuestChairsModel" "far" "[I", Cond.methodLink RX1 65 yX1_spread, Cond.instanceMethod yX1_spread, Cond.selects RX1 yX1_spread yX1_spread, Cond.code yX1_spread cX1_spread 6 (some .int), Cond.fieldLink RX1 27 "GuestChairsModel" "row" "[I", Cond.fieldLink RX1 51 "GuestChairsModel" "rules" "I", Cond.fieldLink RX1 16 "GuestChairsModel" "off" "[Z", Cond.fieldLink RX1 9 "GuestChairsModel" "firsts" "[I", Cond.fieldLink RX1 13 "GuestChairsModel" "seconds" "[I"]
def wsX1_follows_r2 : List Cond := [Cond.methodLink RX1 58 yX1_put, Cond.instanceMethod yX1_put, Cond.selects RX1 yX1_put yX1_put, Cond.code yX1_put cX1_put 4 (some .int), Cond.methodLink RX1 62 yX1_against, Cond.static yX1_against, Cond.code yX1_against cX1_against 1 (some .int)]
def wsX1_follows : List Cond := .code yX1_follows cX1_follows 3 (some .boolean) :: ((wsX1_follows_r1 ++ wsX1_follows_r2) ++ wsX10)
def wsX1_reachOf : List Cond := .code yX1_reachOf cX1_reachOf 4 (some .int) :: ([.fieldLink RX1 36 "GuestChairsModel" "guests" "I", .fieldLink RX1 30 "GuestChairsModel" "far" "[I", .methodLink RX1 65 yX1_spread, .instanceMethod yX1_spread, .selects RX1 yX1_spread yX1_spread, .initialized RX1, .code yX1_spread cX1_spread 6 (some .int), .fieldLink RX1 27 "GuestChairsModel" "row" "[I", .fieldLink RX1 51 "GuestChairsModel" "rules" "I", .fieldLink RX1 16 "GuestChairsModel" "off" "[Z", .fieldLink RX1 9 "GuestChairsModel" "firsts" "[I", .fieldLink RX1 13 "GuestChairsModel" "seconds" "[I", .methodLink RX1 58 yX1_put, .instanceMethod yX1_put, .selects RX1 yX1_put yX1_put, .code yX1_put cX1_put 4 (some .int), .methodLink RX1 62 yX1_against, .static yX1_against, .code yX1_against cX1_against 1 (some .int)] ++ wsX10)
def wsX1_reach_r1 : List Cond := [Cond.fieldLink RX1 33 "GuestChairsModel" "thrown" "I", Cond.methodLink RX1 47 yX1_isWish, Cond.instanceMethod yX1_isWish, Cond.selects RX1 yX1_isWish yX1_isWish, Cond.initialized RX1, Cond.code yX1_isWish cX1_isWish 2 (some .boolean), Cond.fieldLink RX1 36 "GuestChairsModel" "guests" "I", Cond.methodLink RX1 39 yX1_isIn, Cond.static yX1_isIn, Cond.code yX1_isIn cX1_isIn 3 (some .boolean), Cond.methodLink RX1 72 yX1_reachOf, Cond.instanceMethod yX1_reachOf, Cond.selects RX1 yX1_reachOf yX1_reachOf, Cond.code yX1_reachOf cX1_reachOf 4 (some .int), Cond.fieldLink RX1 30 "GuestChairsModel" "far" "[I", Cond.methodLink RX1 65 yX1_spread, Cond.instanceMethod yX1_spread, Cond.selects RX1 yX1_spread yX1_spread, Cond.code yX1_spread cX1_spread 6 (some .int), Cond.fieldLink RX1 27 "GuestChairsModel" "row" "[I", Cond.fieldLink RX1 51 "GuestChairsModel" "rules" "I", Cond.fieldLink RX1 16 "GuestChairsModel" "off" "[Z", Cond.fieldLink RX1 9 "GuestChairsModel" "firsts" "[I", Cond.fieldLink RX1 13 "GuestChairsModel" "seconds" "[I"]
def wsX1_reach_r2 : List Cond := [Cond.methodLink RX1 58 yX1_put, Cond.instanceMethod yX1_put, Cond.selects RX1 yX1_put yX1_put, Cond.code yX1_put cX1_put 4 (some .int), Cond.methodLink RX1 62 yX1_against, Cond.static yX1_against, Cond.code yX1_against cX1_against 1 (some .int), Cond.methodLink RX1 43 yX1_fail, Cond.instanceMethod yX1_fail, Cond.selects RX1 yX1_fail yX1_fail, Cond.code yX1_fail cX1_fail 2 (some .int)]
def wsX1_reach : List Cond := .code yX1_reach cX1_reach 2 (some .int) :: ((wsX1_reach_r1 ++ wsX1_reach_r2) ++ wsX10)
def wsX1_steps_r1 : List Cond := [Cond.fieldLink RX1 33 "GuestChairsModel" "thrown" "I", Cond.fieldLink RX1 30 "GuestChairsModel" "far" "[I", Cond.methodLink RX1 47 yX1_isWish, Cond.instanceMethod yX1_isWish, Cond.selects RX1 yX1_isWish yX1_isWish, Cond.initialized RX1, Cond.code yX1_isWish cX1_isWish 2 (some .boolean), Cond.fieldLink RX1 36 "GuestChairsModel" "guests" "I", Cond.methodLink RX1 39 yX1_isIn, Cond.static yX1_isIn, Cond.code yX1_isIn cX1_isIn 3 (some .boolean), Cond.methodLink RX1 43 yX1_fail, Cond.instanceMethod yX1_fail, Cond.selects RX1 yX1_fail yX1_fail, Cond.code yX1_fail cX1_fail 2 (some .int), Cond.methodLink RX1 65 yX1_spread, Cond.instanceMethod yX1_spread, Cond.selects RX1 yX1_spread yX1_spread, Cond.code yX1_spread cX1_spread 6 (some .int), Cond.fieldLink RX1 27 "GuestChairsModel" "row" "[I", Cond.fieldLink RX1 51 "GuestChairsModel" "rules" "I", Cond.fieldLink RX1 16 "GuestChairsModel" "off" "[Z", Cond.fieldLink RX1 9 "GuestChairsModel" "firsts" "[I", Cond.fieldLink RX1 13 "GuestChairsModel" "seconds" "[I"]
def wsX1_steps_r2 : List Cond := [Cond.methodLink RX1 58 yX1_put, Cond.instanceMethod yX1_put, Cond.selects RX1 yX1_put yX1_put, Cond.code yX1_put cX1_put 4 (some .int), Cond.methodLink RX1 62 yX1_against, Cond.static yX1_against, Cond.code yX1_against cX1_against 1 (some .int)]
def wsX1_steps : List Cond := .code yX1_steps cX1_steps 3 (some .int) :: ((wsX1_steps_r1 ++ wsX1_steps_r2) ++ wsX10)
def wsX1_isVain : List Cond := .code yX1_isVain cX1_isVain 2 (some .boolean) :: ([.methodLink RX1 62 yX1_against, .static yX1_against, .initialized RX1, .code yX1_against cX1_against 1 (some .int), .methodLink RX1 68 yX1_leads, .instanceMethod yX1_leads, .selects RX1 yX1_leads yX1_leads, .code yX1_leads cX1_leads 3 (some .boolean), .fieldLink RX1 30 "GuestChairsModel" "far" "[I", .methodLink RX1 65 yX1_spread, .instanceMethod yX1_spread, .selects RX1 yX1_spread yX1_spread, .code yX1_spread cX1_spread 6 (some .int), .fieldLink RX1 27 "GuestChairsModel" "row" "[I", .fieldLink RX1 51 "GuestChairsModel" "rules" "I", .fieldLink RX1 16 "GuestChairsModel" "off" "[Z", .fieldLink RX1 9 "GuestChairsModel" "firsts" "[I", .fieldLink RX1 13 "GuestChairsModel" "seconds" "[I", .methodLink RX1 58 yX1_put, .instanceMethod yX1_put, .selects RX1 yX1_put yX1_put, .code yX1_put cX1_put 4 (some .int)] ++ wsX10)
def wsX1_isTorn_r1 : List Cond := [Cond.methodLink RX1 75 yX1_isVain, Cond.instanceMethod yX1_isVain, Cond.selects RX1 yX1_isVain yX1_isVain, Cond.initialized RX1, Cond.code yX1_isVain cX1_isVain 2 (some .boolean), Cond.methodLink RX1 62 yX1_against, Cond.static yX1_against, Cond.code yX1_against cX1_against 1 (some .int), Cond.methodLink RX1 68 yX1_leads, Cond.instanceMethod yX1_leads, Cond.selects RX1 yX1_leads yX1_leads, Cond.code yX1_leads cX1_leads 3 (some .boolean), Cond.fieldLink RX1 30 "GuestChairsModel" "far" "[I", Cond.methodLink RX1 65 yX1_spread, Cond.instanceMethod yX1_spread, Cond.selects RX1 yX1_spread yX1_spread, Cond.code yX1_spread cX1_spread 6 (some .int), Cond.fieldLink RX1 27 "GuestChairsModel" "row" "[I", Cond.fieldLink RX1 51 "GuestChairsModel" "rules" "I", Cond.fieldLink RX1 16 "GuestChairsModel" "off" "[Z", Cond.fieldLink RX1 9 "GuestChairsModel" "firsts" "[I", Cond.fieldLink RX1 13 "GuestChairsModel" "seconds" "[I", Cond.methodLink RX1 58 yX1_put, Cond.instanceMethod yX1_put]
def wsX1_isTorn_r2 : List Cond := [Cond.selects RX1 yX1_put yX1_put, Cond.code yX1_put cX1_put 4 (some .int)]
def wsX1_isTorn : List Cond := .code yX1_isTorn cX1_isTorn 2 (some .boolean) :: ((wsX1_isTorn_r1 ++ wsX1_isTorn_r2) ++ wsX10)
def wsX1_holds : List Cond := .code yX1_holds cX1_holds 2 (some .boolean) :: ([])
def wsX1_brokenBy : List Cond := .code yX1_brokenBy cX1_brokenBy 3 (some .int) :: ([.fieldLink RX1 51 "GuestChairsModel" "rules" "I", .fieldLink RX1 16 "GuestChairsModel" "off" "[Z", .fieldLink RX1 9 "GuestChairsModel" "firsts" "[I", .fieldLink RX1 13 "GuestChairsModel" "seconds" "[I", .fieldLink RX1 20 "GuestChairsModel" "asIfFirst" "I", .fieldLink RX1 24 "GuestChairsModel" "asIfSecond" "I", .methodLink RX1 78 yX1_holds, .static yX1_holds, .initialized RX1, .code yX1_holds cX1_holds 2 (some .boolean)] ++ wsX10)
def wsX1_seatingsWith : List Cond := .code yX1_seatingsWith cX1_seatingsWith 5 (some .int) :: ([.fieldLink RX1 36 "GuestChairsModel" "guests" "I", .methodLink RX1 81 yX1_brokenBy, .instanceMethod yX1_brokenBy, .selects RX1 yX1_brokenBy yX1_brokenBy, .initialized RX1, .code yX1_brokenBy cX1_brokenBy 3 (some .int), .fieldLink RX1 51 "GuestChairsModel" "rules" "I", .fieldLink RX1 16 "GuestChairsModel" "off" "[Z", .fieldLink RX1 9 "GuestChairsModel" "firsts" "[I", .fieldLink RX1 13 "GuestChairsModel" "seconds" "[I", .fieldLink RX1 20 "GuestChairsModel" "asIfFirst" "I", .fieldLink RX1 24 "GuestChairsModel" "asIfSecond" "I", .methodLink RX1 78 yX1_holds, .static yX1_holds, .code yX1_holds cX1_holds 2 (some .boolean)] ++ wsX10)
def wsX1_all : List Cond := .code yX1_all cX1_all 1 (some .int) :: ([.methodLink RX1 84 yX1_seatingsWith, .instanceMethod yX1_seatingsWith, .selects RX1 yX1_seatingsWith yX1_seatingsWith, .initialized RX1, .code yX1_seatingsWith cX1_seatingsWith 5 (some .int), .fieldLink RX1 36 "GuestChairsModel" "guests" "I", .methodLink RX1 81 yX1_brokenBy, .instanceMethod yX1_brokenBy, .selects RX1 yX1_brokenBy yX1_brokenBy, .code yX1_brokenBy cX1_brokenBy 3 (some .int), .fieldLink RX1 51 "GuestChairsModel" "rules" "I", .fieldLink RX1 16 "GuestChairsModel" "off" "[Z", .fieldLink RX1 9 "GuestChairsModel" "firsts" "[I", .fieldLink RX1 13 "GuestChairsModel" "seconds" "[I", .fieldLink RX1 20 "GuestChairsModel" "asIfFirst" "I", .fieldLink RX1 24 "GuestChairsModel" "asIfSecond" "I", .methodLink RX1 78 yX1_holds, .static yX1_holds, .code yX1_holds cX1_holds 2 (some .boolean)] ++ wsX10)
def wsX1_isForced : List Cond := .code yX1_isForced cX1_isForced 4 (some .boolean) :: ([.fieldLink RX1 36 "GuestChairsModel" "guests" "I", .methodLink RX1 87 yX1_all, .instanceMethod yX1_all, .selects RX1 yX1_all yX1_all, .initialized RX1, .code yX1_all cX1_all 1 (some .int), .methodLink RX1 84 yX1_seatingsWith, .instanceMethod yX1_seatingsWith, .selects RX1 yX1_seatingsWith yX1_seatingsWith, .code yX1_seatingsWith cX1_seatingsWith 5 (some .int), .methodLink RX1 81 yX1_brokenBy, .instanceMethod yX1_brokenBy, .selects RX1 yX1_brokenBy yX1_brokenBy, .code yX1_brokenBy cX1_brokenBy 3 (some .int), .fieldLink RX1 51 "GuestChairsModel" "rules" "I", .fieldLink RX1 16 "GuestChairsModel" "off" "[Z", .fieldLink RX1 9 "GuestChairsModel" "firsts" "[I", .fieldLink RX1 13 "GuestChairsModel" "seconds" "[I", .fieldLink RX1 20 "GuestChairsModel" "asIfFirst" "I", .fieldLink RX1 24 "GuestChairsModel" "asIfSecond" "I", .methodLink RX1 78 yX1_holds, .static yX1_holds, .code yX1_holds cX1_holds 2 (some .boolean)] ++ wsX10)
def wsX1_guestTold_r1 : List Cond := [Cond.fieldLink RX1 36 "GuestChairsModel" "guests" "I", Cond.methodLink RX1 91 yX1_isForced, Cond.instanceMethod yX1_isForced, Cond.selects RX1 yX1_isForced yX1_isForced, Cond.initialized RX1, Cond.code yX1_isForced cX1_isForced 4 (some .boolean), Cond.methodLink RX1 87 yX1_all, Cond.instanceMethod yX1_all, Cond.selects RX1 yX1_all yX1_all, Cond.code yX1_all cX1_all 1 (some .int), Cond.methodLink RX1 84 yX1_seatingsWith, Cond.instanceMethod yX1_seatingsWith, Cond.selects RX1 yX1_seatingsWith yX1_seatingsWith, Cond.code yX1_seatingsWith cX1_seatingsWith 5 (some .int), Cond.methodLink RX1 81 yX1_brokenBy, Cond.instanceMethod yX1_brokenBy, Cond.selects RX1 yX1_brokenBy yX1_brokenBy, Cond.code yX1_brokenBy cX1_brokenBy 3 (some .int), Cond.fieldLink RX1 51 "GuestChairsModel" "rules" "I", Cond.fieldLink RX1 16 "GuestChairsModel" "off" "[Z", Cond.fieldLink RX1 9 "GuestChairsModel" "firsts" "[I", Cond.fieldLink RX1 13 "GuestChairsModel" "seconds" "[I", Cond.fieldLink RX1 20 "GuestChairsModel" "asIfFirst" "I", Cond.fieldLink RX1 24 "GuestChairsModel" "asIfSecond" "I"]
def wsX1_guestTold_r2 : List Cond := [Cond.methodLink RX1 78 yX1_holds, Cond.static yX1_holds, Cond.code yX1_holds cX1_holds 2 (some .boolean), Cond.methodLink RX1 94 yX1_isTorn, Cond.instanceMethod yX1_isTorn, Cond.selects RX1 yX1_isTorn yX1_isTorn, Cond.code yX1_isTorn cX1_isTorn 2 (some .boolean), Cond.methodLink RX1 75 yX1_isVain, Cond.instanceMethod yX1_isVain, Cond.selects RX1 yX1_isVain yX1_isVain, Cond.code yX1_isVain cX1_isVain 2 (some .boolean), Cond.methodLink RX1 62 yX1_against, Cond.static yX1_against, Cond.code yX1_against cX1_against 1 (some .int), Cond.methodLink RX1 68 yX1_leads, Cond.instanceMethod yX1_leads, Cond.selects RX1 yX1_leads yX1_leads, Cond.code yX1_leads cX1_leads 3 (some .boolean), Cond.fieldLink RX1 30 "GuestChairsModel" "far" "[I", Cond.methodLink RX1 65 yX1_spread, Cond.instanceMethod yX1_spread, Cond.selects RX1 yX1_spread yX1_spread, Cond.code yX1_spread cX1_spread 6 (some .int), Cond.fieldLink RX1 27 "GuestChairsModel" "row" "[I"]
def wsX1_guestTold_r3 : List Cond := [Cond.methodLink RX1 58 yX1_put, Cond.instanceMethod yX1_put, Cond.selects RX1 yX1_put yX1_put, Cond.code yX1_put cX1_put 4 (some .int)]
def wsX1_guestTold : List Cond := .code yX1_guestTold cX1_guestTold 7 (some .int) :: ((wsX1_guestTold_r1 ++ (wsX1_guestTold_r2 ++ wsX1_guestTold_r3)) ++ wsX10)
def wsX1_guest_r1 : List Cond := [Cond.fieldLink RX1 33 "GuestChairsModel" "thrown" "I", Cond.fieldLink RX1 36 "GuestChairsModel" "guests" "I", Cond.methodLink RX1 39 yX1_isIn, Cond.static yX1_isIn, Cond.initialized RX1, Cond.code yX1_isIn cX1_isIn 3 (some .boolean), Cond.methodLink RX1 97 yX1_guestTold, Cond.instanceMethod yX1_guestTold, Cond.selects RX1 yX1_guestTold yX1_guestTold, Cond.code yX1_guestTold cX1_guestTold 7 (some .int), Cond.methodLink RX1 91 yX1_isForced, Cond.instanceMethod yX1_isForced, Cond.selects RX1 yX1_isForced yX1_isForced, Cond.code yX1_isForced cX1_isForced 4 (some .boolean), Cond.methodLink RX1 87 yX1_all, Cond.instanceMethod yX1_all, Cond.selects RX1 yX1_all yX1_all, Cond.code yX1_all cX1_all 1 (some .int), Cond.methodLink RX1 84 yX1_seatingsWith, Cond.instanceMethod yX1_seatingsWith, Cond.selects RX1 yX1_seatingsWith yX1_seatingsWith, Cond.code yX1_seatingsWith cX1_seatingsWith 5 (some .int), Cond.methodLink RX1 81 yX1_brokenBy, Cond.instanceMethod yX1_brokenBy]
def wsX1_guest_r2 : List Cond := [Cond.selects RX1 yX1_brokenBy yX1_brokenBy, Cond.code yX1_brokenBy cX1_brokenBy 3 (some .int), Cond.fieldLink RX1 51 "GuestChairsModel" "rules" "I", Cond.fieldLink RX1 16 "GuestChairsModel" "off" "[Z", Cond.fieldLink RX1 9 "GuestChairsModel" "firsts" "[I", Cond.fieldLink RX1 13 "GuestChairsModel" "seconds" "[I", Cond.fieldLink RX1 20 "GuestChairsModel" "asIfFirst" "I", Cond.fieldLink RX1 24 "GuestChairsModel" "asIfSecond" "I", Cond.methodLink RX1 78 yX1_holds, Cond.static yX1_holds, Cond.code yX1_holds cX1_holds 2 (some .boolean), Cond.methodLink RX1 94 yX1_isTorn, Cond.instanceMethod yX1_isTorn, Cond.selects RX1 yX1_isTorn yX1_isTorn, Cond.code yX1_isTorn cX1_isTorn 2 (some .boolean), Cond.methodLink RX1 75 yX1_isVain, Cond.instanceMethod yX1_isVain, Cond.selects RX1 yX1_isVain yX1_isVain, Cond.code yX1_isVain cX1_isVain 2 (some .boolean), Cond.methodLink RX1 62 yX1_against, Cond.static yX1_against, Cond.code yX1_against cX1_against 1 (some .int), Cond.methodLink RX1 68 yX1_leads, Cond.instanceMethod yX1_leads]
def wsX1_guest_r3 : List Cond := [Cond.selects RX1 yX1_leads yX1_leads, Cond.code yX1_leads cX1_leads 3 (some .boolean), Cond.fieldLink RX1 30 "GuestChairsModel" "far" "[I", Cond.methodLink RX1 65 yX1_spread, Cond.instanceMethod yX1_spread, Cond.selects RX1 yX1_spread yX1_spread, Cond.code yX1_spread cX1_spread 6 (some .int), Cond.fieldLink RX1 27 "GuestChairsModel" "row" "[I", Cond.methodLink RX1 58 yX1_put, Cond.instanceMethod yX1_put, Cond.selects RX1 yX1_put yX1_put, Cond.code yX1_put cX1_put 4 (some .int), Cond.methodLink RX1 43 yX1_fail, Cond.instanceMethod yX1_fail, Cond.selects RX1 yX1_fail yX1_fail, Cond.code yX1_fail cX1_fail 2 (some .int)]
def wsX1_guest : List Cond := .code yX1_guest cX1_guest 3 (some .int) :: ((wsX1_guest_r1 ++ (wsX1_guest_r2 ++ wsX1_guest_r3)) ++ wsX10)
def wsX1_fits : List Cond := .code yX1_fits cX1_fits 1 (some .boolean) :: ([.fieldLink RX1 33 "GuestChairsModel" "thrown" "I", .methodLink RX1 87 yX1_all, .instanceMethod yX1_all, .selects RX1 yX1_all yX1_all, .initialized RX1, .code yX1_all cX1_all 1 (some .int), .methodLink RX1 84 yX1_seatingsWith, .instanceMethod yX1_seatingsWith, .selects RX1 yX1_seatingsWith yX1_seatingsWith, .code yX1_seatingsWith cX1_seatingsWith 5 (some .int), .fieldLink RX1 36 "GuestChairsModel" "guests" "I", .methodLink RX1 81 yX1_brokenBy, .instanceMethod yX1_brokenBy, .selects RX1 yX1_brokenBy yX1_brokenBy, .code yX1_brokenBy cX1_brokenBy 3 (some .int), .fieldLink RX1 51 "GuestChairsModel" "rules" "I", .fieldLink RX1 16 "GuestChairsModel" "off" "[Z", .fieldLink RX1 9 "GuestChairsModel" "firsts" "[I", .fieldLink RX1 13 "GuestChairsModel" "seconds" "[I", .fieldLink RX1 20 "GuestChairsModel" "asIfFirst" "I", .fieldLink RX1 24 "GuestChairsModel" "asIfSecond" "I", .methodLink RX1 78 yX1_holds, .static yX1_holds, .code yX1_holds cX1_holds 2 (some .boolean)] ++ wsX10)
def wsX1_seated : List Cond := .code yX1_seated cX1_seated 3 (some .int) :: ([.fieldLink RX1 36 "GuestChairsModel" "guests" "I", .methodLink RX1 87 yX1_all, .instanceMethod yX1_all, .selects RX1 yX1_all yX1_all, .initialized RX1, .code yX1_all cX1_all 1 (some .int), .methodLink RX1 84 yX1_seatingsWith, .instanceMethod yX1_seatingsWith, .selects RX1 yX1_seatingsWith yX1_seatingsWith, .code yX1_seatingsWith cX1_seatingsWith 5 (some .int), .methodLink RX1 81 yX1_brokenBy, .instanceMethod yX1_brokenBy, .selects RX1 yX1_brokenBy yX1_brokenBy, .code yX1_brokenBy cX1_brokenBy 3 (some .int), .fieldLink RX1 51 "GuestChairsModel" "rules" "I", .fieldLink RX1 16 "GuestChairsModel" "off" "[Z", .fieldLink RX1 9 "GuestChairsModel" "firsts" "[I", .fieldLink RX1 13 "GuestChairsModel" "seconds" "[I", .fieldLink RX1 20 "GuestChairsModel" "asIfFirst" "I", .fieldLink RX1 24 "GuestChairsModel" "asIfSecond" "I", .methodLink RX1 78 yX1_holds, .static yX1_holds, .code yX1_holds cX1_holds 2 (some .boolean)] ++ wsX10)
def wsX1_seat_r1 : List Cond := [Cond.fieldLink RX1 33 "GuestChairsModel" "thrown" "I", Cond.methodLink RX1 100 yX1_seated, Cond.instanceMethod yX1_seated, Cond.selects RX1 yX1_seated yX1_seated, Cond.initialized RX1, Cond.code yX1_seated cX1_seated 3 (some .int), Cond.fieldLink RX1 36 "GuestChairsModel" "guests" "I", Cond.methodLink RX1 87 yX1_all, Cond.instanceMethod yX1_all, Cond.selects RX1 yX1_all yX1_all, Cond.code yX1_all cX1_all 1 (some .int), Cond.methodLink RX1 84 yX1_seatingsWith, Cond.instanceMethod yX1_seatingsWith, Cond.selects RX1 yX1_seatingsWith yX1_seatingsWith, Cond.code yX1_seatingsWith cX1_seatingsWith 5 (some .int), Cond.methodLink RX1 81 yX1_brokenBy, Cond.instanceMethod yX1_brokenBy, Cond.selects RX1 yX1_brokenBy yX1_brokenBy, Cond.code yX1_brokenBy cX1_brokenBy 3 (some .int), Cond.fieldLink RX1 51 "GuestChairsModel" "rules" "I", Cond.fieldLink RX1 16 "GuestChairsModel" "off" "[Z", Cond.fieldLink RX1 9 "GuestChairsModel" "firsts" "[I", Cond.fieldLink RX1 13 "GuestChairsModel" "seconds" "[I", Cond.fieldLink RX1 20 "GuestChairsModel" "asIfFirst" "I"]
def wsX1_seat_r2 : List Cond := [Cond.fieldLink RX1 24 "GuestChairsModel" "asIfSecond" "I", Cond.methodLink RX1 78 yX1_holds, Cond.static yX1_holds, Cond.code yX1_holds cX1_holds 2 (some .boolean)]
def wsX1_seat : List Cond := .code yX1_seat cX1_seat 1 (some .int) :: ((wsX1_seat_r1 ++ wsX1_seat_r2) ++ wsX10)
def wsX1_seatings : List Cond := .code yX1_seatings cX1_seatings 1 (some .int) :: ([.fieldLink RX1 33 "GuestChairsModel" "thrown" "I", .methodLink RX1 87 yX1_all, .instanceMethod yX1_all, .selects RX1 yX1_all yX1_all, .initialized RX1, .code yX1_all cX1_all 1 (some .int), .methodLink RX1 84 yX1_seatingsWith, .instanceMethod yX1_seatingsWith, .selects RX1 yX1_seatingsWith yX1_seatingsWith, .code yX1_seatingsWith cX1_seatingsWith 5 (some .int), .fieldLink RX1 36 "GuestChairsModel" "guests" "I", .methodLink RX1 81 yX1_brokenBy, .instanceMethod yX1_brokenBy, .selects RX1 yX1_brokenBy yX1_brokenBy, .code yX1_brokenBy cX1_brokenBy 3 (some .int), .fieldLink RX1 51 "GuestChairsModel" "rules" "I", .fieldLink RX1 16 "GuestChairsModel" "off" "[Z", .fieldLink RX1 9 "GuestChairsModel" "firsts" "[I", .fieldLink RX1 13 "GuestChairsModel" "seconds" "[I", .fieldLink RX1 20 "GuestChairsModel" "asIfFirst" "I", .fieldLink RX1 24 "GuestChairsModel" "asIfSecond" "I", .methodLink RX1 78 yX1_holds, .static yX1_holds, .code yX1_holds cX1_holds 2 (some .boolean)] ++ wsX10)
def wsX1_size : List Cond := .code yX1_size cX1_size 3 (some .int) :: ([])
def wsX1_fewest : List Cond := .code yX1_fewest cX1_fewest 3 (some .int) :: ([.fieldLink RX1 33 "GuestChairsModel" "thrown" "I", .fieldLink RX1 36 "GuestChairsModel" "guests" "I", .methodLink RX1 81 yX1_brokenBy, .instanceMethod yX1_brokenBy, .selects RX1 yX1_brokenBy yX1_brokenBy, .initialized RX1, .code yX1_brokenBy cX1_brokenBy 3 (some .int), .fieldLink RX1 51 "GuestChairsModel" "rules" "I", .fieldLink RX1 16 "GuestChairsModel" "off" "[Z", .fieldLink RX1 9 "GuestChairsModel" "firsts" "[I", .fieldLink RX1 13 "GuestChairsModel" "seconds" "[I", .fieldLink RX1 20 "GuestChairsModel" "asIfFirst" "I", .fieldLink RX1 24 "GuestChairsModel" "asIfSecond" "I", .methodLink RX1 78 yX1_holds, .static yX1_holds, .code yX1_holds cX1_holds 2 (some .boolean), .methodLink RX1 103 yX1_size, .static yX1_size, .code yX1_size cX1_size 3 (some .int)] ++ wsX10)
def wsX1_most : List Cond := .code yX1_most cX1_most 3 (some .int) :: ([.fieldLink RX1 33 "GuestChairsModel" "thrown" "I", .fieldLink RX1 36 "GuestChairsModel" "guests" "I", .methodLink RX1 106 Lib.Math.max.name, .static Lib.Math.max.name, .initialized "java/lang/Math", .code Lib.Math.max.name Lib.Math.max.code 2 (some .int), .methodLink RX1 81 yX1_brokenBy, .instanceMethod yX1_brokenBy, .selects RX1 yX1_brokenBy yX1_brokenBy, .initialized RX1, .code yX1_brokenBy cX1_brokenBy 3 (some .int), .fieldLink RX1 51 "GuestChairsModel" "rules" "I", .fieldLink RX1 16 "GuestChairsModel" "off" "[Z", .fieldLink RX1 9 "GuestChairsModel" "firsts" "[I", .fieldLink RX1 13 "GuestChairsModel" "seconds" "[I", .fieldLink RX1 20 "GuestChairsModel" "asIfFirst" "I", .fieldLink RX1 24 "GuestChairsModel" "asIfSecond" "I", .methodLink RX1 78 yX1_holds, .static yX1_holds, .code yX1_holds cX1_holds 2 (some .boolean), .methodLink RX1 103 yX1_size, .static yX1_size, .code yX1_size cX1_size 3 (some .int)] ++ wsX10)
def wsX1_broken : List Cond := .code yX1_broken cX1_broken 2 (some .int) :: ([.fieldLink RX1 33 "GuestChairsModel" "thrown" "I", .fieldLink RX1 36 "GuestChairsModel" "guests" "I", .methodLink RX1 39 yX1_isIn, .static yX1_isIn, .initialized RX1, .code yX1_isIn cX1_isIn 3 (some .boolean), .methodLink RX1 81 yX1_brokenBy, .instanceMethod yX1_brokenBy, .selects RX1 yX1_brokenBy yX1_brokenBy, .code yX1_brokenBy cX1_brokenBy 3 (some .int), .fieldLink RX1 51 "GuestChairsModel" "rules" "I", .fieldLink RX1 16 "GuestChairsModel" "off" "[Z", .fieldLink RX1 9 "GuestChairsModel" "firsts" "[I", .fieldLink RX1 13 "GuestChairsModel" "seconds" "[I", .fieldLink RX1 20 "GuestChairsModel" "asIfFirst" "I", .fieldLink RX1 24 "GuestChairsModel" "asIfSecond" "I", .methodLink RX1 78 yX1_holds, .static yX1_holds, .code yX1_holds cX1_holds 2 (some .boolean), .methodLink RX1 43 yX1_fail, .instanceMethod yX1_fail, .selects RX1 yX1_fail yX1_fail, .code yX1_fail cX1_fail 2 (some .int)] ++ wsX10)
def wsX1_blame : List Cond := .code yX1_blame cX1_blame 3 (some .int) :: ([.fieldLink RX1 33 "GuestChairsModel" "thrown" "I", .fieldLink RX1 51 "GuestChairsModel" "rules" "I", .fieldLink RX1 16 "GuestChairsModel" "off" "[Z", .methodLink RX1 87 yX1_all, .instanceMethod yX1_all, .selects RX1 yX1_all yX1_all, .initialized RX1, .code yX1_all cX1_all 1 (some .int), .methodLink RX1 84 yX1_seatingsWith, .instanceMethod yX1_seatingsWith, .selects RX1 yX1_seatingsWith yX1_seatingsWith, .code yX1_seatingsWith cX1_seatingsWith 5 (some .int), .fieldLink RX1 36 "GuestChairsModel" "guests" "I", .methodLink RX1 81 yX1_brokenBy, .instanceMethod yX1_brokenBy, .selects RX1 yX1_brokenBy yX1_brokenBy, .code yX1_brokenBy cX1_brokenBy 3 (some .int), .fieldLink RX1 9 "GuestChairsModel" "firsts" "[I", .fieldLink RX1 13 "GuestChairsModel" "seconds" "[I", .fieldLink RX1 20 "GuestChairsModel" "asIfFirst" "I", .fieldLink RX1 24 "GuestChairsModel" "asIfSecond" "I", .methodLink RX1 78 yX1_holds, .static yX1_holds, .code yX1_holds cX1_holds 2 (some .boolean)] ++ wsX10)
def wsX1_tightens_r1 : List Cond := [Cond.fieldLink RX1 33 "GuestChairsModel" "thrown" "I", Cond.fieldLink RX1 20 "GuestChairsModel" "asIfFirst" "I", Cond.fieldLink RX1 24 "GuestChairsModel" "asIfSecond" "I", Cond.methodLink RX1 47 yX1_isWish, Cond.instanceMethod yX1_isWish, Cond.selects RX1 yX1_isWish yX1_isWish, Cond.initialized RX1, Cond.code yX1_isWish cX1_isWish 2 (some .boolean), Cond.fieldLink RX1 36 "GuestChairsModel" "guests" "I", Cond.methodLink RX1 39 yX1_isIn, Cond.static yX1_isIn, Cond.code yX1_isIn cX1_isIn 3 (some .boolean), Cond.methodLink RX1 43 yX1_fail, Cond.instanceMethod yX1_fail, Cond.selects RX1 yX1_fail yX1_fail, Cond.code yX1_fail cX1_fail 2 (some .int), Cond.methodLink RX1 87 yX1_all, Cond.instanceMethod yX1_all, Cond.selects RX1 yX1_all yX1_all, Cond.code yX1_all cX1_all 1 (some .int), Cond.methodLink RX1 84 yX1_seatingsWith, Cond.instanceMethod yX1_seatingsWith, Cond.selects RX1 yX1_seatingsWith yX1_seatingsWith, Cond.code yX1_seatingsWith cX1_seatingsWith 5 (some .int)]
def wsX1_tightens_r2 : List Cond := [Cond.methodLink RX1 81 yX1_brokenBy, Cond.instanceMethod yX1_brokenBy, Cond.selects RX1 yX1_brokenBy yX1_brokenBy, Cond.code yX1_brokenBy cX1_brokenBy 3 (some .int), Cond.fieldLink RX1 51 "GuestChairsModel" "rules" "I", Cond.fieldLink RX1 16 "GuestChairsModel" "off" "[Z", Cond.fieldLink RX1 9 "GuestChairsModel" "firsts" "[I", Cond.fieldLink RX1 13 "GuestChairsModel" "seconds" "[I", Cond.methodLink RX1 78 yX1_holds, Cond.static yX1_holds, Cond.code yX1_holds cX1_holds 2 (some .boolean)]
def wsX1_tightens : List Cond := .code yX1_tightens cX1_tightens 5 (some .int) :: ((wsX1_tightens_r1 ++ wsX1_tightens_r2) ++ wsX10)
def wsX1_counted_r1 : List Cond := [Cond.fieldLink RX1 36 "GuestChairsModel" "guests" "I", Cond.fieldLink RX1 51 "GuestChairsModel" "rules" "I", Cond.fieldLink RX1 16 "GuestChairsModel" "off" "[Z", Cond.methodLink RX1 94 yX1_isTorn, Cond.instanceMethod yX1_isTorn, Cond.selects RX1 yX1_isTorn yX1_isTorn, Cond.initialized RX1, Cond.code yX1_isTorn cX1_isTorn 2 (some .boolean), Cond.methodLink RX1 75 yX1_isVain, Cond.instanceMethod yX1_isVain, Cond.selects RX1 yX1_isVain yX1_isVain, Cond.code yX1_isVain cX1_isVain 2 (some .boolean), Cond.methodLink RX1 62 yX1_against, Cond.static yX1_against, Cond.code yX1_against cX1_against 1 (some .int), Cond.methodLink RX1 68 yX1_leads, Cond.instanceMethod yX1_leads, Cond.selects RX1 yX1_leads yX1_leads, Cond.code yX1_leads cX1_leads 3 (some .boolean), Cond.fieldLink RX1 30 "GuestChairsModel" "far" "[I", Cond.methodLink RX1 65 yX1_spread, Cond.instanceMethod yX1_spread, Cond.selects RX1 yX1_spread yX1_spread, Cond.code yX1_spread cX1_spread 6 (some .int)]
def wsX1_counted_r2 : List Cond := [Cond.fieldLink RX1 27 "GuestChairsModel" "row" "[I", Cond.fieldLink RX1 9 "GuestChairsModel" "firsts" "[I", Cond.fieldLink RX1 13 "GuestChairsModel" "seconds" "[I", Cond.methodLink RX1 58 yX1_put, Cond.instanceMethod yX1_put, Cond.selects RX1 yX1_put yX1_put, Cond.code yX1_put cX1_put 4 (some .int)]
def wsX1_counted : List Cond := .code yX1_counted cX1_counted 4 (some .int) :: ((wsX1_counted_r1 ++ wsX1_counted_r2) ++ wsX10)
def wsX1_count_r1 : List Cond := [Cond.fieldLink RX1 33 "GuestChairsModel" "thrown" "I", Cond.methodLink RX1 39 yX1_isIn, Cond.static yX1_isIn, Cond.initialized RX1, Cond.code yX1_isIn cX1_isIn 3 (some .boolean), Cond.methodLink RX1 111 yX1_counted, Cond.instanceMethod yX1_counted, Cond.selects RX1 yX1_counted yX1_counted, Cond.code yX1_counted cX1_counted 4 (some .int), Cond.fieldLink RX1 36 "GuestChairsModel" "guests" "I", Cond.fieldLink RX1 51 "GuestChairsModel" "rules" "I", Cond.fieldLink RX1 16 "GuestChairsModel" "off" "[Z", Cond.methodLink RX1 94 yX1_isTorn, Cond.instanceMethod yX1_isTorn, Cond.selects RX1 yX1_isTorn yX1_isTorn, Cond.code yX1_isTorn cX1_isTorn 2 (some .boolean), Cond.methodLink RX1 75 yX1_isVain, Cond.instanceMethod yX1_isVain, Cond.selects RX1 yX1_isVain yX1_isVain, Cond.code yX1_isVain cX1_isVain 2 (some .boolean), Cond.methodLink RX1 62 yX1_against, Cond.static yX1_against, Cond.code yX1_against cX1_against 1 (some .int), Cond.methodLink RX1 68 yX1_leads]
def wsX1_count_r2 : List Cond := [Cond.instanceMethod yX1_leads, Cond.selects RX1 yX1_leads yX1_leads, Cond.code yX1_leads cX1_leads 3 (some .boolean), Cond.fieldLink RX1 30 "GuestChairsModel" "far" "[I", Cond.methodLink RX1 65 yX1_spread, Cond.instanceMethod yX1_spread, Cond.selects RX1 yX1_spread yX1_spread, Cond.code yX1_spread cX1_spread 6 (some .int), Cond.fieldLink RX1 27 "GuestChairsModel" "row" "[I", Cond.fieldLink RX1 9 "GuestChairsModel" "firsts" "[I", Cond.fieldLink RX1 13 "GuestChairsModel" "seconds" "[I", Cond.methodLink RX1 58 yX1_put, Cond.instanceMethod yX1_put, Cond.selects RX1 yX1_put yX1_put, Cond.code yX1_put cX1_put 4 (some .int), Cond.methodLink RX1 43 yX1_fail, Cond.instanceMethod yX1_fail, Cond.selects RX1 yX1_fail yX1_fail, Cond.code yX1_fail cX1_fail 2 (some .int)]
def wsX1_count : List Cond := .code yX1_count cX1_count 2 (some .int) :: ((wsX1_count_r1 ++ wsX1_count_r2) ++ wsX10)
def wsX1_mean_r1 : List Cond := [Cond.fieldLink RX1 33 "GuestChairsModel" "thrown" "I", Cond.fieldLink RX1 36 "GuestChairsModel" "guests" "I", Cond.methodLink RX1 81 yX1_brokenBy, Cond.instanceMethod yX1_brokenBy, Cond.selects RX1 yX1_brokenBy yX1_brokenBy, Cond.initialized RX1, Cond.code yX1_brokenBy cX1_brokenBy 3 (some .int), Cond.fieldLink RX1 51 "GuestChairsModel" "rules" "I", Cond.fieldLink RX1 16 "GuestChairsModel" "off" "[Z", Cond.fieldLink RX1 9 "GuestChairsModel" "firsts" "[I", Cond.fieldLink RX1 13 "GuestChairsModel" "seconds" "[I", Cond.fieldLink RX1 20 "GuestChairsModel" "asIfFirst" "I", Cond.fieldLink RX1 24 "GuestChairsModel" "asIfSecond" "I", Cond.methodLink RX1 78 yX1_holds, Cond.static yX1_holds, Cond.code yX1_holds cX1_holds 2 (some .boolean), Cond.methodLink RX1 103 yX1_size, Cond.static yX1_size, Cond.code yX1_size cX1_size 3 (some .int), Cond.methodLink RX1 87 yX1_all, Cond.instanceMethod yX1_all, Cond.selects RX1 yX1_all yX1_all, Cond.code yX1_all cX1_all 1 (some .int), Cond.methodLink RX1 84 yX1_seatingsWith]
def wsX1_mean_r2 : List Cond := [Cond.instanceMethod yX1_seatingsWith, Cond.selects RX1 yX1_seatingsWith yX1_seatingsWith, Cond.code yX1_seatingsWith cX1_seatingsWith 5 (some .int)]
def wsX1_mean : List Cond := .code yX1_mean cX1_mean 3 (some .double) :: ((wsX1_mean_r1 ++ wsX1_mean_r2) ++ wsX10)
def wsX1_digest_r1 : List Cond := [Cond.fieldLink RX1 33 "GuestChairsModel" "thrown" "I", Cond.constantLong RX1 114 (1279), Cond.constantLong RX1 116 (31), Cond.fieldLink RX1 51 "GuestChairsModel" "rules" "I", Cond.fieldLink RX1 36 "GuestChairsModel" "guests" "I", Cond.methodLink RX1 111 yX1_counted, Cond.instanceMethod yX1_counted, Cond.selects RX1 yX1_counted yX1_counted, Cond.initialized RX1, Cond.code yX1_counted cX1_counted 4 (some .int), Cond.fieldLink RX1 16 "GuestChairsModel" "off" "[Z", Cond.methodLink RX1 94 yX1_isTorn, Cond.instanceMethod yX1_isTorn, Cond.selects RX1 yX1_isTorn yX1_isTorn, Cond.code yX1_isTorn cX1_isTorn 2 (some .boolean), Cond.methodLink RX1 75 yX1_isVain, Cond.instanceMethod yX1_isVain, Cond.selects RX1 yX1_isVain yX1_isVain, Cond.code yX1_isVain cX1_isVain 2 (some .boolean), Cond.methodLink RX1 62 yX1_against, Cond.static yX1_against, Cond.code yX1_against cX1_against 1 (some .int), Cond.methodLink RX1 68 yX1_leads, Cond.instanceMethod yX1_leads]
def wsX1_digest_r2 : List Cond := [Cond.selects RX1 yX1_leads yX1_leads, Cond.code yX1_leads cX1_leads 3 (some .boolean), Cond.fieldLink RX1 30 "GuestChairsModel" "far" "[I", Cond.methodLink RX1 65 yX1_spread, Cond.instanceMethod yX1_spread, Cond.selects RX1 yX1_spread yX1_spread, Cond.code yX1_spread cX1_spread 6 (some .int), Cond.fieldLink RX1 27 "GuestChairsModel" "row" "[I", Cond.fieldLink RX1 9 "GuestChairsModel" "firsts" "[I", Cond.fieldLink RX1 13 "GuestChairsModel" "seconds" "[I", Cond.methodLink RX1 58 yX1_put, Cond.instanceMethod yX1_put, Cond.selects RX1 yX1_put yX1_put, Cond.code yX1_put cX1_put 4 (some .int), Cond.methodLink RX1 54 yX1_ruleTold, Cond.instanceMethod yX1_ruleTold, Cond.selects RX1 yX1_ruleTold yX1_ruleTold, Cond.code yX1_ruleTold cX1_ruleTold 3 (some .int), Cond.methodLink RX1 72 yX1_reachOf, Cond.instanceMethod yX1_reachOf, Cond.selects RX1 yX1_reachOf yX1_reachOf, Cond.code yX1_reachOf cX1_reachOf 4 (some .int), Cond.methodLink RX1 97 yX1_guestTold, Cond.instanceMethod yX1_guestTold]
def wsX1_digest_r3 : List Cond := [Cond.selects RX1 yX1_guestTold yX1_guestTold, Cond.code yX1_guestTold cX1_guestTold 7 (some .int), Cond.methodLink RX1 91 yX1_isForced, Cond.instanceMethod yX1_isForced, Cond.selects RX1 yX1_isForced yX1_isForced, Cond.code yX1_isForced cX1_isForced 4 (some .boolean), Cond.methodLink RX1 87 yX1_all, Cond.instanceMethod yX1_all, Cond.selects RX1 yX1_all yX1_all, Cond.code yX1_all cX1_all 1 (some .int), Cond.methodLink RX1 84 yX1_seatingsWith, Cond.instanceMethod yX1_seatingsWith, Cond.selects RX1 yX1_seatingsWith yX1_seatingsWith, Cond.code yX1_seatingsWith cX1_seatingsWith 5 (some .int), Cond.methodLink RX1 81 yX1_brokenBy, Cond.instanceMethod yX1_brokenBy, Cond.selects RX1 yX1_brokenBy yX1_brokenBy, Cond.code yX1_brokenBy cX1_brokenBy 3 (some .int), Cond.fieldLink RX1 20 "GuestChairsModel" "asIfFirst" "I", Cond.fieldLink RX1 24 "GuestChairsModel" "asIfSecond" "I", Cond.methodLink RX1 78 yX1_holds, Cond.static yX1_holds, Cond.code yX1_holds cX1_holds 2 (some .boolean), Cond.methodLink RX1 100 yX1_seated]
def wsX1_digest_r4 : List Cond := [Cond.instanceMethod yX1_seated, Cond.selects RX1 yX1_seated yX1_seated, Cond.code yX1_seated cX1_seated 3 (some .int)]
def wsX1_digest : List Cond := .code yX1_digest cX1_digest 5 (some .long) :: ((wsX1_digest_r1 ++ (wsX1_digest_r2 ++ (wsX1_digest_r3 ++ wsX1_digest_r4))) ++ wsX10)
def wsJ9_max_7cf53 : List Cond := .code yJ9_max_7cf53 cJ9_max_7cf53 2 (some .int) :: ([])
def wsL_invite_r1 : List Cond := [Cond.classLink RL 13 "java/lang/IllegalStateException", Cond.methodLink RL 7 yX0_invite, Cond.instanceMethod yX0_invite, Cond.selects RX0 yX0_invite yX0_invite, Cond.initialized RX0, Cond.code yX0_invite cX0_invite 2 (some .int), Cond.classLink RX0 35 "java/lang/IllegalStateException", Cond.initialized "java/lang/IllegalStateException", Cond.fieldLink RX0 31 "GuestChairs" "guestCount" "I", Cond.methodLink RX0 28 yX0_refresh, Cond.instanceMethod yX0_refresh, Cond.selects RX0 yX0_refresh yX0_refresh, Cond.code yX0_refresh cX0_refresh 1 none, Cond.fieldLink RX0 16 "GuestChairs" "direct" "[I", Cond.fieldLink RX0 19 "GuestChairs" "closed" "[I", Cond.methodLink RX0 178 yX0_linkAllBut, Cond.instanceMethod yX0_linkAllBut, Cond.selects RX0 yX0_linkAllBut yX0_linkAllBut, Cond.code yX0_linkAllBut cX0_linkAllBut 6 none, Cond.fieldLink RX0 51 "GuestChairs" "ruleCount" "I", Cond.fieldLink RX0 60 "GuestChairs" "inForce" "I", Cond.fieldLink RX0 9 "GuestChairs" "firsts" "[I", Cond.fieldLink RX0 13 "GuestChairs" "seconds" "[I", Cond.methodLink RX0 67 yX0_has]
def wsL_invite_r2 : List Cond := [Cond.static yX0_has, Cond.code yX0_has cX0_has 2 (some .boolean), Cond.methodLink RX0 74 yX0_at, Cond.static yX0_at, Cond.code yX0_at cX0_at 2 (some .int), Cond.methodLink RX0 189 yX0_link, Cond.static yX0_link, Cond.code yX0_link cX0_link 3 none, Cond.methodLink RX0 56 yX0_put, Cond.static yX0_put, Cond.code yX0_put cX0_put 3 none, Cond.methodLink RX0 93 yX0_against, Cond.static yX0_against, Cond.code yX0_against cX0_against 1 (some .int), Cond.methodLink RX0 182 yX0_close, Cond.static yX0_close, Cond.code yX0_close cX0_close 3 none, Cond.methodLink RX0 186 yX0_listSeatings, Cond.instanceMethod yX0_listSeatings, Cond.selects RX0 yX0_listSeatings yX0_listSeatings, Cond.code yX0_listSeatings cX0_listSeatings 2 none, Cond.fieldLink RX0 115 "GuestChairs" "seatingCount" "I", Cond.fieldLink RX0 25 "GuestChairs" "seated" "[I", Cond.methodLink RX0 89 yX0_fits]
def wsL_invite_r3 : List Cond := [Cond.instanceMethod yX0_fits, Cond.selects RX0 yX0_fits yX0_fits, Cond.code yX0_fits cX0_fits 1 (some .boolean), Cond.methodLink RX0 111 yX0_countTorn, Cond.instanceMethod yX0_countTorn, Cond.selects RX0 yX0_countTorn yX0_countTorn, Cond.code yX0_countTorn cX0_countTorn 4 (some .int), Cond.methodLink RX0 100 yX0_isTorn, Cond.static yX0_isTorn, Cond.code yX0_isTorn cX0_isTorn 2 (some .boolean), Cond.methodLink RX0 96 yX0_isVain, Cond.static yX0_isVain, Cond.code yX0_isVain cX0_isVain 2 (some .boolean), Cond.methodLink RX0 78 yX0_oneIf, Cond.static yX0_oneIf, Cond.code yX0_oneIf cX0_oneIf 1 (some .int), Cond.methodLink RX0 192 yX0_settle, Cond.instanceMethod yX0_settle, Cond.selects RX0 yX0_settle yX0_settle, Cond.code yX0_settle cX0_settle 6 none]
def wsL_invite : List Cond := .codeWith yL_invite cL_invite 3 (some .int) [(0, 8, 11, 13)] :: ((wsL_invite_r1 ++ (wsL_invite_r2 ++ wsL_invite_r3)) ++ wsX00 ++ (vx_atS RX0 39 "java/lang/IllegalStateException" ["java/lang/RuntimeException", "java/lang/Exception"]).filter goodWord)
def wsL_rule_r1 : List Cond := [Cond.classLink RL 19 "java/lang/IndexOutOfBoundsException", Cond.classLink RL 21 "java/lang/IllegalArgumentException", Cond.classLink RL 13 "java/lang/IllegalStateException", Cond.methodLink RL 15 yX0_rule, Cond.instanceMethod yX0_rule, Cond.selects RX0 yX0_rule yX0_rule, Cond.initialized RX0, Cond.code yX0_rule cX0_rule 4 (some .int), Cond.classLink RX0 46 "java/lang/IllegalArgumentException", Cond.initialized "java/lang/IllegalArgumentException", Cond.classLink RX0 35 "java/lang/IllegalStateException", Cond.initialized "java/lang/IllegalStateException", Cond.fieldLink RX0 51 "GuestChairs" "ruleCount" "I", Cond.fieldLink RX0 9 "GuestChairs" "firsts" "[I", Cond.fieldLink RX0 13 "GuestChairs" "seconds" "[I", Cond.fieldLink RX0 60 "GuestChairs" "inForce" "I", Cond.methodLink RX0 42 yX0_requireWishes, Cond.instanceMethod yX0_requireWishes, Cond.selects RX0 yX0_requireWishes yX0_requireWishes, Cond.code yX0_requireWishes cX0_requireWishes 3 none, Cond.classLink RX0 167 "java/lang/IndexOutOfBoundsException", Cond.initialized "java/lang/IndexOutOfBoundsException", Cond.methodLink RX0 158 yX0_wishCount, Cond.instanceMethod yX0_wishCount]
def wsL_rule_r2 : List Cond := [Cond.selects RX0 yX0_wishCount yX0_wishCount, Cond.code yX0_wishCount cX0_wishCount 1 (some .int), Cond.fieldLink RX0 31 "GuestChairs" "guestCount" "I", Cond.methodLink RX0 56 yX0_put, Cond.static yX0_put, Cond.code yX0_put cX0_put 3 none, Cond.methodLink RX0 28 yX0_refresh, Cond.instanceMethod yX0_refresh, Cond.selects RX0 yX0_refresh yX0_refresh, Cond.code yX0_refresh cX0_refresh 1 none, Cond.fieldLink RX0 16 "GuestChairs" "direct" "[I", Cond.fieldLink RX0 19 "GuestChairs" "closed" "[I", Cond.methodLink RX0 178 yX0_linkAllBut, Cond.instanceMethod yX0_linkAllBut, Cond.selects RX0 yX0_linkAllBut yX0_linkAllBut, Cond.code yX0_linkAllBut cX0_linkAllBut 6 none, Cond.methodLink RX0 67 yX0_has, Cond.static yX0_has, Cond.code yX0_has cX0_has 2 (some .boolean), Cond.methodLink RX0 74 yX0_at, Cond.static yX0_at, Cond.code yX0_at cX0_at 2 (some .int), Cond.methodLink RX0 189 yX0_link, Cond.static yX0_link]
def wsL_rule_r3 : List Cond := [Cond.code yX0_link cX0_link 3 none, Cond.methodLink RX0 93 yX0_against, Cond.static yX0_against, Cond.code yX0_against cX0_against 1 (some .int), Cond.methodLink RX0 182 yX0_close, Cond.static yX0_close, Cond.code yX0_close cX0_close 3 none, Cond.methodLink RX0 186 yX0_listSeatings, Cond.instanceMethod yX0_listSeatings, Cond.selects RX0 yX0_listSeatings yX0_listSeatings, Cond.code yX0_listSeatings cX0_listSeatings 2 none, Cond.fieldLink RX0 115 "GuestChairs" "seatingCount" "I", Cond.fieldLink RX0 25 "GuestChairs" "seated" "[I", Cond.methodLink RX0 89 yX0_fits, Cond.instanceMethod yX0_fits, Cond.selects RX0 yX0_fits yX0_fits, Cond.code yX0_fits cX0_fits 1 (some .boolean), Cond.methodLink RX0 111 yX0_countTorn, Cond.instanceMethod yX0_countTorn, Cond.selects RX0 yX0_countTorn yX0_countTorn, Cond.code yX0_countTorn cX0_countTorn 4 (some .int), Cond.methodLink RX0 100 yX0_isTorn, Cond.static yX0_isTorn, Cond.code yX0_isTorn cX0_isTorn 2 (some .boolean)]
def wsL_rule_r4 : List Cond := [Cond.methodLink RX0 96 yX0_isVain, Cond.static yX0_isVain, Cond.code yX0_isVain cX0_isVain 2 (some .boolean), Cond.methodLink RX0 78 yX0_oneIf, Cond.static yX0_oneIf, Cond.code yX0_oneIf cX0_oneIf 1 (some .int), Cond.methodLink RX0 192 yX0_settle, Cond.instanceMethod yX0_settle, Cond.selects RX0 yX0_settle yX0_settle, Cond.code yX0_settle cX0_settle 6 none]
def wsL_rule : List Cond := .codeWith yL_rule cL_rule 5 (some .int) [(0, 10, 13, 19), (0, 10, 17, 21), (0, 10, 21, 13)] :: ((wsL_rule_r1 ++ (wsL_rule_r2 ++ (wsL_rule_r3 ++ wsL_rule_r4))) ++ wsX00 ++ (vx_atS RX0 50 "java/lang/IllegalArgumentException" ["java/lang/RuntimeException", "java/lang/Exception"]).filter goodWord ++ (vx_atS RX0 39 "java/lang/IllegalStateException" ["java/lang/RuntimeException", "java/lang/Exception"]).filter goodWord ++ (vx_atS RX0 171 "java/lang/IndexOutOfBoundsException" ["java/lang/RuntimeException", "java/lang/Exception"]).filter goodWord)
def wsL_turn_r1 : List Cond := [Cond.classLink RL 19 "java/lang/IndexOutOfBoundsException", Cond.methodLink RL 23 yX0_turn, Cond.instanceMethod yX0_turn, Cond.selects RX0 yX0_turn yX0_turn, Cond.initialized RX0, Cond.code yX0_turn cX0_turn 2 (some .boolean), Cond.fieldLink RX0 60 "GuestChairs" "inForce" "I", Cond.methodLink RX0 63 yX0_requireRule, Cond.instanceMethod yX0_requireRule, Cond.selects RX0 yX0_requireRule yX0_requireRule, Cond.code yX0_requireRule cX0_requireRule 2 none, Cond.classLink RX0 167 "java/lang/IndexOutOfBoundsException", Cond.initialized "java/lang/IndexOutOfBoundsException", Cond.fieldLink RX0 51 "GuestChairs" "ruleCount" "I", Cond.methodLink RX0 28 yX0_refresh, Cond.instanceMethod yX0_refresh, Cond.selects RX0 yX0_refresh yX0_refresh, Cond.code yX0_refresh cX0_refresh 1 none, Cond.fieldLink RX0 16 "GuestChairs" "direct" "[I", Cond.fieldLink RX0 19 "GuestChairs" "closed" "[I", Cond.methodLink RX0 178 yX0_linkAllBut, Cond.instanceMethod yX0_linkAllBut, Cond.selects RX0 yX0_linkAllBut yX0_linkAllBut, Cond.code yX0_linkAllBut cX0_linkAllBut 6 none]
def wsL_turn_r2 : List Cond := [Cond.fieldLink RX0 9 "GuestChairs" "firsts" "[I", Cond.fieldLink RX0 13 "GuestChairs" "seconds" "[I", Cond.methodLink RX0 67 yX0_has, Cond.static yX0_has, Cond.code yX0_has cX0_has 2 (some .boolean), Cond.methodLink RX0 74 yX0_at, Cond.static yX0_at, Cond.code yX0_at cX0_at 2 (some .int), Cond.methodLink RX0 189 yX0_link, Cond.static yX0_link, Cond.code yX0_link cX0_link 3 none, Cond.methodLink RX0 56 yX0_put, Cond.static yX0_put, Cond.code yX0_put cX0_put 3 none, Cond.methodLink RX0 93 yX0_against, Cond.static yX0_against, Cond.code yX0_against cX0_against 1 (some .int), Cond.methodLink RX0 182 yX0_close, Cond.static yX0_close, Cond.code yX0_close cX0_close 3 none, Cond.methodLink RX0 186 yX0_listSeatings, Cond.instanceMethod yX0_listSeatings, Cond.selects RX0 yX0_listSeatings yX0_listSeatings, Cond.code yX0_listSeatings cX0_listSeatings 2 none]
def wsL_turn_r3 : List Cond := [Cond.fieldLink RX0 115 "GuestChairs" "seatingCount" "I", Cond.fieldLink RX0 25 "GuestChairs" "seated" "[I", Cond.fieldLink RX0 31 "GuestChairs" "guestCount" "I", Cond.methodLink RX0 89 yX0_fits, Cond.instanceMethod yX0_fits, Cond.selects RX0 yX0_fits yX0_fits, Cond.code yX0_fits cX0_fits 1 (some .boolean), Cond.methodLink RX0 111 yX0_countTorn, Cond.instanceMethod yX0_countTorn, Cond.selects RX0 yX0_countTorn yX0_countTorn, Cond.code yX0_countTorn cX0_countTorn 4 (some .int), Cond.methodLink RX0 100 yX0_isTorn, Cond.static yX0_isTorn, Cond.code yX0_isTorn cX0_isTorn 2 (some .boolean), Cond.methodLink RX0 96 yX0_isVain, Cond.static yX0_isVain, Cond.code yX0_isVain cX0_isVain 2 (some .boolean), Cond.methodLink RX0 78 yX0_oneIf, Cond.static yX0_oneIf, Cond.code yX0_oneIf cX0_oneIf 1 (some .int), Cond.methodLink RX0 192 yX0_settle, Cond.instanceMethod yX0_settle, Cond.selects RX0 yX0_settle yX0_settle, Cond.code yX0_settle cX0_settle 6 none]
def wsL_turn : List Cond := .codeWith yL_turn cL_turn 4 (some .int) [(0, 16, 19, 19)] :: ((wsL_turn_r1 ++ (wsL_turn_r2 ++ wsL_turn_r3)) ++ wsX00 ++ (vx_atS RX0 171 "java/lang/IndexOutOfBoundsException" ["java/lang/RuntimeException", "java/lang/Exception"]).filter goodWord)
def wsL_told_r1 : List Cond := [Cond.classLink RL 19 "java/lang/IndexOutOfBoundsException", Cond.methodLink RL 27 yX0_told, Cond.instanceMethod yX0_told, Cond.selects RX0 yX0_told yX0_told, Cond.initialized RX0, Cond.code yX0_told cX0_told 3 (some .int), Cond.fieldLink RX0 9 "GuestChairs" "firsts" "[I", Cond.fieldLink RX0 13 "GuestChairs" "seconds" "[I", Cond.fieldLink RX0 60 "GuestChairs" "inForce" "I", Cond.methodLink RX0 63 yX0_requireRule, Cond.instanceMethod yX0_requireRule, Cond.selects RX0 yX0_requireRule yX0_requireRule, Cond.code yX0_requireRule cX0_requireRule 2 none, Cond.classLink RX0 167 "java/lang/IndexOutOfBoundsException", Cond.initialized "java/lang/IndexOutOfBoundsException", Cond.fieldLink RX0 51 "GuestChairs" "ruleCount" "I", Cond.methodLink RX0 71 yX0_requireFact, Cond.static yX0_requireFact, Cond.code yX0_requireFact cX0_requireFact 2 none, Cond.methodLink RX0 74 yX0_at, Cond.static yX0_at, Cond.code yX0_at cX0_at 2 (some .int), Cond.methodLink RX0 67 yX0_has, Cond.static yX0_has]
def wsL_told_r2 : List Cond := [Cond.code yX0_has cX0_has 2 (some .boolean), Cond.methodLink RX0 78 yX0_oneIf, Cond.static yX0_oneIf, Cond.code yX0_oneIf cX0_oneIf 1 (some .int)]
def wsL_told : List Cond := .codeWith yL_told cL_told 5 (some .int) [(0, 10, 13, 19)] :: ((wsL_told_r1 ++ wsL_told_r2) ++ wsX00 ++ (vx_atS RX0 171 "java/lang/IndexOutOfBoundsException" ["java/lang/RuntimeException", "java/lang/Exception"]).filter goodWord)
def wsL_follows : List Cond := .codeWith yL_follows cL_follows 5 (some .int) [(0, 17, 20, 19)] :: ([.classLink RL 19 "java/lang/IndexOutOfBoundsException", .methodLink RL 30 yX0_follows, .instanceMethod yX0_follows, .selects RX0 yX0_follows yX0_follows, .initialized RX0, .code yX0_follows cX0_follows 3 (some .boolean), .fieldLink RX0 19 "GuestChairs" "closed" "[I", .methodLink RX0 42 yX0_requireWishes, .instanceMethod yX0_requireWishes, .selects RX0 yX0_requireWishes yX0_requireWishes, .code yX0_requireWishes cX0_requireWishes 3 none, .classLink RX0 167 "java/lang/IndexOutOfBoundsException", .initialized "java/lang/IndexOutOfBoundsException", .methodLink RX0 158 yX0_wishCount, .instanceMethod yX0_wishCount, .selects RX0 yX0_wishCount yX0_wishCount, .code yX0_wishCount cX0_wishCount 1 (some .int), .fieldLink RX0 31 "GuestChairs" "guestCount" "I", .methodLink RX0 74 yX0_at, .static yX0_at, .code yX0_at cX0_at 2 (some .int), .methodLink RX0 67 yX0_has, .static yX0_has, .code yX0_has cX0_has 2 (some .boolean)] ++ wsX00 ++ (vx_atS RX0 171 "java/lang/IndexOutOfBoundsException" ["java/lang/RuntimeException", "java/lang/Exception"]).filter goodWord)
def wsL_reach : List Cond := .codeWith yL_reach cL_reach 4 (some .int) [(0, 9, 12, 19)] :: ([.classLink RL 19 "java/lang/IndexOutOfBoundsException", .methodLink RL 34 yX0_reach, .instanceMethod yX0_reach, .selects RX0 yX0_reach yX0_reach, .initialized RX0, .code yX0_reach cX0_reach 2 (some .int), .fieldLink RX0 19 "GuestChairs" "closed" "[I", .methodLink RX0 42 yX0_requireWishes, .instanceMethod yX0_requireWishes, .selects RX0 yX0_requireWishes yX0_requireWishes, .code yX0_requireWishes cX0_requireWishes 3 none, .classLink RX0 167 "java/lang/IndexOutOfBoundsException", .initialized "java/lang/IndexOutOfBoundsException", .methodLink RX0 158 yX0_wishCount, .instanceMethod yX0_wishCount, .selects RX0 yX0_wishCount yX0_wishCount, .code yX0_wishCount cX0_wishCount 1 (some .int), .fieldLink RX0 31 "GuestChairs" "guestCount" "I", .methodLink RX0 74 yX0_at, .static yX0_at, .code yX0_at cX0_at 2 (some .int)] ++ wsX00 ++ (vx_atS RX0 171 "java/lang/IndexOutOfBoundsException" ["java/lang/RuntimeException", "java/lang/Exception"]).filter goodWord)
def wsL_steps_r1 : List Cond := [Cond.classLink RL 19 "java/lang/IndexOutOfBoundsException", Cond.methodLink RL 38 yX0_steps, Cond.instanceMethod yX0_steps, Cond.selects RX0 yX0_steps yX0_steps, Cond.initialized RX0, Cond.code yX0_steps cX0_steps 5 (some .int), Cond.methodLink RX0 42 yX0_requireWishes, Cond.instanceMethod yX0_requireWishes, Cond.selects RX0 yX0_requireWishes yX0_requireWishes, Cond.code yX0_requireWishes cX0_requireWishes 3 none, Cond.classLink RX0 167 "java/lang/IndexOutOfBoundsException", Cond.initialized "java/lang/IndexOutOfBoundsException", Cond.methodLink RX0 158 yX0_wishCount, Cond.instanceMethod yX0_wishCount, Cond.selects RX0 yX0_wishCount yX0_wishCount, Cond.code yX0_wishCount cX0_wishCount 1 (some .int), Cond.fieldLink RX0 31 "GuestChairs" "guestCount" "I", Cond.methodLink RX0 67 yX0_has, Cond.static yX0_has, Cond.code yX0_has cX0_has 2 (some .boolean), Cond.methodLink RX0 82 yX0_oneStepOn, Cond.instanceMethod yX0_oneStepOn, Cond.selects RX0 yX0_oneStepOn yX0_oneStepOn, Cond.code yX0_oneStepOn cX0_oneStepOn 4 (some .int)]
def wsL_steps_r2 : List Cond := [Cond.fieldLink RX0 16 "GuestChairs" "direct" "[I", Cond.methodLink RX0 74 yX0_at, Cond.static yX0_at, Cond.code yX0_at cX0_at 2 (some .int)]
def wsL_steps : List Cond := .codeWith yL_steps cL_steps 5 (some .int) [(0, 10, 13, 19)] :: ((wsL_steps_r1 ++ wsL_steps_r2) ++ wsX00 ++ (vx_atS RX0 171 "java/lang/IndexOutOfBoundsException" ["java/lang/RuntimeException", "java/lang/Exception"]).filter goodWord)
def wsL_guest_r1 : List Cond := [Cond.classLink RL 19 "java/lang/IndexOutOfBoundsException", Cond.methodLink RL 41 yX0_guest, Cond.instanceMethod yX0_guest, Cond.selects RX0 yX0_guest yX0_guest, Cond.initialized RX0, Cond.code yX0_guest cX0_guest 4 (some .int), Cond.fieldLink RX0 19 "GuestChairs" "closed" "[I", Cond.methodLink RX0 86 yX0_requireGuest, Cond.instanceMethod yX0_requireGuest, Cond.selects RX0 yX0_requireGuest yX0_requireGuest, Cond.code yX0_requireGuest cX0_requireGuest 2 none, Cond.classLink RX0 167 "java/lang/IndexOutOfBoundsException", Cond.initialized "java/lang/IndexOutOfBoundsException", Cond.fieldLink RX0 31 "GuestChairs" "guestCount" "I", Cond.methodLink RX0 71 yX0_requireFact, Cond.static yX0_requireFact, Cond.code yX0_requireFact cX0_requireFact 2 none, Cond.methodLink RX0 89 yX0_fits, Cond.instanceMethod yX0_fits, Cond.selects RX0 yX0_fits yX0_fits, Cond.code yX0_fits cX0_fits 1 (some .boolean), Cond.methodLink RX0 111 yX0_countTorn, Cond.instanceMethod yX0_countTorn, Cond.selects RX0 yX0_countTorn yX0_countTorn]
def wsL_guest_r2 : List Cond := [Cond.code yX0_countTorn cX0_countTorn 4 (some .int), Cond.methodLink RX0 100 yX0_isTorn, Cond.static yX0_isTorn, Cond.code yX0_isTorn cX0_isTorn 2 (some .boolean), Cond.methodLink RX0 96 yX0_isVain, Cond.static yX0_isVain, Cond.code yX0_isVain cX0_isVain 2 (some .boolean), Cond.methodLink RX0 74 yX0_at, Cond.static yX0_at, Cond.code yX0_at cX0_at 2 (some .int), Cond.methodLink RX0 93 yX0_against, Cond.static yX0_against, Cond.code yX0_against cX0_against 1 (some .int), Cond.methodLink RX0 67 yX0_has, Cond.static yX0_has, Cond.code yX0_has cX0_has 2 (some .boolean), Cond.methodLink RX0 78 yX0_oneIf, Cond.static yX0_oneIf, Cond.code yX0_oneIf cX0_oneIf 1 (some .int), Cond.methodLink RX0 103 yX0_guestsBoundTo, Cond.instanceMethod yX0_guestsBoundTo, Cond.selects RX0 yX0_guestsBoundTo yX0_guestsBoundTo, Cond.code yX0_guestsBoundTo cX0_guestsBoundTo 4 (some .int), Cond.methodLink RX0 158 yX0_wishCount]
def wsL_guest_r3 : List Cond := [Cond.instanceMethod yX0_wishCount, Cond.selects RX0 yX0_wishCount yX0_wishCount, Cond.code yX0_wishCount cX0_wishCount 1 (some .int), Cond.methodLink RX0 106 yJ6_bitCount_0f7a4, Cond.static yJ6_bitCount_0f7a4, Cond.initialized RJ6, Cond.code yJ6_bitCount_0f7a4 cJ6_bitCount_0f7a4 1 (some .int), Cond.constant RJ6 265 (1431655765), Cond.constant RJ6 266 (858993459), Cond.constant RJ6 267 (252645135)]
def wsL_guest : List Cond := .codeWith yL_guest cL_guest 5 (some .int) [(0, 10, 13, 19)] :: ((wsL_guest_r1 ++ (wsL_guest_r2 ++ wsL_guest_r3)) ++ wsX00 ++ (vx_atS RX0 171 "java/lang/IndexOutOfBoundsException" ["java/lang/RuntimeException", "java/lang/Exception"]).filter goodWord)
def wsL_broken : List Cond := .codeWith yL_broken cL_broken 4 (some .int) [(0, 9, 12, 21)] :: ([.classLink RL 21 "java/lang/IllegalArgumentException", .methodLink RL 44 yX0_broken, .instanceMethod yX0_broken, .selects RX0 yX0_broken yX0_broken, .initialized RX0, .code yX0_broken cX0_broken 3 (some .int), .classLink RX0 46 "java/lang/IllegalArgumentException", .initialized "java/lang/IllegalArgumentException", .fieldLink RX0 31 "GuestChairs" "guestCount" "I", .fieldLink RX0 51 "GuestChairs" "ruleCount" "I", .fieldLink RX0 60 "GuestChairs" "inForce" "I", .fieldLink RX0 9 "GuestChairs" "firsts" "[I", .fieldLink RX0 13 "GuestChairs" "seconds" "[I", .methodLink RX0 67 yX0_has, .static yX0_has, .code yX0_has cX0_has 2 (some .boolean), .methodLink RX0 74 yX0_at, .static yX0_at, .code yX0_at cX0_at 2 (some .int), .methodLink RX0 132 yX0_holds, .static yX0_holds, .code yX0_holds cX0_holds 3 (some .boolean)] ++ wsX00 ++ (vx_atS RX0 50 "java/lang/IllegalArgumentException" ["java/lang/RuntimeException", "java/lang/Exception"]).filter goodWord)
def wsL_tightens_r1 : List Cond := [Cond.classLink RL 19 "java/lang/IndexOutOfBoundsException", Cond.methodLink RL 47 yX0_tightens, Cond.instanceMethod yX0_tightens, Cond.selects RX0 yX0_tightens yX0_tightens, Cond.initialized RX0, Cond.code yX0_tightens cX0_tightens 6 (some .int), Cond.fieldLink RX0 115 "GuestChairs" "seatingCount" "I", Cond.fieldLink RX0 25 "GuestChairs" "seated" "[I", Cond.methodLink RX0 42 yX0_requireWishes, Cond.instanceMethod yX0_requireWishes, Cond.selects RX0 yX0_requireWishes yX0_requireWishes, Cond.code yX0_requireWishes cX0_requireWishes 3 none, Cond.classLink RX0 167 "java/lang/IndexOutOfBoundsException", Cond.initialized "java/lang/IndexOutOfBoundsException", Cond.methodLink RX0 158 yX0_wishCount, Cond.instanceMethod yX0_wishCount, Cond.selects RX0 yX0_wishCount yX0_wishCount, Cond.code yX0_wishCount cX0_wishCount 1 (some .int), Cond.fieldLink RX0 31 "GuestChairs" "guestCount" "I", Cond.methodLink RX0 74 yX0_at, Cond.static yX0_at, Cond.code yX0_at cX0_at 2 (some .int), Cond.methodLink RX0 67 yX0_has, Cond.static yX0_has]
def wsL_tightens_r2 : List Cond := [Cond.code yX0_has cX0_has 2 (some .boolean)]
def wsL_tightens : List Cond := .codeWith yL_tightens cL_tightens 5 (some .int) [(0, 10, 13, 19)] :: ((wsL_tightens_r1 ++ wsL_tightens_r2) ++ wsX00 ++ (vx_atS RX0 171 "java/lang/IndexOutOfBoundsException" ["java/lang/RuntimeException", "java/lang/Exception"]).filter goodWord)
def wsL_count_r1 : List Cond := [Cond.classLink RL 19 "java/lang/IndexOutOfBoundsException", Cond.methodLink RL 50 yX0_count, Cond.instanceMethod yX0_count, Cond.selects RX0 yX0_count yX0_count, Cond.initialized RX0, Cond.code yX0_count cX0_count 2 (some .int), Cond.fieldLink RX0 31 "GuestChairs" "guestCount" "I", Cond.fieldLink RX0 51 "GuestChairs" "ruleCount" "I", Cond.fieldLink RX0 60 "GuestChairs" "inForce" "I", Cond.fieldLink RX0 19 "GuestChairs" "closed" "[I", Cond.methodLink RX0 71 yX0_requireFact, Cond.static yX0_requireFact, Cond.code yX0_requireFact cX0_requireFact 2 none, Cond.classLink RX0 167 "java/lang/IndexOutOfBoundsException", Cond.initialized "java/lang/IndexOutOfBoundsException", Cond.methodLink RX0 106 yJ6_bitCount_0f7a4, Cond.static yJ6_bitCount_0f7a4, Cond.initialized RJ6, Cond.code yJ6_bitCount_0f7a4 cJ6_bitCount_0f7a4 1 (some .int), Cond.constant RJ6 265 (1431655765), Cond.constant RJ6 266 (858993459), Cond.constant RJ6 267 (252645135), Cond.methodLink RX0 111 yX0_countTorn, Cond.instanceMethod yX0_countTorn]
def wsL_count_r2 : List Cond := [Cond.selects RX0 yX0_countTorn yX0_countTorn, Cond.code yX0_countTorn cX0_countTorn 4 (some .int), Cond.methodLink RX0 100 yX0_isTorn, Cond.static yX0_isTorn, Cond.code yX0_isTorn cX0_isTorn 2 (some .boolean), Cond.methodLink RX0 96 yX0_isVain, Cond.static yX0_isVain, Cond.code yX0_isVain cX0_isVain 2 (some .boolean), Cond.methodLink RX0 74 yX0_at, Cond.static yX0_at, Cond.code yX0_at cX0_at 2 (some .int), Cond.methodLink RX0 93 yX0_against, Cond.static yX0_against, Cond.code yX0_against cX0_against 1 (some .int), Cond.methodLink RX0 67 yX0_has, Cond.static yX0_has, Cond.code yX0_has cX0_has 2 (some .boolean), Cond.methodLink RX0 78 yX0_oneIf, Cond.static yX0_oneIf, Cond.code yX0_oneIf cX0_oneIf 1 (some .int), Cond.methodLink RX0 139 yX0_countVain, Cond.instanceMethod yX0_countVain, Cond.selects RX0 yX0_countVain yX0_countVain, Cond.code yX0_countVain cX0_countVain 3 (some .int)]
def wsL_count_r3 : List Cond := [Cond.methodLink RX0 158 yX0_wishCount, Cond.instanceMethod yX0_wishCount, Cond.selects RX0 yX0_wishCount yX0_wishCount, Cond.code yX0_wishCount cX0_wishCount 1 (some .int), Cond.methodLink RX0 143 yX0_countPairs, Cond.instanceMethod yX0_countPairs, Cond.selects RX0 yX0_countPairs yX0_countPairs, Cond.code yX0_countPairs cX0_countPairs 3 (some .int)]
def wsL_count : List Cond := .codeWith yL_count cL_count 4 (some .int) [(0, 9, 12, 19)] :: ((wsL_count_r1 ++ (wsL_count_r2 ++ wsL_count_r3)) ++ wsX00 ++ (vx_atS RX0 171 "java/lang/IndexOutOfBoundsException" ["java/lang/RuntimeException", "java/lang/Exception"]).filter goodWord)
def wsL_law0_r1 : List Cond := [Cond.classLink RL 8 RX0, Cond.instantiable RX0 10, Cond.initialized RX0, Cond.classLink RL 54 RX1, Cond.instantiable RX1 10, Cond.initialized RX1, Cond.arrayClass .long, Cond.methodLink RL 53 yX0_init, Cond.instanceMethod yX0_init, Cond.code yX0_init cX0_init 1 none, Cond.methodLink RX0 1 objectInit, Cond.instanceMethod objectInit, Cond.code objectInit ⟨#[0xb1]⟩ 1 none, Cond.arrayClass .int, Cond.fieldLink RX0 9 "GuestChairs" "firsts" "[I", Cond.fieldLink RX0 13 "GuestChairs" "seconds" "[I", Cond.fieldLink RX0 16 "GuestChairs" "direct" "[I", Cond.fieldLink RX0 19 "GuestChairs" "closed" "[I", Cond.fieldLink RX0 22 "GuestChairs" "trial" "[I", Cond.fieldLink RX0 25 "GuestChairs" "seated" "[I", Cond.methodLink RX0 28 yX0_refresh, Cond.instanceMethod yX0_refresh, Cond.selects RX0 yX0_refresh yX0_refresh, Cond.code yX0_refresh cX0_refresh 1 none]
def wsL_law0_r2 : List Cond := [Cond.methodLink RX0 178 yX0_linkAllBut, Cond.instanceMethod yX0_linkAllBut, Cond.selects RX0 yX0_linkAllBut yX0_linkAllBut, Cond.code yX0_linkAllBut cX0_linkAllBut 6 none, Cond.fieldLink RX0 51 "GuestChairs" "ruleCount" "I", Cond.fieldLink RX0 60 "GuestChairs" "inForce" "I", Cond.methodLink RX0 67 yX0_has, Cond.static yX0_has, Cond.code yX0_has cX0_has 2 (some .boolean), Cond.methodLink RX0 74 yX0_at, Cond.static yX0_at, Cond.code yX0_at cX0_at 2 (some .int), Cond.methodLink RX0 189 yX0_link, Cond.static yX0_link, Cond.code yX0_link cX0_link 3 none, Cond.methodLink RX0 56 yX0_put, Cond.static yX0_put, Cond.code yX0_put cX0_put 3 none, Cond.methodLink RX0 93 yX0_against, Cond.static yX0_against, Cond.code yX0_against cX0_against 1 (some .int), Cond.methodLink RX0 182 yX0_close, Cond.static yX0_close, Cond.code yX0_close cX0_close 3 none]
def wsL_law0_r3 : List Cond := [Cond.methodLink RX0 186 yX0_listSeatings, Cond.instanceMethod yX0_listSeatings, Cond.selects RX0 yX0_listSeatings yX0_listSeatings, Cond.code yX0_listSeatings cX0_listSeatings 2 none, Cond.fieldLink RX0 115 "GuestChairs" "seatingCount" "I", Cond.fieldLink RX0 31 "GuestChairs" "guestCount" "I", Cond.methodLink RX0 89 yX0_fits, Cond.instanceMethod yX0_fits, Cond.selects RX0 yX0_fits yX0_fits, Cond.code yX0_fits cX0_fits 1 (some .boolean), Cond.methodLink RX0 111 yX0_countTorn, Cond.instanceMethod yX0_countTorn, Cond.selects RX0 yX0_countTorn yX0_countTorn, Cond.code yX0_countTorn cX0_countTorn 4 (some .int), Cond.methodLink RX0 100 yX0_isTorn, Cond.static yX0_isTorn, Cond.code yX0_isTorn cX0_isTorn 2 (some .boolean), Cond.methodLink RX0 96 yX0_isVain, Cond.static yX0_isVain, Cond.code yX0_isVain cX0_isVain 2 (some .boolean), Cond.methodLink RX0 78 yX0_oneIf, Cond.static yX0_oneIf, Cond.code yX0_oneIf cX0_oneIf 1 (some .int), Cond.methodLink RX0 192 yX0_settle]
def wsL_law0_r4 : List Cond := [Cond.instanceMethod yX0_settle, Cond.selects RX0 yX0_settle yX0_settle, Cond.code yX0_settle cX0_settle 6 none, Cond.methodLink RL 56 yX1_init, Cond.instanceMethod yX1_init, Cond.code yX1_init cX1_init 1 none, Cond.methodLink RX1 1 objectInit, Cond.fieldLink RX1 9 "GuestChairsModel" "firsts" "[I", Cond.fieldLink RX1 13 "GuestChairsModel" "seconds" "[I", Cond.arrayClass .boolean, Cond.fieldLink RX1 16 "GuestChairsModel" "off" "[Z", Cond.fieldLink RX1 20 "GuestChairsModel" "asIfFirst" "I", Cond.fieldLink RX1 24 "GuestChairsModel" "asIfSecond" "I", Cond.fieldLink RX1 27 "GuestChairsModel" "row" "[I", Cond.fieldLink RX1 30 "GuestChairsModel" "far" "[I", Cond.methodLink RL 57 yL_invite, Cond.static yL_invite, Cond.initialized RL, Cond.codeWith yL_invite cL_invite 3 (some .int) [(0, 8, 11, 13)], Cond.classLink RL 13 "java/lang/IllegalStateException", Cond.methodLink RL 7 yX0_invite, Cond.instanceMethod yX0_invite, Cond.selects RX0 yX0_invite yX0_invite, Cond.code yX0_invite cX0_invite 2 (some .int)]
def wsL_law0_r5 : List Cond := [Cond.classLink RX0 35 "java/lang/IllegalStateException", Cond.initialized "java/lang/IllegalStateException", Cond.methodLink RL 62 yX1_invite, Cond.instanceMethod yX1_invite, Cond.selects RX1 yX1_invite yX1_invite, Cond.code yX1_invite cX1_invite 1 (some .int), Cond.fieldLink RX1 33 "GuestChairsModel" "thrown" "I", Cond.fieldLink RX1 36 "GuestChairsModel" "guests" "I", Cond.methodLink RX1 43 yX1_fail, Cond.instanceMethod yX1_fail, Cond.selects RX1 yX1_fail yX1_fail, Cond.code yX1_fail cX1_fail 2 (some .int), Cond.methodLink RL 63 yX1_thrown, Cond.instanceMethod yX1_thrown, Cond.selects RX1 yX1_thrown yX1_thrown, Cond.code yX1_thrown cX1_thrown 1 (some .int), Cond.methodLink RL 66 yL_rule, Cond.static yL_rule, Cond.codeWith yL_rule cL_rule 5 (some .int) [(0, 10, 13, 19), (0, 10, 17, 21), (0, 10, 21, 13)], Cond.classLink RL 19 "java/lang/IndexOutOfBoundsException", Cond.classLink RL 21 "java/lang/IllegalArgumentException", Cond.methodLink RL 15 yX0_rule, Cond.instanceMethod yX0_rule, Cond.selects RX0 yX0_rule yX0_rule]
def wsL_law0_r6 : List Cond := [Cond.code yX0_rule cX0_rule 4 (some .int), Cond.classLink RX0 46 "java/lang/IllegalArgumentException", Cond.initialized "java/lang/IllegalArgumentException", Cond.methodLink RX0 42 yX0_requireWishes, Cond.instanceMethod yX0_requireWishes, Cond.selects RX0 yX0_requireWishes yX0_requireWishes, Cond.code yX0_requireWishes cX0_requireWishes 3 none, Cond.classLink RX0 167 "java/lang/IndexOutOfBoundsException", Cond.initialized "java/lang/IndexOutOfBoundsException", Cond.methodLink RX0 158 yX0_wishCount, Cond.instanceMethod yX0_wishCount, Cond.selects RX0 yX0_wishCount yX0_wishCount, Cond.code yX0_wishCount cX0_wishCount 1 (some .int), Cond.methodLink RL 69 yX1_rule, Cond.instanceMethod yX1_rule, Cond.selects RX1 yX1_rule yX1_rule, Cond.code yX1_rule cX1_rule 3 (some .int), Cond.fieldLink RX1 51 "GuestChairsModel" "rules" "I", Cond.methodLink RX1 47 yX1_isWish, Cond.instanceMethod yX1_isWish, Cond.selects RX1 yX1_isWish yX1_isWish, Cond.code yX1_isWish cX1_isWish 2 (some .boolean), Cond.methodLink RX1 39 yX1_isIn, Cond.static yX1_isIn]
def wsL_law0_r7 : List Cond := [Cond.code yX1_isIn cX1_isIn 3 (some .boolean), Cond.methodLink RL 70 yL_turn, Cond.static yL_turn, Cond.codeWith yL_turn cL_turn 4 (some .int) [(0, 16, 19, 19)], Cond.methodLink RL 23 yX0_turn, Cond.instanceMethod yX0_turn, Cond.selects RX0 yX0_turn yX0_turn, Cond.code yX0_turn cX0_turn 2 (some .boolean), Cond.methodLink RX0 63 yX0_requireRule, Cond.instanceMethod yX0_requireRule, Cond.selects RX0 yX0_requireRule yX0_requireRule, Cond.code yX0_requireRule cX0_requireRule 2 none, Cond.methodLink RL 73 yX1_turn, Cond.instanceMethod yX1_turn, Cond.selects RX1 yX1_turn yX1_turn, Cond.code yX1_turn cX1_turn 2 (some .boolean), Cond.methodLink RL 74 yL_told, Cond.static yL_told, Cond.codeWith yL_told cL_told 5 (some .int) [(0, 10, 13, 19)], Cond.methodLink RL 27 yX0_told, Cond.instanceMethod yX0_told, Cond.selects RX0 yX0_told yX0_told, Cond.code yX0_told cX0_told 3 (some .int), Cond.methodLink RX0 71 yX0_requireFact]
def wsL_law0_r8 : List Cond := [Cond.static yX0_requireFact, Cond.code yX0_requireFact cX0_requireFact 2 none, Cond.methodLink RL 76 yX1_told, Cond.instanceMethod yX1_told, Cond.selects RX1 yX1_told yX1_told, Cond.code yX1_told cX1_told 3 (some .int), Cond.methodLink RX1 54 yX1_ruleTold, Cond.instanceMethod yX1_ruleTold, Cond.selects RX1 yX1_ruleTold yX1_ruleTold, Cond.code yX1_ruleTold cX1_ruleTold 3 (some .int), Cond.methodLink RL 77 yL_follows, Cond.static yL_follows, Cond.codeWith yL_follows cL_follows 5 (some .int) [(0, 17, 20, 19)], Cond.methodLink RL 30 yX0_follows, Cond.instanceMethod yX0_follows, Cond.selects RX0 yX0_follows yX0_follows, Cond.code yX0_follows cX0_follows 3 (some .boolean), Cond.methodLink RL 79 yX1_follows, Cond.instanceMethod yX1_follows, Cond.selects RX1 yX1_follows yX1_follows, Cond.code yX1_follows cX1_follows 3 (some .boolean), Cond.methodLink RX1 68 yX1_leads, Cond.instanceMethod yX1_leads, Cond.selects RX1 yX1_leads yX1_leads]
def wsL_law0_r9 : List Cond := [Cond.code yX1_leads cX1_leads 3 (some .boolean), Cond.methodLink RX1 65 yX1_spread, Cond.instanceMethod yX1_spread, Cond.selects RX1 yX1_spread yX1_spread, Cond.code yX1_spread cX1_spread 6 (some .int), Cond.methodLink RX1 58 yX1_put, Cond.instanceMethod yX1_put, Cond.selects RX1 yX1_put yX1_put, Cond.code yX1_put cX1_put 4 (some .int), Cond.methodLink RX1 62 yX1_against, Cond.static yX1_against, Cond.code yX1_against cX1_against 1 (some .int), Cond.methodLink RL 80 yL_reach, Cond.static yL_reach, Cond.codeWith yL_reach cL_reach 4 (some .int) [(0, 9, 12, 19)], Cond.methodLink RL 34 yX0_reach, Cond.instanceMethod yX0_reach, Cond.selects RX0 yX0_reach yX0_reach, Cond.code yX0_reach cX0_reach 2 (some .int), Cond.methodLink RL 82 yX1_reach, Cond.instanceMethod yX1_reach, Cond.selects RX1 yX1_reach yX1_reach, Cond.code yX1_reach cX1_reach 2 (some .int), Cond.methodLink RX1 72 yX1_reachOf]
def wsL_law0_r10 : List Cond := [Cond.instanceMethod yX1_reachOf, Cond.selects RX1 yX1_reachOf yX1_reachOf, Cond.code yX1_reachOf cX1_reachOf 4 (some .int), Cond.methodLink RL 83 yL_steps, Cond.static yL_steps, Cond.codeWith yL_steps cL_steps 5 (some .int) [(0, 10, 13, 19)], Cond.methodLink RL 38 yX0_steps, Cond.instanceMethod yX0_steps, Cond.selects RX0 yX0_steps yX0_steps, Cond.code yX0_steps cX0_steps 5 (some .int), Cond.methodLink RX0 82 yX0_oneStepOn, Cond.instanceMethod yX0_oneStepOn, Cond.selects RX0 yX0_oneStepOn yX0_oneStepOn, Cond.code yX0_oneStepOn cX0_oneStepOn 4 (some .int), Cond.methodLink RL 85 yX1_steps, Cond.instanceMethod yX1_steps, Cond.selects RX1 yX1_steps yX1_steps, Cond.code yX1_steps cX1_steps 3 (some .int), Cond.methodLink RL 86 yL_guest, Cond.static yL_guest, Cond.codeWith yL_guest cL_guest 5 (some .int) [(0, 10, 13, 19)], Cond.methodLink RL 41 yX0_guest, Cond.instanceMethod yX0_guest, Cond.selects RX0 yX0_guest yX0_guest]
def wsL_law0_r11 : List Cond := [Cond.code yX0_guest cX0_guest 4 (some .int), Cond.methodLink RX0 86 yX0_requireGuest, Cond.instanceMethod yX0_requireGuest, Cond.selects RX0 yX0_requireGuest yX0_requireGuest, Cond.code yX0_requireGuest cX0_requireGuest 2 none, Cond.methodLink RX0 103 yX0_guestsBoundTo, Cond.instanceMethod yX0_guestsBoundTo, Cond.selects RX0 yX0_guestsBoundTo yX0_guestsBoundTo, Cond.code yX0_guestsBoundTo cX0_guestsBoundTo 4 (some .int), Cond.methodLink RX0 106 yJ6_bitCount_0f7a4, Cond.static yJ6_bitCount_0f7a4, Cond.initialized RJ6, Cond.code yJ6_bitCount_0f7a4 cJ6_bitCount_0f7a4 1 (some .int), Cond.constant RJ6 265 (1431655765), Cond.constant RJ6 266 (858993459), Cond.constant RJ6 267 (252645135), Cond.methodLink RL 88 yX1_guest, Cond.instanceMethod yX1_guest, Cond.selects RX1 yX1_guest yX1_guest, Cond.code yX1_guest cX1_guest 3 (some .int), Cond.methodLink RX1 97 yX1_guestTold, Cond.instanceMethod yX1_guestTold, Cond.selects RX1 yX1_guestTold yX1_guestTold, Cond.code yX1_guestTold cX1_guestTold 7 (some .int)]
def wsL_law0_r12 : List Cond := [Cond.methodLink RX1 91 yX1_isForced, Cond.instanceMethod yX1_isForced, Cond.selects RX1 yX1_isForced yX1_isForced, Cond.code yX1_isForced cX1_isForced 4 (some .boolean), Cond.methodLink RX1 87 yX1_all, Cond.instanceMethod yX1_all, Cond.selects RX1 yX1_all yX1_all, Cond.code yX1_all cX1_all 1 (some .int), Cond.methodLink RX1 84 yX1_seatingsWith, Cond.instanceMethod yX1_seatingsWith, Cond.selects RX1 yX1_seatingsWith yX1_seatingsWith, Cond.code yX1_seatingsWith cX1_seatingsWith 5 (some .int), Cond.methodLink RX1 81 yX1_brokenBy, Cond.instanceMethod yX1_brokenBy, Cond.selects RX1 yX1_brokenBy yX1_brokenBy, Cond.code yX1_brokenBy cX1_brokenBy 3 (some .int), Cond.methodLink RX1 78 yX1_holds, Cond.static yX1_holds, Cond.code yX1_holds cX1_holds 2 (some .boolean), Cond.methodLink RX1 94 yX1_isTorn, Cond.instanceMethod yX1_isTorn, Cond.selects RX1 yX1_isTorn yX1_isTorn, Cond.code yX1_isTorn cX1_isTorn 2 (some .boolean), Cond.methodLink RX1 75 yX1_isVain]
def wsL_law0_r13 : List Cond := [Cond.instanceMethod yX1_isVain, Cond.selects RX1 yX1_isVain yX1_isVain, Cond.code yX1_isVain cX1_isVain 2 (some .boolean), Cond.methodLink RL 89 yX0_fits, Cond.methodLink RL 93 yX1_fits, Cond.instanceMethod yX1_fits, Cond.selects RX1 yX1_fits yX1_fits, Cond.code yX1_fits cX1_fits 1 (some .boolean), Cond.methodLink RL 94 yX0_seat, Cond.instanceMethod yX0_seat, Cond.selects RX0 yX0_seat yX0_seat, Cond.code yX0_seat cX0_seat 1 (some .int), Cond.methodLink RX0 118 yX0_guestsComing, Cond.instanceMethod yX0_guestsComing, Cond.selects RX0 yX0_guestsComing yX0_guestsComing, Cond.code yX0_guestsComing cX0_guestsComing 4 (some .int), Cond.methodLink RL 97 yX1_seat, Cond.instanceMethod yX1_seat, Cond.selects RX1 yX1_seat yX1_seat, Cond.code yX1_seat cX1_seat 1 (some .int), Cond.methodLink RX1 100 yX1_seated, Cond.instanceMethod yX1_seated, Cond.selects RX1 yX1_seated yX1_seated, Cond.code yX1_seated cX1_seated 3 (some .int)]
def wsL_law0_r14 : List Cond := [Cond.methodLink RL 98 yX0_seatings, Cond.instanceMethod yX0_seatings, Cond.selects RX0 yX0_seatings yX0_seatings, Cond.code yX0_seatings cX0_seatings 1 (some .int), Cond.methodLink RL 101 yX1_seatings, Cond.instanceMethod yX1_seatings, Cond.selects RX1 yX1_seatings yX1_seatings, Cond.code yX1_seatings cX1_seatings 1 (some .int), Cond.methodLink RL 102 yX0_fewest, Cond.instanceMethod yX0_fewest, Cond.selects RX0 yX0_fewest yX0_fewest, Cond.code yX0_fewest cX0_fewest 4 (some .int), Cond.methodLink RX0 121 yX0_countComing, Cond.static yX0_countComing, Cond.code yX0_countComing cX0_countComing 1 (some .int), Cond.constant RX0 195 (349525), Cond.methodLink RL 105 yX1_fewest, Cond.instanceMethod yX1_fewest, Cond.selects RX1 yX1_fewest yX1_fewest, Cond.code yX1_fewest cX1_fewest 3 (some .int), Cond.methodLink RX1 103 yX1_size, Cond.static yX1_size, Cond.code yX1_size cX1_size 3 (some .int), Cond.methodLink RL 106 yX0_most]
def wsL_law0_r15 : List Cond := [Cond.instanceMethod yX0_most, Cond.selects RX0 yX0_most yX0_most, Cond.code yX0_most cX0_most 3 (some .int), Cond.methodLink RX0 124 Lib.Math.max.name, Cond.static Lib.Math.max.name, Cond.initialized "java/lang/Math", Cond.code Lib.Math.max.name Lib.Math.max.code 2 (some .int), Cond.methodLink RL 109 yX1_most, Cond.instanceMethod yX1_most, Cond.selects RX1 yX1_most yX1_most, Cond.code yX1_most cX1_most 3 (some .int), Cond.methodLink RX1 106 Lib.Math.max.name, Cond.methodLink RL 110 yL_broken, Cond.static yL_broken, Cond.codeWith yL_broken cL_broken 4 (some .int) [(0, 9, 12, 21)], Cond.methodLink RL 44 yX0_broken, Cond.instanceMethod yX0_broken, Cond.selects RX0 yX0_broken yX0_broken, Cond.code yX0_broken cX0_broken 3 (some .int), Cond.methodLink RX0 132 yX0_holds, Cond.static yX0_holds, Cond.code yX0_holds cX0_holds 3 (some .boolean), Cond.methodLink RL 112 yX1_broken, Cond.instanceMethod yX1_broken]
def wsL_law0_r16 : List Cond := [Cond.selects RX1 yX1_broken yX1_broken, Cond.code yX1_broken cX1_broken 2 (some .int), Cond.methodLink RL 113 yX0_blame, Cond.instanceMethod yX0_blame, Cond.selects RX0 yX0_blame yX0_blame, Cond.code yX0_blame cX0_blame 2 (some .int), Cond.methodLink RX0 135 yX0_fitsWithout, Cond.instanceMethod yX0_fitsWithout, Cond.selects RX0 yX0_fitsWithout yX0_fitsWithout, Cond.code yX0_fitsWithout cX0_fitsWithout 2 (some .boolean), Cond.methodLink RL 116 yX1_blame, Cond.instanceMethod yX1_blame, Cond.selects RX1 yX1_blame yX1_blame, Cond.code yX1_blame cX1_blame 3 (some .int), Cond.methodLink RL 117 yL_tightens, Cond.static yL_tightens, Cond.codeWith yL_tightens cL_tightens 5 (some .int) [(0, 10, 13, 19)], Cond.methodLink RL 47 yX0_tightens, Cond.instanceMethod yX0_tightens, Cond.selects RX0 yX0_tightens yX0_tightens, Cond.code yX0_tightens cX0_tightens 6 (some .int), Cond.methodLink RL 119 yX1_tightens, Cond.instanceMethod yX1_tightens, Cond.selects RX1 yX1_tightens yX1_tightens]
def wsL_law0_r17 : List Cond := [Cond.code yX1_tightens cX1_tightens 5 (some .int), Cond.methodLink RL 120 yL_count, Cond.static yL_count, Cond.codeWith yL_count cL_count 4 (some .int) [(0, 9, 12, 19)], Cond.methodLink RL 50 yX0_count, Cond.instanceMethod yX0_count, Cond.selects RX0 yX0_count yX0_count, Cond.code yX0_count cX0_count 2 (some .int), Cond.methodLink RX0 139 yX0_countVain, Cond.instanceMethod yX0_countVain, Cond.selects RX0 yX0_countVain yX0_countVain, Cond.code yX0_countVain cX0_countVain 3 (some .int), Cond.methodLink RX0 143 yX0_countPairs, Cond.instanceMethod yX0_countPairs, Cond.selects RX0 yX0_countPairs yX0_countPairs, Cond.code yX0_countPairs cX0_countPairs 3 (some .int), Cond.methodLink RL 122 yX1_count, Cond.instanceMethod yX1_count, Cond.selects RX1 yX1_count yX1_count, Cond.code yX1_count cX1_count 2 (some .int), Cond.methodLink RX1 111 yX1_counted, Cond.instanceMethod yX1_counted, Cond.selects RX1 yX1_counted yX1_counted, Cond.code yX1_counted cX1_counted 4 (some .int)]
def wsL_law0_r18 : List Cond := [Cond.methodLink RL 123 yX0_mean, Cond.instanceMethod yX0_mean, Cond.selects RX0 yX0_mean yX0_mean, Cond.code yX0_mean cX0_mean 3 (some .double), Cond.methodLink RL 127 yX1_mean, Cond.instanceMethod yX1_mean, Cond.selects RX1 yX1_mean yX1_mean, Cond.code yX1_mean cX1_mean 3 (some .double), Cond.methodLink RL 128 yX0_digest, Cond.instanceMethod yX0_digest, Cond.selects RX0 yX0_digest yX0_digest, Cond.code yX0_digest cX0_digest 5 (some .long), Cond.constantLong RX0 146 (1279), Cond.methodLink RX0 148 yX0_count, Cond.methodLink RX0 151 yX0_mix, Cond.static yX0_mix, Cond.code yX0_mix cX0_mix 3 (some .long), Cond.constantLong RX0 196 (31), Cond.methodLink RX0 155 yX0_told, Cond.methodLink RX0 161 yX0_guest, Cond.methodLink RX0 164 yX0_seat, Cond.methodLink RL 132 yX1_digest, Cond.instanceMethod yX1_digest, Cond.selects RX1 yX1_digest yX1_digest]
def wsL_law0_r19 : List Cond := [Cond.code yX1_digest cX1_digest 5 (some .long), Cond.constantLong RX1 114 (1279), Cond.constantLong RX1 116 (31)]
def wsL_law0 : List Cond := (wsL_law0_r1 ++ (wsL_law0_r2 ++ (wsL_law0_r3 ++ (wsL_law0_r4 ++ (wsL_law0_r5 ++ (wsL_law0_r6 ++ (wsL_law0_r7 ++ (wsL_law0_r8 ++ (wsL_law0_r9 ++ (wsL_law0_r10 ++ (wsL_law0_r11 ++ (wsL_law0_r12 ++ (wsL_law0_r13 ++ (wsL_law0_r14 ++ (wsL_law0_r15 ++ (wsL_law0_r16 ++ (wsL_law0_r17 ++ (wsL_law0_r18 ++ wsL_law0_r19)))))))))))))))))) ++ wsX00 ++ wsX10 ++ ([] : List Cond)
def wsL_law : List Cond := wsL_law0 ++ (vx_atS RX0 39 "java/lang/IllegalStateException" ["java/lang/RuntimeException", "java/lang/Exception"]).filter goodWord ++ (vx_atS RX0 50 "java/lang/IllegalArgumentException" ["java/lang/RuntimeException", "java/lang/Exception"]).filter goodWord ++ (vx_atS RX0 171 "java/lang/IndexOutOfBoundsException" ["java/lang/RuntimeException", "java/lang/Exception"]).filter goodWord
abbrev vwCl : List vw_C := [(RX0, TX0, 10), (RX1, TX1, 10)]
/-! ===== END printed: names ===== -/
end
section
theorem gc_mem {big : List Cond} (ws : List Cond) (ps : List Nat) (hp : ws = ps.filterMap (fun i => big[i]?)) : ∀ w ∈ ws, w ∈ big := by
  intro w hw
  rw [hp] at hw
  obtain ⟨i, -, hi⟩ := List.mem_filterMap.mp hw
  exact List.mem_of_getElem? hi
theorem gc_all_app {big a b : List Cond} (ha : ∀ w ∈ a, w ∈ big) (hb : ∀ w ∈ b, w ∈ big) : ∀ w ∈ a ++ b, w ∈ big := fun w h => (List.mem_append.mp h).elim (ha w) (hb w)
set_option maxRecDepth 20000 in
theorem wsL_law_a1 : ∀ w ∈ wsL_law0_r1, w ∈ lw_tbl := gc_mem _ [43, 44, 33, 416, 417, 34, 613, 45, 46, 47, 48, 49, 50, 133, 102, 103, 104, 105, 106, 107, 51, 53, 0, 54] (by decide +kernel)
set_option maxRecDepth 20000 in
theorem wsL_law_a2 : ∀ w ∈ wsL_law0_r2, w ∈ lw_tbl := gc_mem _ [55, 57, 1, 58, 109, 110, 59, 60, 61, 62, 63, 64, 65, 66, 67, 68, 69, 70, 71, 72, 73, 74, 75, 76] (by decide +kernel)
set_option maxRecDepth 20000 in
theorem wsL_law_a3 : ∀ w ∈ wsL_law0_r3, w ∈ lw_tbl := gc_mem _ [77, 79, 2, 80, 111, 108, 81, 82, 83, 84, 85, 87, 3, 88, 89, 90, 91, 92, 93, 94, 95, 96, 97, 98] (by decide +kernel)
set_option maxRecDepth 20000 in
theorem wsL_law_a4 : ∀ w ∈ wsL_law0_r4, w ∈ lw_tbl := gc_mem _ [100, 4, 101, 418, 419, 420, 421, 425, 426, 453, 427, 428, 429, 430, 431, 299, 300, 32, 301, 302, 303, 304, 305, 306] (by decide +kernel)
set_option maxRecDepth 20000 in
theorem wsL_law_a5 : ∀ w ∈ wsL_law0_r5, w ∈ lw_tbl := gc_mem _ [307, 38, 458, 459, 460, 461, 422, 423, 462, 464, 16, 465, 454, 455, 456, 457, 323, 324, 325, 326, 327, 328, 329, 330] (by decide +kernel)
set_option maxRecDepth 20000 in
theorem wsL_law_a6 : ∀ w ∈ wsL_law0_r6, w ∈ lw_tbl := gc_mem _ [331, 337, 40, 332, 334, 14, 335, 192, 39, 264, 266, 9, 267, 466, 467, 468, 469, 424, 470, 472, 17, 473, 474, 475] (by decide +kernel)
set_option maxRecDepth 20000 in
theorem wsL_law_a7 : ∀ w ∈ wsL_law0_r7, w ∈ lw_tbl := gc_mem _ [476, 354, 355, 356, 357, 358, 359, 360, 280, 282, 11, 283, 477, 478, 479, 480, 361, 362, 363, 364, 277, 278, 279, 189] (by decide +kernel)
set_option maxRecDepth 20000 in
theorem wsL_law_a8 : ∀ w ∈ wsL_law0_r8, w ∈ lw_tbl := gc_mem _ [190, 191, 481, 482, 483, 484, 485, 487, 18, 488, 365, 366, 367, 368, 369, 370, 371, 489, 490, 491, 492, 493, 495, 19] (by decide +kernel)
set_option maxRecDepth 20000 in
theorem wsL_law_a9 : ∀ w ∈ wsL_law0_r9, w ∈ lw_tbl := gc_mem _ [496, 497, 499, 20, 500, 501, 503, 21, 504, 505, 506, 507, 372, 373, 374, 375, 376, 377, 378, 508, 509, 510, 511, 512] (by decide +kernel)
set_option maxRecDepth 20000 in
theorem wsL_law_a10 : ∀ w ∈ wsL_law0_r10, w ∈ lw_tbl := gc_mem _ [514, 22, 515, 379, 380, 381, 382, 383, 384, 385, 386, 388, 15, 389, 516, 517, 518, 519, 390, 391, 392, 393, 286, 287] (by decide +kernel)
set_option maxRecDepth 20000 in
theorem wsL_law_a11 : ∀ w ∈ wsL_law0_r11, w ∈ lw_tbl := gc_mem _ [288, 289, 291, 12, 292, 294, 296, 13, 297, 155, 156, 41, 157, 158, 159, 160, 520, 521, 522, 523, 524, 526, 23, 527] (by decide +kernel)
set_option maxRecDepth 20000 in
theorem wsL_law_a12 : ∀ w ∈ wsL_law0_r12, w ∈ lw_tbl := gc_mem _ [528, 530, 24, 531, 532, 534, 25, 535, 536, 538, 26, 539, 540, 542, 27, 543, 544, 545, 546, 547, 549, 28, 550, 551] (by decide +kernel)
set_option maxRecDepth 20000 in
theorem wsL_law_a13 : ∀ w ∈ wsL_law0_r13, w ∈ lw_tbl := gc_mem _ [553, 29, 554, 134, 555, 556, 557, 558, 135, 136, 137, 138, 139, 141, 5, 142, 559, 560, 561, 562, 563, 565, 30, 566] (by decide +kernel)
set_option maxRecDepth 20000 in
theorem wsL_law_a14 : ∀ w ∈ wsL_law0_r14, w ∈ lw_tbl := gc_mem _ [143, 144, 145, 146, 567, 568, 569, 570, 147, 148, 149, 150, 151, 152, 153, 154, 571, 572, 573, 574, 575, 576, 577, 161] (by decide +kernel)
set_option maxRecDepth 20000 in
theorem wsL_law_a15 : ∀ w ∈ wsL_law0_r15, w ∈ lw_tbl := gc_mem _ [162, 163, 164, 165, 166, 42, 167, 578, 579, 580, 581, 582, 394, 395, 396, 397, 398, 399, 400, 402, 403, 404, 583, 584] (by decide +kernel)
set_option maxRecDepth 20000 in
theorem wsL_law_a16 : ∀ w ∈ wsL_law0_r16, w ∈ lw_tbl := gc_mem _ [585, 586, 168, 169, 170, 171, 172, 174, 6, 175, 587, 588, 589, 590, 405, 406, 407, 408, 409, 410, 411, 591, 592, 593] (by decide +kernel)
set_option maxRecDepth 20000 in
theorem wsL_law_a17 : ∀ w ∈ wsL_law0_r17, w ∈ lw_tbl := gc_mem _ [594, 412, 413, 414, 415, 186, 187, 188, 260, 262, 8, 263, 268, 270, 10, 271, 595, 596, 597, 598, 599, 601, 31, 602] (by decide +kernel)
set_option maxRecDepth 20000 in
theorem wsL_law_a18 : ∀ w ∈ wsL_law0_r18, w ∈ lw_tbl := gc_mem _ [176, 177, 178, 179, 603, 604, 605, 606, 180, 181, 182, 183, 184, 185, 272, 273, 274, 275, 276, 285, 298, 607, 608, 609] (by decide +kernel)
set_option maxRecDepth 20000 in
theorem wsL_law_a19 : ∀ w ∈ wsL_law0_r19, w ∈ lw_tbl := gc_mem _ [610, 611, 612] (by decide +kernel)
set_option maxRecDepth 20000 in
theorem wsL_law_w0 : ∀ w ∈ wsX00, w ∈ lw_tbl := gc_mem _ [112, 114, 116, 118, 120, 122, 124, 126, 128, 130] (by decide +kernel)
set_option maxRecDepth 20000 in
theorem wsL_law_w1 : ∀ w ∈ wsX10, w ∈ lw_tbl := gc_mem _ [432, 434, 436, 438, 440, 442, 444, 446, 448, 450] (by decide +kernel)
theorem wsL_law_in0 : ∀ w ∈ wsL_law0, w ∈ lw_tbl := gc_all_app (gc_all_app (gc_all_app (gc_all_app wsL_law_a1 (gc_all_app wsL_law_a2 (gc_all_app wsL_law_a3 (gc_all_app wsL_law_a4 (gc_all_app wsL_law_a5 (gc_all_app wsL_law_a6 (gc_all_app wsL_law_a7 (gc_all_app wsL_law_a8 (gc_all_app wsL_law_a9 (gc_all_app wsL_law_a10 (gc_all_app wsL_law_a11 (gc_all_app wsL_law_a12 (gc_all_app wsL_law_a13 (gc_all_app wsL_law_a14 (gc_all_app wsL_law_a15 (gc_all_app wsL_law_a16 (gc_all_app wsL_law_a17 (gc_all_app wsL_law_a18 (wsL_law_a19))))))))))))))))))) wsL_law_w0) wsL_law_w1) (fun _ h => absurd h List.not_mem_nil)
theorem wsL_law_x0 : ∀ w ∈ (vx_atS RX0 39 "java/lang/IllegalStateException" ["java/lang/RuntimeException", "java/lang/Exception"]).filter goodWord, w ∈ lw_tbl := by decide +kernel
theorem wsL_law_x1 : ∀ w ∈ (vx_atS RX0 50 "java/lang/IllegalArgumentException" ["java/lang/RuntimeException", "java/lang/Exception"]).filter goodWord, w ∈ lw_tbl := by decide +kernel
theorem wsL_law_x2 : ∀ w ∈ (vx_atS RX0 171 "java/lang/IndexOutOfBoundsException" ["java/lang/RuntimeException", "java/lang/Exception"]).filter goodWord, w ∈ lw_tbl := by decide +kernel
theorem wsL_law_in : ∀ w ∈ wsL_law, w ∈ lw_tbl := fun w h => (List.mem_append.mp h).elim (fun h => (List.mem_append.mp h).elim (fun h => (List.mem_append.mp h).elim (fun h => wsL_law_in0 w h) (fun h => wsL_law_x0 w h)) (fun h => wsL_law_x1 w h)) (fun h => wsL_law_x2 w h)
theorem inlX0 : ∀ w ∈ wsX00, w ∈ wsL_law := fun _ h => List.mem_append_left _ (List.mem_append_left _ (List.mem_append_left _ (List.mem_append_left _ (List.mem_append_left _ (List.mem_append_right _ h)))))
theorem inX0 : ∀ w ∈ wsX00, w ∈ lw_tbl := fun w h => wsL_law_in w (inlX0 w h)
theorem inlX1 : ∀ w ∈ wsX10, w ∈ wsL_law := fun _ h => List.mem_append_left _ (List.mem_append_left _ (List.mem_append_left _ (List.mem_append_left _ (List.mem_append_right _ h))))
theorem inX1 : ∀ w ∈ wsX10, w ∈ lw_tbl := fun w h => wsL_law_in w (inlX1 w h)
theorem inJ6 : ∀ w ∈ wsJ60, w ∈ lw_tbl := by decide +kernel
theorem inJ9 : ∀ w ∈ wsJ90, w ∈ lw_tbl := by decide +kernel
theorem inJ0 : ∀ w ∈ wsJ00, w ∈ lw_tbl := by decide +kernel
end
section
set_option maxRecDepth 20000 in
theorem ggX0_init_X0_refresh : GoodIn wsX0_init wsX0_refresh := goodIn_r _ [15, 7, 8, 16, 17, 18, 14, 19, 20, 21, 5, 6, 22, 23, 24, 25, 26, 27, 28, 29, 30, 31, 32, 33, 34, 35, 36, 37, 38, 39, 40, 41, 42, 43, 44, 10, 45, 46, 47, 48, 49, 50, 51, 52, 53, 54, 55, 56, 57, 58, 59, 60, 61, 62, 63, 64, 65, 66, 67, 68, 69, 70, 71, 72, 73, 74, 75, 76] (by decide +kernel) (by decide +kernel)
set_option maxRecDepth 20000 in
theorem gX0_init_X0_refresh : GoodIn wsX0_init (wsV RX0 28 RX0 yX0_refresh wsX0_refresh) := goodIn_app (goodIn_of _ (by decide +kernel)) ggX0_init_X0_refresh
theorem dX0_init_0 : decode cX0_init 0 = .ok (.aload_n 0, 1) := by decide +kernel
theorem dX0_init_1 : decode cX0_init 1 = .ok (.invokespecial 1, 3) := by decide +kernel
theorem dX0_init_4 : decode cX0_init 4 = .ok (.aload_n 0, 1) := by decide +kernel
theorem dX0_init_5 : decode cX0_init 5 = .ok (.bipush 30, 2) := by decide +kernel
theorem dX0_init_7 : decode cX0_init 7 = .ok (.newarray .int, 2) := by decide +kernel
theorem dX0_init_9 : decode cX0_init 9 = .ok (.putfield 9, 3) := by decide +kernel
theorem dX0_init_12 : decode cX0_init 12 = .ok (.aload_n 0, 1) := by decide +kernel
theorem dX0_init_13 : decode cX0_init 13 = .ok (.bipush 30, 2) := by decide +kernel
theorem dX0_init_15 : decode cX0_init 15 = .ok (.newarray .int, 2) := by decide +kernel
theorem dX0_init_17 : decode cX0_init 17 = .ok (.putfield 13, 3) := by decide +kernel
theorem dX0_init_20 : decode cX0_init 20 = .ok (.aload_n 0, 1) := by decide +kernel
theorem dX0_init_21 : decode cX0_init 21 = .ok (.bipush 20, 2) := by decide +kernel
theorem dX0_init_23 : decode cX0_init 23 = .ok (.newarray .int, 2) := by decide +kernel
theorem dX0_init_25 : decode cX0_init 25 = .ok (.putfield 16, 3) := by decide +kernel
theorem dX0_init_28 : decode cX0_init 28 = .ok (.aload_n 0, 1) := by decide +kernel
theorem dX0_init_29 : decode cX0_init 29 = .ok (.bipush 20, 2) := by decide +kernel
theorem dX0_init_31 : decode cX0_init 31 = .ok (.newarray .int, 2) := by decide +kernel
theorem dX0_init_33 : decode cX0_init 33 = .ok (.putfield 19, 3) := by decide +kernel
theorem dX0_init_36 : decode cX0_init 36 = .ok (.aload_n 0, 1) := by decide +kernel
theorem dX0_init_37 : decode cX0_init 37 = .ok (.bipush 20, 2) := by decide +kernel
theorem dX0_init_39 : decode cX0_init 39 = .ok (.newarray .int, 2) := by decide +kernel
theorem dX0_init_41 : decode cX0_init 41 = .ok (.putfield 22, 3) := by decide +kernel
theorem dX0_init_44 : decode cX0_init 44 = .ok (.aload_n 0, 1) := by decide +kernel
theorem dX0_init_45 : decode cX0_init 45 = .ok (.sipush 1024, 3) := by decide +kernel
theorem dX0_init_48 : decode cX0_init 48 = .ok (.newarray .int, 2) := by decide +kernel
theorem dX0_init_50 : decode cX0_init 50 = .ok (.putfield 25, 3) := by decide +kernel
theorem dX0_init_53 : decode cX0_init 53 = .ok (.aload_n 0, 1) := by decide +kernel
theorem dX0_init_54 : decode cX0_init 54 = .ok (.invokevirtual 28, 3) := by decide +kernel
theorem dX0_init_57 : decode cX0_init 57 = .ok (.return_, 1) := by decide +kernel
set_option maxRecDepth 20000 in
theorem ggX0_invite_X0_refresh : GoodIn wsX0_invite wsX0_refresh := goodIn_r _ [8, 9, 10, 11, 12, 13, 7, 14, 15, 16, 17, 18, 19, 20, 21, 22, 23, 24, 25, 26, 27, 28, 29, 30, 31, 32, 33, 34, 35, 36, 37, 38, 39, 40, 41, 42, 3, 43, 44, 45, 46, 47, 48, 49, 50, 51, 52, 53, 54, 55, 56, 57, 58, 59, 60, 61, 62, 63, 64, 65, 66, 67, 68, 69, 70, 71, 72, 73] (by decide +kernel) (by decide +kernel)
set_option maxRecDepth 20000 in
theorem gX0_invite_X0_refresh : GoodIn wsX0_invite (wsV RX0 28 RX0 yX0_refresh wsX0_refresh) := goodIn_app (goodIn_of _ (by decide +kernel)) ggX0_invite_X0_refresh
theorem dX0_invite_0 : decode cX0_invite 0 = .ok (.aload_n 0, 1) := by decide +kernel
theorem dX0_invite_1 : decode cX0_invite 1 = .ok (.getfield 31, 3) := by decide +kernel
theorem dX0_invite_4 : decode cX0_invite 4 = .ok (.bipush 10, 2) := by decide +kernel
theorem dX0_invite_6 : decode cX0_invite 6 = .ok (.if_icmp .lt 13, 3) := by decide +kernel
theorem dX0_invite_9 : decode cX0_invite 9 = .ok (.new 35, 3) := by decide +kernel
theorem dX0_invite_12 : decode cX0_invite 12 = .ok (.dup, 1) := by decide +kernel
theorem dX0_invite_13 : decode cX0_invite 13 = .ok (.ldc 37, 2) := by decide +kernel
theorem dX0_invite_15 : decode cX0_invite 15 = .ok (.invokespecial 39, 3) := by decide +kernel
theorem dX0_invite_18 : decode cX0_invite 18 = .ok (.athrow, 1) := by decide +kernel
theorem dX0_invite_19 : decode cX0_invite 19 = .ok (.aload_n 0, 1) := by decide +kernel
theorem dX0_invite_20 : decode cX0_invite 20 = .ok (.getfield 31, 3) := by decide +kernel
theorem dX0_invite_23 : decode cX0_invite 23 = .ok (.istore_n 1, 1) := by decide +kernel
theorem dX0_invite_24 : decode cX0_invite 24 = .ok (.aload_n 0, 1) := by decide +kernel
theorem dX0_invite_25 : decode cX0_invite 25 = .ok (.dup, 1) := by decide +kernel
theorem dX0_invite_26 : decode cX0_invite 26 = .ok (.getfield 31, 3) := by decide +kernel
theorem dX0_invite_29 : decode cX0_invite 29 = .ok (.iconst 1, 1) := by decide +kernel
theorem dX0_invite_30 : decode cX0_invite 30 = .ok (.iadd, 1) := by decide +kernel
theorem dX0_invite_31 : decode cX0_invite 31 = .ok (.putfield 31, 3) := by decide +kernel
theorem dX0_invite_34 : decode cX0_invite 34 = .ok (.aload_n 0, 1) := by decide +kernel
theorem dX0_invite_35 : decode cX0_invite 35 = .ok (.invokevirtual 28, 3) := by decide +kernel
theorem dX0_invite_38 : decode cX0_invite 38 = .ok (.iload_n 1, 1) := by decide +kernel
theorem dX0_invite_39 : decode cX0_invite 39 = .ok (.ireturn, 1) := by decide +kernel
set_option maxRecDepth 20000 in
theorem ggX0_rule_X0_requireWishes : GoodIn wsX0_rule wsX0_requireWishes := goodIn_ca (goodIn_r _ [13, 14, 15, 16, 17, 18, 12, 19, 20, 76, 77, 78, 79, 80, 81, 82, 83, 84, 85] (by decide +kernel) (by decide +kernel)) (goodIn_sub (fun _ h => List.mem_cons_of_mem _ (List.mem_append_right _ h)) (by decide +kernel))
set_option maxRecDepth 20000 in
theorem gX0_rule_X0_requireWishes : GoodIn wsX0_rule (wsV RX0 42 RX0 yX0_requireWishes wsX0_requireWishes) := goodIn_app (goodIn_of _ (by decide +kernel)) ggX0_rule_X0_requireWishes
set_option maxRecDepth 20000 in
theorem ggX0_rule_X0_put : GoodIn wsX0_rule wsX0_put := goodIn_r _ [23] (by decide +kernel) (by decide +kernel)
set_option maxRecDepth 20000 in
theorem gX0_rule_X0_put : GoodIn wsX0_rule (va_wsS RX0 56 yX0_put wsX0_put) := goodIn_app (goodIn_of _ (by decide +kernel)) ggX0_rule_X0_put
set_option maxRecDepth 20000 in
theorem ggX0_rule_X0_refresh : GoodIn wsX0_rule wsX0_refresh := goodIn_r _ [27, 28, 29, 30, 31, 32, 12, 33, 5, 8, 6, 7, 34, 35, 36, 37, 38, 39, 40, 41, 42, 21, 22, 23, 43, 44, 45, 46, 47, 48, 49, 50, 51, 52, 53, 54, 20, 55, 56, 57, 58, 59, 60, 61, 62, 63, 64, 65, 66, 67, 68, 69, 70, 71, 72, 73, 74, 75, 76, 77, 78, 79, 80, 81, 82, 83, 84, 85] (by decide +kernel) (by decide +kernel)
set_option maxRecDepth 20000 in
theorem gX0_rule_X0_refresh : GoodIn wsX0_rule (wsV RX0 28 RX0 yX0_refresh wsX0_refresh) := goodIn_app (goodIn_of _ (by decide +kernel)) ggX0_rule_X0_refresh
theorem dX0_rule_0 : decode cX0_rule 0 = .ok (.aload_n 0, 1) := by decide +kernel
theorem dX0_rule_1 : decode cX0_rule 1 = .ok (.iload_n 1, 1) := by decide +kernel
theorem dX0_rule_2 : decode cX0_rule 2 = .ok (.iload_n 2, 1) := by decide +kernel
theorem dX0_rule_3 : decode cX0_rule 3 = .ok (.invokevirtual 42, 3) := by decide +kernel
theorem dX0_rule_6 : decode cX0_rule 6 = .ok (.iload_n 1, 1) := by decide +kernel
theorem dX0_rule_7 : decode cX0_rule 7 = .ok (.iload_n 2, 1) := by decide +kernel
theorem dX0_rule_8 : decode cX0_rule 8 = .ok (.if_icmp .ne 13, 3) := by decide +kernel
theorem dX0_rule_11 : decode cX0_rule 11 = .ok (.new 46, 3) := by decide +kernel
theorem dX0_rule_14 : decode cX0_rule 14 = .ok (.dup, 1) := by decide +kernel
theorem dX0_rule_15 : decode cX0_rule 15 = .ok (.ldc 48, 2) := by decide +kernel
theorem dX0_rule_17 : decode cX0_rule 17 = .ok (.invokespecial 50, 3) := by decide +kernel
theorem dX0_rule_20 : decode cX0_rule 20 = .ok (.athrow, 1) := by decide +kernel
theorem dX0_rule_21 : decode cX0_rule 21 = .ok (.aload_n 0, 1) := by decide +kernel
theorem dX0_rule_22 : decode cX0_rule 22 = .ok (.getfield 51, 3) := by decide +kernel
theorem dX0_rule_25 : decode cX0_rule 25 = .ok (.bipush 30, 2) := by decide +kernel
theorem dX0_rule_27 : decode cX0_rule 27 = .ok (.if_icmp .lt 13, 3) := by decide +kernel
theorem dX0_rule_30 : decode cX0_rule 30 = .ok (.new 35, 3) := by decide +kernel
theorem dX0_rule_33 : decode cX0_rule 33 = .ok (.dup, 1) := by decide +kernel
theorem dX0_rule_34 : decode cX0_rule 34 = .ok (.ldc 54, 2) := by decide +kernel
theorem dX0_rule_36 : decode cX0_rule 36 = .ok (.invokespecial 39, 3) := by decide +kernel
theorem dX0_rule_39 : decode cX0_rule 39 = .ok (.athrow, 1) := by decide +kernel
theorem dX0_rule_40 : decode cX0_rule 40 = .ok (.aload_n 0, 1) := by decide +kernel
theorem dX0_rule_41 : decode cX0_rule 41 = .ok (.getfield 51, 3) := by decide +kernel
theorem dX0_rule_44 : decode cX0_rule 44 = .ok (.istore_n 3, 1) := by decide +kernel
theorem dX0_rule_45 : decode cX0_rule 45 = .ok (.aload_n 0, 1) := by decide +kernel
theorem dX0_rule_46 : decode cX0_rule 46 = .ok (.getfield 9, 3) := by decide +kernel
theorem dX0_rule_49 : decode cX0_rule 49 = .ok (.iload_n 3, 1) := by decide +kernel
theorem dX0_rule_50 : decode cX0_rule 50 = .ok (.iload_n 1, 1) := by decide +kernel
theorem dX0_rule_51 : decode cX0_rule 51 = .ok (.invokestatic 56, 3) := by decide +kernel
theorem dX0_rule_54 : decode cX0_rule 54 = .ok (.aload_n 0, 1) := by decide +kernel
theorem dX0_rule_55 : decode cX0_rule 55 = .ok (.getfield 13, 3) := by decide +kernel
theorem dX0_rule_58 : decode cX0_rule 58 = .ok (.iload_n 3, 1) := by decide +kernel
theorem dX0_rule_59 : decode cX0_rule 59 = .ok (.iload_n 2, 1) := by decide +kernel
theorem dX0_rule_60 : decode cX0_rule 60 = .ok (.invokestatic 56, 3) := by decide +kernel
theorem dX0_rule_63 : decode cX0_rule 63 = .ok (.aload_n 0, 1) := by decide +kernel
theorem dX0_rule_64 : decode cX0_rule 64 = .ok (.dup, 1) := by decide +kernel
theorem dX0_rule_65 : decode cX0_rule 65 = .ok (.getfield 60, 3) := by decide +kernel
theorem dX0_rule_68 : decode cX0_rule 68 = .ok (.iconst 1, 1) := by decide +kernel
theorem dX0_rule_69 : decode cX0_rule 69 = .ok (.iload_n 3, 1) := by decide +kernel
theorem dX0_rule_70 : decode cX0_rule 70 = .ok (.ishl, 1) := by decide +kernel
theorem dX0_rule_71 : decode cX0_rule 71 = .ok (.ior, 1) := by decide +kernel
theorem dX0_rule_72 : decode cX0_rule 72 = .ok (.putfield 60, 3) := by decide +kernel
theorem dX0_rule_75 : decode cX0_rule 75 = .ok (.aload_n 0, 1) := by decide +kernel
theorem dX0_rule_76 : decode cX0_rule 76 = .ok (.dup, 1) := by decide +kernel
theorem dX0_rule_77 : decode cX0_rule 77 = .ok (.getfield 51, 3) := by decide +kernel
theorem dX0_rule_80 : decode cX0_rule 80 = .ok (.iconst 1, 1) := by decide +kernel
theorem dX0_rule_81 : decode cX0_rule 81 = .ok (.iadd, 1) := by decide +kernel
theorem dX0_rule_82 : decode cX0_rule 82 = .ok (.putfield 51, 3) := by decide +kernel
theorem dX0_rule_85 : decode cX0_rule 85 = .ok (.aload_n 0, 1) := by decide +kernel
theorem dX0_rule_86 : decode cX0_rule 86 = .ok (.invokevirtual 28, 3) := by decide +kernel
theorem dX0_rule_89 : decode cX0_rule 89 = .ok (.iload_n 3, 1) := by decide +kernel
theorem dX0_rule_90 : decode cX0_rule 90 = .ok (.ireturn, 1) := by decide +kernel
set_option maxRecDepth 20000 in
theorem ggX0_turn_X0_requireRule : GoodIn wsX0_turn wsX0_requireRule := goodIn_ca (goodIn_r _ [6, 7, 8, 9, 68, 69, 70, 71, 72, 73, 74, 75, 76, 77] (by decide +kernel) (by decide +kernel)) (goodIn_sub (fun _ h => List.mem_cons_of_mem _ (List.mem_append_right _ h)) (by decide +kernel))
set_option maxRecDepth 20000 in
theorem gX0_turn_X0_requireRule : GoodIn wsX0_turn (wsV RX0 63 RX0 yX0_requireRule wsX0_requireRule) := goodIn_app (goodIn_of _ (by decide +kernel)) ggX0_turn_X0_requireRule
set_option maxRecDepth 20000 in
theorem ggX0_turn_X0_refresh : GoodIn wsX0_turn wsX0_refresh := goodIn_r _ [13, 14, 15, 16, 17, 18, 5, 19, 9, 1, 20, 21, 22, 23, 24, 25, 26, 27, 28, 29, 30, 31, 32, 33, 34, 35, 36, 37, 38, 39, 40, 41, 42, 43, 44, 45, 46, 47, 48, 49, 50, 51, 52, 53, 54, 55, 56, 57, 58, 59, 60, 61, 62, 63, 64, 65, 66, 67, 68, 69, 70, 71, 72, 73, 74, 75, 76, 77] (by decide +kernel) (by decide +kernel)
set_option maxRecDepth 20000 in
theorem gX0_turn_X0_refresh : GoodIn wsX0_turn (wsV RX0 28 RX0 yX0_refresh wsX0_refresh) := goodIn_app (goodIn_of _ (by decide +kernel)) ggX0_turn_X0_refresh
set_option maxRecDepth 20000 in
theorem ggX0_turn_X0_has : GoodIn wsX0_turn wsX0_has := goodIn_r _ [24] (by decide +kernel) (by decide +kernel)
set_option maxRecDepth 20000 in
theorem gX0_turn_X0_has : GoodIn wsX0_turn (va_wsS RX0 67 yX0_has wsX0_has) := goodIn_app (goodIn_of _ (by decide +kernel)) ggX0_turn_X0_has
theorem dX0_turn_0 : decode cX0_turn 0 = .ok (.aload_n 0, 1) := by decide +kernel
theorem dX0_turn_1 : decode cX0_turn 1 = .ok (.iload_n 1, 1) := by decide +kernel
theorem dX0_turn_2 : decode cX0_turn 2 = .ok (.invokevirtual 63, 3) := by decide +kernel
theorem dX0_turn_5 : decode cX0_turn 5 = .ok (.aload_n 0, 1) := by decide +kernel
theorem dX0_turn_6 : decode cX0_turn 6 = .ok (.dup, 1) := by decide +kernel
theorem dX0_turn_7 : decode cX0_turn 7 = .ok (.getfield 60, 3) := by decide +kernel
theorem dX0_turn_10 : decode cX0_turn 10 = .ok (.iconst 1, 1) := by decide +kernel
theorem dX0_turn_11 : decode cX0_turn 11 = .ok (.iload_n 1, 1) := by decide +kernel
theorem dX0_turn_12 : decode cX0_turn 12 = .ok (.ishl, 1) := by decide +kernel
theorem dX0_turn_13 : decode cX0_turn 13 = .ok (.ixor, 1) := by decide +kernel
theorem dX0_turn_14 : decode cX0_turn 14 = .ok (.putfield 60, 3) := by decide +kernel
theorem dX0_turn_17 : decode cX0_turn 17 = .ok (.aload_n 0, 1) := by decide +kernel
theorem dX0_turn_18 : decode cX0_turn 18 = .ok (.invokevirtual 28, 3) := by decide +kernel
theorem dX0_turn_21 : decode cX0_turn 21 = .ok (.aload_n 0, 1) := by decide +kernel
theorem dX0_turn_22 : decode cX0_turn 22 = .ok (.getfield 60, 3) := by decide +kernel
theorem dX0_turn_25 : decode cX0_turn 25 = .ok (.iload_n 1, 1) := by decide +kernel
theorem dX0_turn_26 : decode cX0_turn 26 = .ok (.invokestatic 67, 3) := by decide +kernel
theorem dX0_turn_29 : decode cX0_turn 29 = .ok (.ireturn, 1) := by decide +kernel
set_option maxRecDepth 20000 in
theorem ggX0_told_X0_requireRule : GoodIn wsX0_told wsX0_requireRule := goodIn_ca (goodIn_r _ [8, 9, 10, 11, 24, 25, 26, 27, 28, 29, 30, 31, 32, 33] (by decide +kernel) (by decide +kernel)) (goodIn_sub (fun _ h => List.mem_cons_of_mem _ (List.mem_append_right _ h)) (by decide +kernel))
set_option maxRecDepth 20000 in
theorem gX0_told_X0_requireRule : GoodIn wsX0_told (wsV RX0 63 RX0 yX0_requireRule wsX0_requireRule) := goodIn_app (goodIn_of _ (by decide +kernel)) ggX0_told_X0_requireRule
set_option maxRecDepth 20000 in
theorem ggX0_told_X0_requireFact : GoodIn wsX0_told wsX0_requireFact := goodIn_ca (goodIn_r _ [14, 9, 10] (by decide +kernel) (by decide +kernel)) (goodIn_sub (fun _ h => List.mem_cons_of_mem _ (List.mem_append_right _ h)) (by decide +kernel))
set_option maxRecDepth 20000 in
theorem gX0_told_X0_requireFact : GoodIn wsX0_told (va_wsS RX0 71 yX0_requireFact wsX0_requireFact) := goodIn_app (goodIn_of _ (by decide +kernel)) ggX0_told_X0_requireFact
set_option maxRecDepth 20000 in
theorem ggX0_told_X0_at : GoodIn wsX0_told wsX0_at := goodIn_r _ [17] (by decide +kernel) (by decide +kernel)
set_option maxRecDepth 20000 in
theorem gX0_told_X0_at : GoodIn wsX0_told (va_wsS RX0 74 yX0_at wsX0_at) := goodIn_app (goodIn_of _ (by decide +kernel)) ggX0_told_X0_at
set_option maxRecDepth 20000 in
theorem ggX0_told_X0_has : GoodIn wsX0_told wsX0_has := goodIn_r _ [20] (by decide +kernel) (by decide +kernel)
set_option maxRecDepth 20000 in
theorem gX0_told_X0_has : GoodIn wsX0_told (va_wsS RX0 67 yX0_has wsX0_has) := goodIn_app (goodIn_of _ (by decide +kernel)) ggX0_told_X0_has
set_option maxRecDepth 20000 in
theorem ggX0_told_X0_oneIf : GoodIn wsX0_told wsX0_oneIf := goodIn_r _ [23] (by decide +kernel) (by decide +kernel)
set_option maxRecDepth 20000 in
theorem gX0_told_X0_oneIf : GoodIn wsX0_told (va_wsS RX0 78 yX0_oneIf wsX0_oneIf) := goodIn_app (goodIn_of _ (by decide +kernel)) ggX0_told_X0_oneIf
theorem dX0_told_0 : decode cX0_told 0 = .ok (.aload_n 0, 1) := by decide +kernel
theorem dX0_told_1 : decode cX0_told 1 = .ok (.iload_n 1, 1) := by decide +kernel
theorem dX0_told_2 : decode cX0_told 2 = .ok (.invokevirtual 63, 3) := by decide +kernel
theorem dX0_told_5 : decode cX0_told 5 = .ok (.iload_n 2, 1) := by decide +kernel
theorem dX0_told_6 : decode cX0_told 6 = .ok (.iconst 3, 1) := by decide +kernel
theorem dX0_told_7 : decode cX0_told 7 = .ok (.invokestatic 71, 3) := by decide +kernel
theorem dX0_told_10 : decode cX0_told 10 = .ok (.iload_n 2, 1) := by decide +kernel
theorem dX0_told_11 : decode cX0_told 11 = .ok (.ifCond .ne 12, 3) := by decide +kernel
theorem dX0_told_14 : decode cX0_told 14 = .ok (.aload_n 0, 1) := by decide +kernel
theorem dX0_told_15 : decode cX0_told 15 = .ok (.getfield 9, 3) := by decide +kernel
theorem dX0_told_18 : decode cX0_told 18 = .ok (.iload_n 1, 1) := by decide +kernel
theorem dX0_told_19 : decode cX0_told 19 = .ok (.invokestatic 74, 3) := by decide +kernel
theorem dX0_told_22 : decode cX0_told 22 = .ok (.ireturn, 1) := by decide +kernel
theorem dX0_told_23 : decode cX0_told 23 = .ok (.iload_n 2, 1) := by decide +kernel
theorem dX0_told_24 : decode cX0_told 24 = .ok (.iconst 1, 1) := by decide +kernel
theorem dX0_told_25 : decode cX0_told 25 = .ok (.if_icmp .ne 12, 3) := by decide +kernel
theorem dX0_told_28 : decode cX0_told 28 = .ok (.aload_n 0, 1) := by decide +kernel
theorem dX0_told_29 : decode cX0_told 29 = .ok (.getfield 13, 3) := by decide +kernel
theorem dX0_told_32 : decode cX0_told 32 = .ok (.iload_n 1, 1) := by decide +kernel
theorem dX0_told_33 : decode cX0_told 33 = .ok (.invokestatic 74, 3) := by decide +kernel
theorem dX0_told_36 : decode cX0_told 36 = .ok (.ireturn, 1) := by decide +kernel
theorem dX0_told_37 : decode cX0_told 37 = .ok (.aload_n 0, 1) := by decide +kernel
theorem dX0_told_38 : decode cX0_told 38 = .ok (.getfield 60, 3) := by decide +kernel
theorem dX0_told_41 : decode cX0_told 41 = .ok (.iload_n 1, 1) := by decide +kernel
theorem dX0_told_42 : decode cX0_told 42 = .ok (.invokestatic 67, 3) := by decide +kernel
theorem dX0_told_45 : decode cX0_told 45 = .ok (.invokestatic 78, 3) := by decide +kernel
theorem dX0_told_48 : decode cX0_told 48 = .ok (.ireturn, 1) := by decide +kernel
set_option maxRecDepth 20000 in
theorem ggX0_follows_X0_requireWishes : GoodIn wsX0_follows wsX0_requireWishes := goodIn_ca (goodIn_r _ [6, 7, 8, 9, 10, 11, 5, 12, 13, 20, 21, 22, 23, 24, 25, 26, 27, 28, 29] (by decide +kernel) (by decide +kernel)) (goodIn_sub (fun _ h => List.mem_cons_of_mem _ (List.mem_append_right _ h)) (by decide +kernel))
set_option maxRecDepth 20000 in
theorem gX0_follows_X0_requireWishes : GoodIn wsX0_follows (wsV RX0 42 RX0 yX0_requireWishes wsX0_requireWishes) := goodIn_app (goodIn_of _ (by decide +kernel)) ggX0_follows_X0_requireWishes
set_option maxRecDepth 20000 in
theorem ggX0_follows_X0_at : GoodIn wsX0_follows wsX0_at := goodIn_r _ [16] (by decide +kernel) (by decide +kernel)
set_option maxRecDepth 20000 in
theorem gX0_follows_X0_at : GoodIn wsX0_follows (va_wsS RX0 74 yX0_at wsX0_at) := goodIn_app (goodIn_of _ (by decide +kernel)) ggX0_follows_X0_at
set_option maxRecDepth 20000 in
theorem ggX0_follows_X0_has : GoodIn wsX0_follows wsX0_has := goodIn_r _ [19] (by decide +kernel) (by decide +kernel)
set_option maxRecDepth 20000 in
theorem gX0_follows_X0_has : GoodIn wsX0_follows (va_wsS RX0 67 yX0_has wsX0_has) := goodIn_app (goodIn_of _ (by decide +kernel)) ggX0_follows_X0_has
theorem dX0_follows_0 : decode cX0_follows 0 = .ok (.aload_n 0, 1) := by decide +kernel
theorem dX0_follows_1 : decode cX0_follows 1 = .ok (.iload_n 1, 1) := by decide +kernel
theorem dX0_follows_2 : decode cX0_follows 2 = .ok (.iload_n 2, 1) := by decide +kernel
theorem dX0_follows_3 : decode cX0_follows 3 = .ok (.invokevirtual 42, 3) := by decide +kernel
theorem dX0_follows_6 : decode cX0_follows 6 = .ok (.aload_n 0, 1) := by decide +kernel
theorem dX0_follows_7 : decode cX0_follows 7 = .ok (.getfield 19, 3) := by decide +kernel
theorem dX0_follows_10 : decode cX0_follows 10 = .ok (.iload_n 1, 1) := by decide +kernel
theorem dX0_follows_11 : decode cX0_follows 11 = .ok (.invokestatic 74, 3) := by decide +kernel
theorem dX0_follows_14 : decode cX0_follows 14 = .ok (.iload_n 2, 1) := by decide +kernel
theorem dX0_follows_15 : decode cX0_follows 15 = .ok (.invokestatic 67, 3) := by decide +kernel
theorem dX0_follows_18 : decode cX0_follows 18 = .ok (.ireturn, 1) := by decide +kernel
set_option maxRecDepth 20000 in
theorem ggX0_reach_X0_requireWishes : GoodIn wsX0_reach wsX0_requireWishes := goodIn_ca (goodIn_r _ [6, 7, 8, 9, 10, 11, 5, 12, 13, 17, 18, 19, 20, 21, 22, 23, 24, 25, 26] (by decide +kernel) (by decide +kernel)) (goodIn_sub (fun _ h => List.mem_cons_of_mem _ (List.mem_append_right _ h)) (by decide +kernel))
set_option maxRecDepth 20000 in
theorem gX0_reach_X0_requireWishes : GoodIn wsX0_reach (wsV RX0 42 RX0 yX0_requireWishes wsX0_requireWishes) := goodIn_app (goodIn_of _ (by decide +kernel)) ggX0_reach_X0_requireWishes
set_option maxRecDepth 20000 in
theorem ggX0_reach_X0_at : GoodIn wsX0_reach wsX0_at := goodIn_r _ [16] (by decide +kernel) (by decide +kernel)
set_option maxRecDepth 20000 in
theorem gX0_reach_X0_at : GoodIn wsX0_reach (va_wsS RX0 74 yX0_at wsX0_at) := goodIn_app (goodIn_of _ (by decide +kernel)) ggX0_reach_X0_at
theorem dX0_reach_0 : decode cX0_reach 0 = .ok (.aload_n 0, 1) := by decide +kernel
theorem dX0_reach_1 : decode cX0_reach 1 = .ok (.iload_n 1, 1) := by decide +kernel
theorem dX0_reach_2 : decode cX0_reach 2 = .ok (.iload_n 1, 1) := by decide +kernel
theorem dX0_reach_3 : decode cX0_reach 3 = .ok (.invokevirtual 42, 3) := by decide +kernel
theorem dX0_reach_6 : decode cX0_reach 6 = .ok (.aload_n 0, 1) := by decide +kernel
theorem dX0_reach_7 : decode cX0_reach 7 = .ok (.getfield 19, 3) := by decide +kernel
theorem dX0_reach_10 : decode cX0_reach 10 = .ok (.iload_n 1, 1) := by decide +kernel
theorem dX0_reach_11 : decode cX0_reach 11 = .ok (.invokestatic 74, 3) := by decide +kernel
theorem dX0_reach_14 : decode cX0_reach 14 = .ok (.ireturn, 1) := by decide +kernel
set_option maxRecDepth 20000 in
theorem ggX0_steps_X0_requireWishes : GoodIn wsX0_steps wsX0_requireWishes := goodIn_ca (goodIn_r _ [5, 6, 7, 8, 9, 10, 4, 11, 12, 24, 25, 26, 27, 28, 29, 30, 31, 32, 33] (by decide +kernel) (by decide +kernel)) (goodIn_sub (fun _ h => List.mem_cons_of_mem _ (List.mem_append_right _ h)) (by decide +kernel))
set_option maxRecDepth 20000 in
theorem gX0_steps_X0_requireWishes : GoodIn wsX0_steps (wsV RX0 42 RX0 yX0_requireWishes wsX0_requireWishes) := goodIn_app (goodIn_of _ (by decide +kernel)) ggX0_steps_X0_requireWishes
set_option maxRecDepth 20000 in
theorem ggX0_steps_X0_has : GoodIn wsX0_steps wsX0_has := goodIn_r _ [15] (by decide +kernel) (by decide +kernel)
set_option maxRecDepth 20000 in
theorem gX0_steps_X0_has : GoodIn wsX0_steps (va_wsS RX0 67 yX0_has wsX0_has) := goodIn_app (goodIn_of _ (by decide +kernel)) ggX0_steps_X0_has
set_option maxRecDepth 20000 in
theorem ggX0_steps_X0_oneStepOn : GoodIn wsX0_steps wsX0_oneStepOn := goodIn_r _ [19, 20, 8, 9, 10, 4, 11, 12, 13, 14, 15, 21, 22, 23, 24, 25, 26, 27, 28, 29, 30, 31, 32, 33] (by decide +kernel) (by decide +kernel)
set_option maxRecDepth 20000 in
theorem gX0_steps_X0_oneStepOn : GoodIn wsX0_steps (wsV RX0 82 RX0 yX0_oneStepOn wsX0_oneStepOn) := goodIn_app (goodIn_of _ (by decide +kernel)) ggX0_steps_X0_oneStepOn
theorem dX0_steps_0 : decode cX0_steps 0 = .ok (.aload_n 0, 1) := by decide +kernel
theorem dX0_steps_1 : decode cX0_steps 1 = .ok (.iload_n 1, 1) := by decide +kernel
theorem dX0_steps_2 : decode cX0_steps 2 = .ok (.iload_n 2, 1) := by decide +kernel
theorem dX0_steps_3 : decode cX0_steps 3 = .ok (.invokevirtual 42, 3) := by decide +kernel
theorem dX0_steps_6 : decode cX0_steps 6 = .ok (.iconst 1, 1) := by decide +kernel
theorem dX0_steps_7 : decode cX0_steps 7 = .ok (.iload_n 1, 1) := by decide +kernel
theorem dX0_steps_8 : decode cX0_steps 8 = .ok (.ishl, 1) := by decide +kernel
theorem dX0_steps_9 : decode cX0_steps 9 = .ok (.istore_n 3, 1) := by decide +kernel
theorem dX0_steps_10 : decode cX0_steps 10 = .ok (.iconst 0, 1) := by decide +kernel
theorem dX0_steps_11 : decode cX0_steps 11 = .ok (.istore 4, 2) := by decide +kernel
theorem dX0_steps_13 : decode cX0_steps 13 = .ok (.iload 4, 2) := by decide +kernel
theorem dX0_steps_15 : decode cX0_steps 15 = .ok (.bipush 20, 2) := by decide +kernel
theorem dX0_steps_17 : decode cX0_steps 17 = .ok (.if_icmp .ge 26, 3) := by decide +kernel
theorem dX0_steps_20 : decode cX0_steps 20 = .ok (.iload_n 3, 1) := by decide +kernel
theorem dX0_steps_21 : decode cX0_steps 21 = .ok (.iload_n 2, 1) := by decide +kernel
theorem dX0_steps_22 : decode cX0_steps 22 = .ok (.invokestatic 67, 3) := by decide +kernel
theorem dX0_steps_25 : decode cX0_steps 25 = .ok (.ifCond .eq 6, 3) := by decide +kernel
theorem dX0_steps_28 : decode cX0_steps 28 = .ok (.iload 4, 2) := by decide +kernel
theorem dX0_steps_30 : decode cX0_steps 30 = .ok (.ireturn, 1) := by decide +kernel
theorem dX0_steps_31 : decode cX0_steps 31 = .ok (.aload_n 0, 1) := by decide +kernel
theorem dX0_steps_32 : decode cX0_steps 32 = .ok (.iload_n 3, 1) := by decide +kernel
theorem dX0_steps_33 : decode cX0_steps 33 = .ok (.invokevirtual 82, 3) := by decide +kernel
theorem dX0_steps_36 : decode cX0_steps 36 = .ok (.istore_n 3, 1) := by decide +kernel
theorem dX0_steps_37 : decode cX0_steps 37 = .ok (.iinc 4 1, 3) := by decide +kernel
theorem dX0_steps_40 : decode cX0_steps 40 = .ok (.goto (-27), 3) := by decide +kernel
theorem dX0_steps_43 : decode cX0_steps 43 = .ok (.iconst (-1), 1) := by decide +kernel
theorem dX0_steps_44 : decode cX0_steps 44 = .ok (.ireturn, 1) := by decide +kernel
set_option maxRecDepth 20000 in
theorem ggX0_guest_X0_requireGuest : GoodIn wsX0_guest wsX0_requireGuest := goodIn_ca (goodIn_r _ [6, 7, 8, 9, 54, 55, 56, 57, 58, 59, 60, 61, 62, 63] (by decide +kernel) (by decide +kernel)) (goodIn_sub (fun _ h => List.mem_cons_of_mem _ (List.mem_append_right _ h)) (by decide +kernel))
set_option maxRecDepth 20000 in
theorem gX0_guest_X0_requireGuest : GoodIn wsX0_guest (wsV RX0 86 RX0 yX0_requireGuest wsX0_requireGuest) := goodIn_app (goodIn_of _ (by decide +kernel)) ggX0_guest_X0_requireGuest
set_option maxRecDepth 20000 in
theorem ggX0_guest_X0_requireFact : GoodIn wsX0_guest wsX0_requireFact := goodIn_ca (goodIn_r _ [12, 7, 8] (by decide +kernel) (by decide +kernel)) (goodIn_sub (fun _ h => List.mem_cons_of_mem _ (List.mem_append_right _ h)) (by decide +kernel))
set_option maxRecDepth 20000 in
theorem gX0_guest_X0_requireFact : GoodIn wsX0_guest (va_wsS RX0 71 yX0_requireFact wsX0_requireFact) := goodIn_app (goodIn_of _ (by decide +kernel)) ggX0_guest_X0_requireFact
set_option maxRecDepth 20000 in
theorem ggX0_guest_X0_fits : GoodIn wsX0_guest wsX0_fits := goodIn_r _ [16, 1, 17, 18, 19, 5, 20, 9, 21, 22, 23, 24, 25, 26, 27, 28, 29, 30, 31, 32, 33, 34, 35, 36, 37, 38, 54, 55, 56, 57, 58, 59, 60, 61, 62, 63] (by decide +kernel) (by decide +kernel)
set_option maxRecDepth 20000 in
theorem gX0_guest_X0_fits : GoodIn wsX0_guest (wsV RX0 89 RX0 yX0_fits wsX0_fits) := goodIn_app (goodIn_of _ (by decide +kernel)) ggX0_guest_X0_fits
set_option maxRecDepth 20000 in
theorem ggX0_guest_X0_against : GoodIn wsX0_guest wsX0_against := goodIn_r _ [32] (by decide +kernel) (by decide +kernel)
set_option maxRecDepth 20000 in
theorem gX0_guest_X0_against : GoodIn wsX0_guest (va_wsS RX0 93 yX0_against wsX0_against) := goodIn_app (goodIn_of _ (by decide +kernel)) ggX0_guest_X0_against
set_option maxRecDepth 20000 in
theorem ggX0_guest_X0_isVain : GoodIn wsX0_guest wsX0_isVain := goodIn_r _ [26, 27, 28, 5, 29, 30, 31, 32, 33, 34, 35] (by decide +kernel) (by decide +kernel)
set_option maxRecDepth 20000 in
theorem gX0_guest_X0_isVain : GoodIn wsX0_guest (va_wsS RX0 96 yX0_isVain wsX0_isVain) := goodIn_app (goodIn_of _ (by decide +kernel)) ggX0_guest_X0_isVain
set_option maxRecDepth 20000 in
theorem ggX0_guest_X0_oneIf : GoodIn wsX0_guest wsX0_oneIf := goodIn_r _ [38] (by decide +kernel) (by decide +kernel)
set_option maxRecDepth 20000 in
theorem gX0_guest_X0_oneIf : GoodIn wsX0_guest (va_wsS RX0 78 yX0_oneIf wsX0_oneIf) := goodIn_app (goodIn_of _ (by decide +kernel)) ggX0_guest_X0_oneIf
set_option maxRecDepth 20000 in
theorem ggX0_guest_X0_isTorn : GoodIn wsX0_guest wsX0_isTorn := goodIn_r _ [23, 24, 25, 5, 26, 27, 28, 29, 30, 31, 32, 33, 34, 35] (by decide +kernel) (by decide +kernel)
set_option maxRecDepth 20000 in
theorem gX0_guest_X0_isTorn : GoodIn wsX0_guest (va_wsS RX0 100 yX0_isTorn wsX0_isTorn) := goodIn_app (goodIn_of _ (by decide +kernel)) ggX0_guest_X0_isTorn
set_option maxRecDepth 20000 in
theorem ggX0_guest_X0_guestsBoundTo : GoodIn wsX0_guest wsX0_guestsBoundTo := goodIn_r _ [42, 1, 43, 44, 45, 5, 46, 9, 27, 28, 29, 33, 34, 35, 54, 55, 56, 57, 58, 59, 60, 61, 62, 63] (by decide +kernel) (by decide +kernel)
set_option maxRecDepth 20000 in
theorem gX0_guest_X0_guestsBoundTo : GoodIn wsX0_guest (wsV RX0 103 RX0 yX0_guestsBoundTo wsX0_guestsBoundTo) := goodIn_app (goodIn_of _ (by decide +kernel)) ggX0_guest_X0_guestsBoundTo
set_option maxRecDepth 20000 in
theorem ggX0_guest_J6_bitCount_0f7a4 : GoodIn wsX0_guest wsJ6_bitCount_0f7a4 := goodIn_r _ [50, 51, 52, 53] (by decide +kernel) (by decide +kernel)
set_option maxRecDepth 20000 in
theorem gX0_guest_J6_bitCount_0f7a4 : GoodIn wsX0_guest (va_wsS RX0 106 yJ6_bitCount_0f7a4 wsJ6_bitCount_0f7a4) := goodIn_app (goodIn_of _ (by decide +kernel)) ggX0_guest_J6_bitCount_0f7a4
theorem dX0_guest_0 : decode cX0_guest 0 = .ok (.aload_n 0, 1) := by decide +kernel
theorem dX0_guest_1 : decode cX0_guest 1 = .ok (.iload_n 1, 1) := by decide +kernel
theorem dX0_guest_2 : decode cX0_guest 2 = .ok (.invokevirtual 86, 3) := by decide +kernel
theorem dX0_guest_5 : decode cX0_guest 5 = .ok (.iload_n 2, 1) := by decide +kernel
theorem dX0_guest_6 : decode cX0_guest 6 = .ok (.iconst 4, 1) := by decide +kernel
theorem dX0_guest_7 : decode cX0_guest 7 = .ok (.invokestatic 71, 3) := by decide +kernel
theorem dX0_guest_10 : decode cX0_guest 10 = .ok (.iconst 2, 1) := by decide +kernel
theorem dX0_guest_11 : decode cX0_guest 11 = .ok (.iload_n 1, 1) := by decide +kernel
theorem dX0_guest_12 : decode cX0_guest 12 = .ok (.imul, 1) := by decide +kernel
theorem dX0_guest_13 : decode cX0_guest 13 = .ok (.istore_n 3, 1) := by decide +kernel
theorem dX0_guest_14 : decode cX0_guest 14 = .ok (.iload_n 2, 1) := by decide +kernel
theorem dX0_guest_15 : decode cX0_guest 15 = .ok (.tableswitch 94 0 2 #[25, 55, 82], 25) := by decide +kernel
theorem dX0_guest_40 : decode cX0_guest 40 = .ok (.aload_n 0, 1) := by decide +kernel
theorem dX0_guest_41 : decode cX0_guest 41 = .ok (.invokevirtual 89, 3) := by decide +kernel
theorem dX0_guest_44 : decode cX0_guest 44 = .ok (.ifCond .eq 21, 3) := by decide +kernel
theorem dX0_guest_47 : decode cX0_guest 47 = .ok (.aload_n 0, 1) := by decide +kernel
theorem dX0_guest_48 : decode cX0_guest 48 = .ok (.getfield 19, 3) := by decide +kernel
theorem dX0_guest_51 : decode cX0_guest 51 = .ok (.iload_n 3, 1) := by decide +kernel
theorem dX0_guest_52 : decode cX0_guest 52 = .ok (.invokestatic 93, 3) := by decide +kernel
theorem dX0_guest_55 : decode cX0_guest 55 = .ok (.invokestatic 96, 3) := by decide +kernel
theorem dX0_guest_58 : decode cX0_guest 58 = .ok (.ifCond .eq 7, 3) := by decide +kernel
theorem dX0_guest_61 : decode cX0_guest 61 = .ok (.iconst 1, 1) := by decide +kernel
theorem dX0_guest_62 : decode cX0_guest 62 = .ok (.goto 4, 3) := by decide +kernel
theorem dX0_guest_65 : decode cX0_guest 65 = .ok (.iconst 0, 1) := by decide +kernel
theorem dX0_guest_66 : decode cX0_guest 66 = .ok (.invokestatic 78, 3) := by decide +kernel
theorem dX0_guest_69 : decode cX0_guest 69 = .ok (.ireturn, 1) := by decide +kernel
theorem dX0_guest_70 : decode cX0_guest 70 = .ok (.aload_n 0, 1) := by decide +kernel
theorem dX0_guest_71 : decode cX0_guest 71 = .ok (.invokevirtual 89, 3) := by decide +kernel
theorem dX0_guest_74 : decode cX0_guest 74 = .ok (.ifCond .eq 18, 3) := by decide +kernel
theorem dX0_guest_77 : decode cX0_guest 77 = .ok (.aload_n 0, 1) := by decide +kernel
theorem dX0_guest_78 : decode cX0_guest 78 = .ok (.getfield 19, 3) := by decide +kernel
theorem dX0_guest_81 : decode cX0_guest 81 = .ok (.iload_n 3, 1) := by decide +kernel
theorem dX0_guest_82 : decode cX0_guest 82 = .ok (.invokestatic 96, 3) := by decide +kernel
theorem dX0_guest_85 : decode cX0_guest 85 = .ok (.ifCond .eq 7, 3) := by decide +kernel
theorem dX0_guest_88 : decode cX0_guest 88 = .ok (.iconst 1, 1) := by decide +kernel
theorem dX0_guest_89 : decode cX0_guest 89 = .ok (.goto 4, 3) := by decide +kernel
theorem dX0_guest_92 : decode cX0_guest 92 = .ok (.iconst 0, 1) := by decide +kernel
theorem dX0_guest_93 : decode cX0_guest 93 = .ok (.invokestatic 78, 3) := by decide +kernel
theorem dX0_guest_96 : decode cX0_guest 96 = .ok (.ireturn, 1) := by decide +kernel
theorem dX0_guest_97 : decode cX0_guest 97 = .ok (.aload_n 0, 1) := by decide +kernel
theorem dX0_guest_98 : decode cX0_guest 98 = .ok (.getfield 19, 3) := by decide +kernel
theorem dX0_guest_101 : decode cX0_guest 101 = .ok (.iload_n 1, 1) := by decide +kernel
theorem dX0_guest_102 : decode cX0_guest 102 = .ok (.invokestatic 100, 3) := by decide +kernel
theorem dX0_guest_105 : decode cX0_guest 105 = .ok (.invokestatic 78, 3) := by decide +kernel
theorem dX0_guest_108 : decode cX0_guest 108 = .ok (.ireturn, 1) := by decide +kernel
theorem dX0_guest_109 : decode cX0_guest 109 = .ok (.aload_n 0, 1) := by decide +kernel
theorem dX0_guest_110 : decode cX0_guest 110 = .ok (.iload_n 3, 1) := by decide +kernel
theorem dX0_guest_111 : decode cX0_guest 111 = .ok (.invokevirtual 103, 3) := by decide +kernel
theorem dX0_guest_114 : decode cX0_guest 114 = .ok (.invokestatic 106, 3) := by decide +kernel
theorem dX0_guest_117 : decode cX0_guest 117 = .ok (.ireturn, 1) := by decide +kernel
set_option maxRecDepth 20000 in
theorem ggX0_fits_X0_countTorn : GoodIn wsX0_fits wsX0_countTorn := goodIn_r _ [6, 7, 8, 9, 5, 10, 11, 12, 13, 14, 15, 16, 17, 18, 19, 20, 21, 22, 23, 24, 25, 26, 27, 28, 29, 30, 31, 32, 33, 34, 35] (by decide +kernel) (by decide +kernel)
set_option maxRecDepth 20000 in
theorem gX0_fits_X0_countTorn : GoodIn wsX0_fits (wsV RX0 111 RX0 yX0_countTorn wsX0_countTorn) := goodIn_app (goodIn_of _ (by decide +kernel)) ggX0_fits_X0_countTorn
theorem dX0_fits_0 : decode cX0_fits 0 = .ok (.aload_n 0, 1) := by decide +kernel
theorem dX0_fits_1 : decode cX0_fits 1 = .ok (.aload_n 0, 1) := by decide +kernel
theorem dX0_fits_2 : decode cX0_fits 2 = .ok (.getfield 19, 3) := by decide +kernel
theorem dX0_fits_5 : decode cX0_fits 5 = .ok (.invokevirtual 111, 3) := by decide +kernel
theorem dX0_fits_8 : decode cX0_fits 8 = .ok (.ifCond .ne 7, 3) := by decide +kernel
theorem dX0_fits_11 : decode cX0_fits 11 = .ok (.iconst 1, 1) := by decide +kernel
theorem dX0_fits_12 : decode cX0_fits 12 = .ok (.goto 4, 3) := by decide +kernel
theorem dX0_fits_15 : decode cX0_fits 15 = .ok (.iconst 0, 1) := by decide +kernel
theorem dX0_fits_16 : decode cX0_fits 16 = .ok (.ireturn, 1) := by decide +kernel
set_option maxRecDepth 20000 in
theorem ggX0_seat_X0_at : GoodIn wsX0_seat wsX0_at := goodIn_r _ [6] (by decide +kernel) (by decide +kernel)
set_option maxRecDepth 20000 in
theorem gX0_seat_X0_at : GoodIn wsX0_seat (va_wsS RX0 74 yX0_at wsX0_at) := goodIn_app (goodIn_of _ (by decide +kernel)) ggX0_seat_X0_at
set_option maxRecDepth 20000 in
theorem ggX0_seat_X0_guestsComing : GoodIn wsX0_seat wsX0_guestsComing := goodIn_r _ [10, 11, 12, 13, 5, 14, 15, 16, 17, 18, 19, 20, 21, 22, 23, 24] (by decide +kernel) (by decide +kernel)
set_option maxRecDepth 20000 in
theorem gX0_seat_X0_guestsComing : GoodIn wsX0_seat (wsV RX0 118 RX0 yX0_guestsComing wsX0_guestsComing) := goodIn_app (goodIn_of _ (by decide +kernel)) ggX0_seat_X0_guestsComing
theorem dX0_seat_0 : decode cX0_seat 0 = .ok (.aload_n 0, 1) := by decide +kernel
theorem dX0_seat_1 : decode cX0_seat 1 = .ok (.getfield 115, 3) := by decide +kernel
theorem dX0_seat_4 : decode cX0_seat 4 = .ok (.ifCond .ne 7, 3) := by decide +kernel
theorem dX0_seat_7 : decode cX0_seat 7 = .ok (.iconst (-1), 1) := by decide +kernel
theorem dX0_seat_8 : decode cX0_seat 8 = .ok (.goto 15, 3) := by decide +kernel
theorem dX0_seat_11 : decode cX0_seat 11 = .ok (.aload_n 0, 1) := by decide +kernel
theorem dX0_seat_12 : decode cX0_seat 12 = .ok (.aload_n 0, 1) := by decide +kernel
theorem dX0_seat_13 : decode cX0_seat 13 = .ok (.getfield 25, 3) := by decide +kernel
theorem dX0_seat_16 : decode cX0_seat 16 = .ok (.iconst 0, 1) := by decide +kernel
theorem dX0_seat_17 : decode cX0_seat 17 = .ok (.invokestatic 74, 3) := by decide +kernel
theorem dX0_seat_20 : decode cX0_seat 20 = .ok (.invokevirtual 118, 3) := by decide +kernel
theorem dX0_seat_23 : decode cX0_seat 23 = .ok (.ireturn, 1) := by decide +kernel
theorem dX0_seatings_0 : decode cX0_seatings 0 = .ok (.aload_n 0, 1) := by decide +kernel
theorem dX0_seatings_1 : decode cX0_seatings 1 = .ok (.getfield 115, 3) := by decide +kernel
theorem dX0_seatings_4 : decode cX0_seatings 4 = .ok (.ireturn, 1) := by decide +kernel
set_option maxRecDepth 20000 in
theorem ggX0_fewest_X0_at : GoodIn wsX0_fewest wsX0_at := goodIn_r _ [6] (by decide +kernel) (by decide +kernel)
set_option maxRecDepth 20000 in
theorem gX0_fewest_X0_at : GoodIn wsX0_fewest (va_wsS RX0 74 yX0_at wsX0_at) := goodIn_app (goodIn_of _ (by decide +kernel)) ggX0_fewest_X0_at
set_option maxRecDepth 20000 in
theorem ggX0_fewest_X0_countComing : GoodIn wsX0_fewest wsX0_countComing := goodIn_r _ [9, 10, 11, 12, 13, 14, 15, 16, 17] (by decide +kernel) (by decide +kernel)
set_option maxRecDepth 20000 in
theorem gX0_fewest_X0_countComing : GoodIn wsX0_fewest (va_wsS RX0 121 yX0_countComing wsX0_countComing) := goodIn_app (goodIn_of _ (by decide +kernel)) ggX0_fewest_X0_countComing
theorem dX0_fewest_0 : decode cX0_fewest 0 = .ok (.iconst (-1), 1) := by decide +kernel
theorem dX0_fewest_1 : decode cX0_fewest 1 = .ok (.istore_n 1, 1) := by decide +kernel
theorem dX0_fewest_2 : decode cX0_fewest 2 = .ok (.iconst 0, 1) := by decide +kernel
theorem dX0_fewest_3 : decode cX0_fewest 3 = .ok (.istore_n 2, 1) := by decide +kernel
theorem dX0_fewest_4 : decode cX0_fewest 4 = .ok (.iload_n 2, 1) := by decide +kernel
theorem dX0_fewest_5 : decode cX0_fewest 5 = .ok (.aload_n 0, 1) := by decide +kernel
theorem dX0_fewest_6 : decode cX0_fewest 6 = .ok (.getfield 115, 3) := by decide +kernel
theorem dX0_fewest_9 : decode cX0_fewest 9 = .ok (.if_icmp .ge 32, 3) := by decide +kernel
theorem dX0_fewest_12 : decode cX0_fewest 12 = .ok (.aload_n 0, 1) := by decide +kernel
theorem dX0_fewest_13 : decode cX0_fewest 13 = .ok (.getfield 25, 3) := by decide +kernel
theorem dX0_fewest_16 : decode cX0_fewest 16 = .ok (.iload_n 2, 1) := by decide +kernel
theorem dX0_fewest_17 : decode cX0_fewest 17 = .ok (.invokestatic 74, 3) := by decide +kernel
theorem dX0_fewest_20 : decode cX0_fewest 20 = .ok (.invokestatic 121, 3) := by decide +kernel
theorem dX0_fewest_23 : decode cX0_fewest 23 = .ok (.istore_n 3, 1) := by decide +kernel
theorem dX0_fewest_24 : decode cX0_fewest 24 = .ok (.iload_n 2, 1) := by decide +kernel
theorem dX0_fewest_25 : decode cX0_fewest 25 = .ok (.ifCond .eq 8, 3) := by decide +kernel
theorem dX0_fewest_28 : decode cX0_fewest 28 = .ok (.iload_n 3, 1) := by decide +kernel
theorem dX0_fewest_29 : decode cX0_fewest 29 = .ok (.iload_n 1, 1) := by decide +kernel
theorem dX0_fewest_30 : decode cX0_fewest 30 = .ok (.if_icmp .ge 5, 3) := by decide +kernel
theorem dX0_fewest_33 : decode cX0_fewest 33 = .ok (.iload_n 3, 1) := by decide +kernel
theorem dX0_fewest_34 : decode cX0_fewest 34 = .ok (.istore_n 1, 1) := by decide +kernel
theorem dX0_fewest_35 : decode cX0_fewest 35 = .ok (.iinc 2 1, 3) := by decide +kernel
theorem dX0_fewest_38 : decode cX0_fewest 38 = .ok (.goto (-34), 3) := by decide +kernel
theorem dX0_fewest_41 : decode cX0_fewest 41 = .ok (.iload_n 1, 1) := by decide +kernel
theorem dX0_fewest_42 : decode cX0_fewest 42 = .ok (.ireturn, 1) := by decide +kernel
set_option maxRecDepth 20000 in
theorem ggX0_most_X0_at : GoodIn wsX0_most wsX0_at := goodIn_r _ [10] (by decide +kernel) (by decide +kernel)
set_option maxRecDepth 20000 in
theorem gX0_most_X0_at : GoodIn wsX0_most (va_wsS RX0 74 yX0_at wsX0_at) := goodIn_app (goodIn_of _ (by decide +kernel)) ggX0_most_X0_at
set_option maxRecDepth 20000 in
theorem ggX0_most_X0_countComing : GoodIn wsX0_most wsX0_countComing := goodIn_r _ [13, 14, 15, 16, 17, 18, 19, 20, 21] (by decide +kernel) (by decide +kernel)
set_option maxRecDepth 20000 in
theorem gX0_most_X0_countComing : GoodIn wsX0_most (va_wsS RX0 121 yX0_countComing wsX0_countComing) := goodIn_app (goodIn_of _ (by decide +kernel)) ggX0_most_X0_countComing
theorem dX0_most_0 : decode cX0_most 0 = .ok (.iconst (-1), 1) := by decide +kernel
theorem dX0_most_1 : decode cX0_most 1 = .ok (.istore_n 1, 1) := by decide +kernel
theorem dX0_most_2 : decode cX0_most 2 = .ok (.iconst 0, 1) := by decide +kernel
theorem dX0_most_3 : decode cX0_most 3 = .ok (.istore_n 2, 1) := by decide +kernel
theorem dX0_most_4 : decode cX0_most 4 = .ok (.iload_n 2, 1) := by decide +kernel
theorem dX0_most_5 : decode cX0_most 5 = .ok (.aload_n 0, 1) := by decide +kernel
theorem dX0_most_6 : decode cX0_most 6 = .ok (.getfield 115, 3) := by decide +kernel
theorem dX0_most_9 : decode cX0_most 9 = .ok (.if_icmp .ge 25, 3) := by decide +kernel
theorem dX0_most_12 : decode cX0_most 12 = .ok (.iload_n 1, 1) := by decide +kernel
theorem dX0_most_13 : decode cX0_most 13 = .ok (.aload_n 0, 1) := by decide +kernel
theorem dX0_most_14 : decode cX0_most 14 = .ok (.getfield 25, 3) := by decide +kernel
theorem dX0_most_17 : decode cX0_most 17 = .ok (.iload_n 2, 1) := by decide +kernel
theorem dX0_most_18 : decode cX0_most 18 = .ok (.invokestatic 74, 3) := by decide +kernel
theorem dX0_most_21 : decode cX0_most 21 = .ok (.invokestatic 121, 3) := by decide +kernel
theorem dX0_most_24 : decode cX0_most 24 = .ok (.invokestatic 124, 3) := by decide +kernel
theorem dX0_most_27 : decode cX0_most 27 = .ok (.istore_n 1, 1) := by decide +kernel
theorem dX0_most_28 : decode cX0_most 28 = .ok (.iinc 2 1, 3) := by decide +kernel
theorem dX0_most_31 : decode cX0_most 31 = .ok (.goto (-27), 3) := by decide +kernel
theorem dX0_most_34 : decode cX0_most 34 = .ok (.iload_n 1, 1) := by decide +kernel
theorem dX0_most_35 : decode cX0_most 35 = .ok (.ireturn, 1) := by decide +kernel
set_option maxRecDepth 20000 in
theorem ggX0_broken_X0_has : GoodIn wsX0_broken wsX0_has := goodIn_r _ [11] (by decide +kernel) (by decide +kernel)
set_option maxRecDepth 20000 in
theorem gX0_broken_X0_has : GoodIn wsX0_broken (va_wsS RX0 67 yX0_has wsX0_has) := goodIn_app (goodIn_of _ (by decide +kernel)) ggX0_broken_X0_has
set_option maxRecDepth 20000 in
theorem ggX0_broken_X0_at : GoodIn wsX0_broken wsX0_at := goodIn_r _ [14] (by decide +kernel) (by decide +kernel)
set_option maxRecDepth 20000 in
theorem gX0_broken_X0_at : GoodIn wsX0_broken (va_wsS RX0 74 yX0_at wsX0_at) := goodIn_app (goodIn_of _ (by decide +kernel)) ggX0_broken_X0_at
set_option maxRecDepth 20000 in
theorem ggX0_broken_X0_holds : GoodIn wsX0_broken wsX0_holds := goodIn_r _ [17, 8, 9, 10, 11] (by decide +kernel) (by decide +kernel)
set_option maxRecDepth 20000 in
theorem gX0_broken_X0_holds : GoodIn wsX0_broken (va_wsS RX0 132 yX0_holds wsX0_holds) := goodIn_app (goodIn_of _ (by decide +kernel)) ggX0_broken_X0_holds
theorem dX0_broken_0 : decode cX0_broken 0 = .ok (.iload_n 1, 1) := by decide +kernel
theorem dX0_broken_1 : decode cX0_broken 1 = .ok (.ifCond .lt 13, 3) := by decide +kernel
theorem dX0_broken_4 : decode cX0_broken 4 = .ok (.iload_n 1, 1) := by decide +kernel
theorem dX0_broken_5 : decode cX0_broken 5 = .ok (.iconst 1, 1) := by decide +kernel
theorem dX0_broken_6 : decode cX0_broken 6 = .ok (.aload_n 0, 1) := by decide +kernel
theorem dX0_broken_7 : decode cX0_broken 7 = .ok (.getfield 31, 3) := by decide +kernel
theorem dX0_broken_10 : decode cX0_broken 10 = .ok (.ishl, 1) := by decide +kernel
theorem dX0_broken_11 : decode cX0_broken 11 = .ok (.if_icmp .lt 13, 3) := by decide +kernel
theorem dX0_broken_14 : decode cX0_broken 14 = .ok (.new 46, 3) := by decide +kernel
theorem dX0_broken_17 : decode cX0_broken 17 = .ok (.dup, 1) := by decide +kernel
theorem dX0_broken_18 : decode cX0_broken 18 = .ok (.ldc 130, 2) := by decide +kernel
theorem dX0_broken_20 : decode cX0_broken 20 = .ok (.invokespecial 50, 3) := by decide +kernel
theorem dX0_broken_23 : decode cX0_broken 23 = .ok (.athrow, 1) := by decide +kernel
theorem dX0_broken_24 : decode cX0_broken 24 = .ok (.iconst 0, 1) := by decide +kernel
theorem dX0_broken_25 : decode cX0_broken 25 = .ok (.istore_n 2, 1) := by decide +kernel
theorem dX0_broken_26 : decode cX0_broken 26 = .ok (.iload_n 2, 1) := by decide +kernel
theorem dX0_broken_27 : decode cX0_broken 27 = .ok (.aload_n 0, 1) := by decide +kernel
theorem dX0_broken_28 : decode cX0_broken 28 = .ok (.getfield 51, 3) := by decide +kernel
theorem dX0_broken_31 : decode cX0_broken 31 = .ok (.if_icmp .ge 52, 3) := by decide +kernel
theorem dX0_broken_34 : decode cX0_broken 34 = .ok (.aload_n 0, 1) := by decide +kernel
theorem dX0_broken_35 : decode cX0_broken 35 = .ok (.getfield 60, 3) := by decide +kernel
theorem dX0_broken_38 : decode cX0_broken 38 = .ok (.iload_n 2, 1) := by decide +kernel
theorem dX0_broken_39 : decode cX0_broken 39 = .ok (.invokestatic 67, 3) := by decide +kernel
theorem dX0_broken_42 : decode cX0_broken 42 = .ok (.ifCond .eq 35, 3) := by decide +kernel
theorem dX0_broken_45 : decode cX0_broken 45 = .ok (.aload_n 0, 1) := by decide +kernel
theorem dX0_broken_46 : decode cX0_broken 46 = .ok (.getfield 9, 3) := by decide +kernel
theorem dX0_broken_49 : decode cX0_broken 49 = .ok (.iload_n 2, 1) := by decide +kernel
theorem dX0_broken_50 : decode cX0_broken 50 = .ok (.invokestatic 74, 3) := by decide +kernel
theorem dX0_broken_53 : decode cX0_broken 53 = .ok (.iload_n 1, 1) := by decide +kernel
theorem dX0_broken_54 : decode cX0_broken 54 = .ok (.invokestatic 132, 3) := by decide +kernel
theorem dX0_broken_57 : decode cX0_broken 57 = .ok (.ifCond .eq 20, 3) := by decide +kernel
theorem dX0_broken_60 : decode cX0_broken 60 = .ok (.aload_n 0, 1) := by decide +kernel
theorem dX0_broken_61 : decode cX0_broken 61 = .ok (.getfield 13, 3) := by decide +kernel
theorem dX0_broken_64 : decode cX0_broken 64 = .ok (.iload_n 2, 1) := by decide +kernel
theorem dX0_broken_65 : decode cX0_broken 65 = .ok (.invokestatic 74, 3) := by decide +kernel
theorem dX0_broken_68 : decode cX0_broken 68 = .ok (.iload_n 1, 1) := by decide +kernel
theorem dX0_broken_69 : decode cX0_broken 69 = .ok (.invokestatic 132, 3) := by decide +kernel
theorem dX0_broken_72 : decode cX0_broken 72 = .ok (.ifCond .ne 5, 3) := by decide +kernel
theorem dX0_broken_75 : decode cX0_broken 75 = .ok (.iload_n 2, 1) := by decide +kernel
theorem dX0_broken_76 : decode cX0_broken 76 = .ok (.ireturn, 1) := by decide +kernel
theorem dX0_broken_77 : decode cX0_broken 77 = .ok (.iinc 2 1, 3) := by decide +kernel
theorem dX0_broken_80 : decode cX0_broken 80 = .ok (.goto (-54), 3) := by decide +kernel
theorem dX0_broken_83 : decode cX0_broken 83 = .ok (.iconst (-1), 1) := by decide +kernel
theorem dX0_broken_84 : decode cX0_broken 84 = .ok (.ireturn, 1) := by decide +kernel
set_option maxRecDepth 20000 in
theorem ggX0_blame_X0_fits : GoodIn wsX0_blame wsX0_fits := goodIn_r _ [7, 8, 9, 10, 11, 6, 12, 13, 14, 15, 16, 17, 18, 19, 20, 21, 22, 23, 24, 25, 26, 27, 28, 29, 30, 31, 52, 53, 54, 55, 56, 57, 58, 59, 60, 61] (by decide +kernel) (by decide +kernel)
set_option maxRecDepth 20000 in
theorem gX0_blame_X0_fits : GoodIn wsX0_blame (wsV RX0 89 RX0 yX0_fits wsX0_fits) := goodIn_app (goodIn_of _ (by decide +kernel)) ggX0_blame_X0_fits
set_option maxRecDepth 20000 in
theorem ggX0_blame_X0_has : GoodIn wsX0_blame wsX0_has := goodIn_r _ [28] (by decide +kernel) (by decide +kernel)
set_option maxRecDepth 20000 in
theorem gX0_blame_X0_has : GoodIn wsX0_blame (va_wsS RX0 67 yX0_has wsX0_has) := goodIn_app (goodIn_of _ (by decide +kernel)) ggX0_blame_X0_has
set_option maxRecDepth 20000 in
theorem ggX0_blame_X0_fitsWithout : GoodIn wsX0_blame wsX0_fitsWithout := goodIn_r _ [35, 36, 37, 38, 39, 6, 40, 1, 2, 41, 42, 26, 27, 28, 20, 21, 22, 43, 44, 45, 46, 47, 48, 23, 24, 25, 49, 50, 51, 9, 10, 11, 12, 13, 14, 15, 16, 17, 18, 19, 29, 30, 31, 52, 53, 54, 55, 56, 57, 58, 59, 60, 61] (by decide +kernel) (by decide +kernel)
set_option maxRecDepth 20000 in
theorem gX0_blame_X0_fitsWithout : GoodIn wsX0_blame (wsV RX0 135 RX0 yX0_fitsWithout wsX0_fitsWithout) := goodIn_app (goodIn_of _ (by decide +kernel)) ggX0_blame_X0_fitsWithout
theorem dX0_blame_0 : decode cX0_blame 0 = .ok (.aload_n 0, 1) := by decide +kernel
theorem dX0_blame_1 : decode cX0_blame 1 = .ok (.invokevirtual 89, 3) := by decide +kernel
theorem dX0_blame_4 : decode cX0_blame 4 = .ok (.ifCond .eq 5, 3) := by decide +kernel
theorem dX0_blame_7 : decode cX0_blame 7 = .ok (.iconst (-1), 1) := by decide +kernel
theorem dX0_blame_8 : decode cX0_blame 8 = .ok (.ireturn, 1) := by decide +kernel
theorem dX0_blame_9 : decode cX0_blame 9 = .ok (.iconst 0, 1) := by decide +kernel
theorem dX0_blame_10 : decode cX0_blame 10 = .ok (.istore_n 1, 1) := by decide +kernel
theorem dX0_blame_11 : decode cX0_blame 11 = .ok (.iload_n 1, 1) := by decide +kernel
theorem dX0_blame_12 : decode cX0_blame 12 = .ok (.aload_n 0, 1) := by decide +kernel
theorem dX0_blame_13 : decode cX0_blame 13 = .ok (.getfield 51, 3) := by decide +kernel
theorem dX0_blame_16 : decode cX0_blame 16 = .ok (.if_icmp .ge 30, 3) := by decide +kernel
theorem dX0_blame_19 : decode cX0_blame 19 = .ok (.aload_n 0, 1) := by decide +kernel
theorem dX0_blame_20 : decode cX0_blame 20 = .ok (.getfield 60, 3) := by decide +kernel
theorem dX0_blame_23 : decode cX0_blame 23 = .ok (.iload_n 1, 1) := by decide +kernel
theorem dX0_blame_24 : decode cX0_blame 24 = .ok (.invokestatic 67, 3) := by decide +kernel
theorem dX0_blame_27 : decode cX0_blame 27 = .ok (.ifCond .eq 13, 3) := by decide +kernel
theorem dX0_blame_30 : decode cX0_blame 30 = .ok (.aload_n 0, 1) := by decide +kernel
theorem dX0_blame_31 : decode cX0_blame 31 = .ok (.iload_n 1, 1) := by decide +kernel
theorem dX0_blame_32 : decode cX0_blame 32 = .ok (.invokevirtual 135, 3) := by decide +kernel
theorem dX0_blame_35 : decode cX0_blame 35 = .ok (.ifCond .eq 5, 3) := by decide +kernel
theorem dX0_blame_38 : decode cX0_blame 38 = .ok (.iload_n 1, 1) := by decide +kernel
theorem dX0_blame_39 : decode cX0_blame 39 = .ok (.ireturn, 1) := by decide +kernel
theorem dX0_blame_40 : decode cX0_blame 40 = .ok (.iinc 1 1, 3) := by decide +kernel
theorem dX0_blame_43 : decode cX0_blame 43 = .ok (.goto (-32), 3) := by decide +kernel
theorem dX0_blame_46 : decode cX0_blame 46 = .ok (.iconst (-1), 1) := by decide +kernel
theorem dX0_blame_47 : decode cX0_blame 47 = .ok (.ireturn, 1) := by decide +kernel
set_option maxRecDepth 20000 in
theorem ggX0_tightens_X0_requireWishes : GoodIn wsX0_tightens wsX0_requireWishes := goodIn_ca (goodIn_r _ [7, 8, 9, 10, 11, 12, 6, 13, 14, 21, 22, 23, 24, 25, 26, 27, 28, 29, 30] (by decide +kernel) (by decide +kernel)) (goodIn_sub (fun _ h => List.mem_cons_of_mem _ (List.mem_append_right _ h)) (by decide +kernel))
set_option maxRecDepth 20000 in
theorem gX0_tightens_X0_requireWishes : GoodIn wsX0_tightens (wsV RX0 42 RX0 yX0_requireWishes wsX0_requireWishes) := goodIn_app (goodIn_of _ (by decide +kernel)) ggX0_tightens_X0_requireWishes
set_option maxRecDepth 20000 in
theorem ggX0_tightens_X0_at : GoodIn wsX0_tightens wsX0_at := goodIn_r _ [17] (by decide +kernel) (by decide +kernel)
set_option maxRecDepth 20000 in
theorem gX0_tightens_X0_at : GoodIn wsX0_tightens (va_wsS RX0 74 yX0_at wsX0_at) := goodIn_app (goodIn_of _ (by decide +kernel)) ggX0_tightens_X0_at
set_option maxRecDepth 20000 in
theorem ggX0_tightens_X0_has : GoodIn wsX0_tightens wsX0_has := goodIn_r _ [20] (by decide +kernel) (by decide +kernel)
set_option maxRecDepth 20000 in
theorem gX0_tightens_X0_has : GoodIn wsX0_tightens (va_wsS RX0 67 yX0_has wsX0_has) := goodIn_app (goodIn_of _ (by decide +kernel)) ggX0_tightens_X0_has
theorem dX0_tightens_0 : decode cX0_tightens 0 = .ok (.aload_n 0, 1) := by decide +kernel
theorem dX0_tightens_1 : decode cX0_tightens 1 = .ok (.iload_n 1, 1) := by decide +kernel
theorem dX0_tightens_2 : decode cX0_tightens 2 = .ok (.iload_n 2, 1) := by decide +kernel
theorem dX0_tightens_3 : decode cX0_tightens 3 = .ok (.invokevirtual 42, 3) := by decide +kernel
theorem dX0_tightens_6 : decode cX0_tightens 6 = .ok (.iconst 0, 1) := by decide +kernel
theorem dX0_tightens_7 : decode cX0_tightens 7 = .ok (.istore_n 3, 1) := by decide +kernel
theorem dX0_tightens_8 : decode cX0_tightens 8 = .ok (.iconst 0, 1) := by decide +kernel
theorem dX0_tightens_9 : decode cX0_tightens 9 = .ok (.istore 4, 2) := by decide +kernel
theorem dX0_tightens_11 : decode cX0_tightens 11 = .ok (.iload 4, 2) := by decide +kernel
theorem dX0_tightens_13 : decode cX0_tightens 13 = .ok (.aload_n 0, 1) := by decide +kernel
theorem dX0_tightens_14 : decode cX0_tightens 14 = .ok (.getfield 115, 3) := by decide +kernel
theorem dX0_tightens_17 : decode cX0_tightens 17 = .ok (.if_icmp .ge 41, 3) := by decide +kernel
theorem dX0_tightens_20 : decode cX0_tightens 20 = .ok (.aload_n 0, 1) := by decide +kernel
theorem dX0_tightens_21 : decode cX0_tightens 21 = .ok (.getfield 25, 3) := by decide +kernel
theorem dX0_tightens_24 : decode cX0_tightens 24 = .ok (.iload 4, 2) := by decide +kernel
theorem dX0_tightens_26 : decode cX0_tightens 26 = .ok (.invokestatic 74, 3) := by decide +kernel
theorem dX0_tightens_29 : decode cX0_tightens 29 = .ok (.istore 5, 2) := by decide +kernel
theorem dX0_tightens_31 : decode cX0_tightens 31 = .ok (.iload 5, 2) := by decide +kernel
theorem dX0_tightens_33 : decode cX0_tightens 33 = .ok (.iload_n 1, 1) := by decide +kernel
theorem dX0_tightens_34 : decode cX0_tightens 34 = .ok (.invokestatic 67, 3) := by decide +kernel
theorem dX0_tightens_37 : decode cX0_tightens 37 = .ok (.ifCond .eq 15, 3) := by decide +kernel
theorem dX0_tightens_40 : decode cX0_tightens 40 = .ok (.iload 5, 2) := by decide +kernel
theorem dX0_tightens_42 : decode cX0_tightens 42 = .ok (.iload_n 2, 1) := by decide +kernel
theorem dX0_tightens_43 : decode cX0_tightens 43 = .ok (.invokestatic 67, 3) := by decide +kernel
theorem dX0_tightens_46 : decode cX0_tightens 46 = .ok (.ifCond .ne 6, 3) := by decide +kernel
theorem dX0_tightens_49 : decode cX0_tightens 49 = .ok (.iinc 3 1, 3) := by decide +kernel
theorem dX0_tightens_52 : decode cX0_tightens 52 = .ok (.iinc 4 1, 3) := by decide +kernel
theorem dX0_tightens_55 : decode cX0_tightens 55 = .ok (.goto (-44), 3) := by decide +kernel
theorem dX0_tightens_58 : decode cX0_tightens 58 = .ok (.iload_n 3, 1) := by decide +kernel
theorem dX0_tightens_59 : decode cX0_tightens 59 = .ok (.ireturn, 1) := by decide +kernel
set_option maxRecDepth 20000 in
theorem ggX0_count_X0_requireFact : GoodIn wsX0_count wsX0_requireFact := goodIn_ca (goodIn_r _ [8, 9, 10] (by decide +kernel) (by decide +kernel)) (goodIn_sub (fun _ h => List.mem_cons_of_mem _ (List.mem_append_right _ h)) (by decide +kernel))
set_option maxRecDepth 20000 in
theorem gX0_count_X0_requireFact : GoodIn wsX0_count (va_wsS RX0 71 yX0_requireFact wsX0_requireFact) := goodIn_app (goodIn_of _ (by decide +kernel)) ggX0_count_X0_requireFact
set_option maxRecDepth 20000 in
theorem ggX0_count_J6_bitCount_0f7a4 : GoodIn wsX0_count wsJ6_bitCount_0f7a4 := goodIn_r _ [14, 15, 16, 17] (by decide +kernel) (by decide +kernel)
set_option maxRecDepth 20000 in
theorem gX0_count_J6_bitCount_0f7a4 : GoodIn wsX0_count (va_wsS RX0 106 yJ6_bitCount_0f7a4 wsJ6_bitCount_0f7a4) := goodIn_app (goodIn_of _ (by decide +kernel)) ggX0_count_J6_bitCount_0f7a4
set_option maxRecDepth 20000 in
theorem ggX0_count_X0_countTorn : GoodIn wsX0_count wsX0_countTorn := goodIn_r _ [21, 1, 22, 23, 7, 24, 25, 26, 27, 28, 29, 30, 31, 32, 33, 34, 35, 36, 37, 38, 39, 52, 53, 54, 55, 56, 57, 58, 59, 60, 61] (by decide +kernel) (by decide +kernel)
set_option maxRecDepth 20000 in
theorem gX0_count_X0_countTorn : GoodIn wsX0_count (wsV RX0 111 RX0 yX0_countTorn wsX0_countTorn) := goodIn_app (goodIn_of _ (by decide +kernel)) ggX0_count_X0_countTorn
set_option maxRecDepth 20000 in
theorem ggX0_count_X0_countVain : GoodIn wsX0_count wsX0_countVain := goodIn_r _ [43, 4, 44, 45, 46, 7, 47, 1, 25, 26, 27, 28, 29, 30, 31, 32, 33, 34, 35, 36, 37, 38, 39, 52, 53, 54, 55, 56, 57, 58, 59, 60, 61] (by decide +kernel) (by decide +kernel)
set_option maxRecDepth 20000 in
theorem gX0_count_X0_countVain : GoodIn wsX0_count (wsV RX0 139 RX0 yX0_countVain wsX0_countVain) := goodIn_app (goodIn_of _ (by decide +kernel)) ggX0_count_X0_countVain
set_option maxRecDepth 20000 in
theorem ggX0_count_X0_countPairs : GoodIn wsX0_count wsX0_countPairs := goodIn_r _ [51, 4, 44, 45, 46, 7, 47, 1, 28, 29, 30, 11, 12, 13, 14, 15, 16, 17, 52, 53, 54, 55, 56, 57, 58, 59, 60, 61] (by decide +kernel) (by decide +kernel)
set_option maxRecDepth 20000 in
theorem gX0_count_X0_countPairs : GoodIn wsX0_count (wsV RX0 143 RX0 yX0_countPairs wsX0_countPairs) := goodIn_app (goodIn_of _ (by decide +kernel)) ggX0_count_X0_countPairs
theorem dX0_count_0 : decode cX0_count 0 = .ok (.iload_n 1, 1) := by decide +kernel
theorem dX0_count_1 : decode cX0_count 1 = .ok (.bipush 6, 2) := by decide +kernel
theorem dX0_count_3 : decode cX0_count 3 = .ok (.invokestatic 71, 3) := by decide +kernel
theorem dX0_count_6 : decode cX0_count 6 = .ok (.iload_n 1, 1) := by decide +kernel
theorem dX0_count_7 : decode cX0_count 7 = .ok (.tableswitch 65 0 4 #[33, 38, 43, 51, 60], 33) := by decide +kernel
theorem dX0_count_40 : decode cX0_count 40 = .ok (.aload_n 0, 1) := by decide +kernel
theorem dX0_count_41 : decode cX0_count 41 = .ok (.getfield 31, 3) := by decide +kernel
theorem dX0_count_44 : decode cX0_count 44 = .ok (.ireturn, 1) := by decide +kernel
theorem dX0_count_45 : decode cX0_count 45 = .ok (.aload_n 0, 1) := by decide +kernel
theorem dX0_count_46 : decode cX0_count 46 = .ok (.getfield 51, 3) := by decide +kernel
theorem dX0_count_49 : decode cX0_count 49 = .ok (.ireturn, 1) := by decide +kernel
theorem dX0_count_50 : decode cX0_count 50 = .ok (.aload_n 0, 1) := by decide +kernel
theorem dX0_count_51 : decode cX0_count 51 = .ok (.getfield 60, 3) := by decide +kernel
theorem dX0_count_54 : decode cX0_count 54 = .ok (.invokestatic 106, 3) := by decide +kernel
theorem dX0_count_57 : decode cX0_count 57 = .ok (.ireturn, 1) := by decide +kernel
theorem dX0_count_58 : decode cX0_count 58 = .ok (.aload_n 0, 1) := by decide +kernel
theorem dX0_count_59 : decode cX0_count 59 = .ok (.aload_n 0, 1) := by decide +kernel
theorem dX0_count_60 : decode cX0_count 60 = .ok (.getfield 19, 3) := by decide +kernel
theorem dX0_count_63 : decode cX0_count 63 = .ok (.invokevirtual 111, 3) := by decide +kernel
theorem dX0_count_66 : decode cX0_count 66 = .ok (.ireturn, 1) := by decide +kernel
theorem dX0_count_67 : decode cX0_count 67 = .ok (.aload_n 0, 1) := by decide +kernel
theorem dX0_count_68 : decode cX0_count 68 = .ok (.invokevirtual 139, 3) := by decide +kernel
theorem dX0_count_71 : decode cX0_count 71 = .ok (.ireturn, 1) := by decide +kernel
theorem dX0_count_72 : decode cX0_count 72 = .ok (.aload_n 0, 1) := by decide +kernel
theorem dX0_count_73 : decode cX0_count 73 = .ok (.invokevirtual 143, 3) := by decide +kernel
theorem dX0_count_76 : decode cX0_count 76 = .ok (.ireturn, 1) := by decide +kernel
set_option maxRecDepth 20000 in
theorem ggX0_mean_X0_at : GoodIn wsX0_mean wsX0_at := goodIn_r _ [6] (by decide +kernel) (by decide +kernel)
set_option maxRecDepth 20000 in
theorem gX0_mean_X0_at : GoodIn wsX0_mean (va_wsS RX0 74 yX0_at wsX0_at) := goodIn_app (goodIn_of _ (by decide +kernel)) ggX0_mean_X0_at
set_option maxRecDepth 20000 in
theorem ggX0_mean_X0_countComing : GoodIn wsX0_mean wsX0_countComing := goodIn_r _ [9, 10, 11, 12, 13, 14, 15, 16, 17] (by decide +kernel) (by decide +kernel)
set_option maxRecDepth 20000 in
theorem gX0_mean_X0_countComing : GoodIn wsX0_mean (va_wsS RX0 121 yX0_countComing wsX0_countComing) := goodIn_app (goodIn_of _ (by decide +kernel)) ggX0_mean_X0_countComing
theorem dX0_mean_0 : decode cX0_mean 0 = .ok (.aload_n 0, 1) := by decide +kernel
theorem dX0_mean_1 : decode cX0_mean 1 = .ok (.getfield 115, 3) := by decide +kernel
theorem dX0_mean_4 : decode cX0_mean 4 = .ok (.ifCond .ne 5, 3) := by decide +kernel
theorem dX0_mean_7 : decode cX0_mean 7 = .ok (.dconst 0, 1) := by decide +kernel
theorem dX0_mean_8 : decode cX0_mean 8 = .ok (.dreturn, 1) := by decide +kernel
theorem dX0_mean_9 : decode cX0_mean 9 = .ok (.iconst 0, 1) := by decide +kernel
theorem dX0_mean_10 : decode cX0_mean 10 = .ok (.istore_n 1, 1) := by decide +kernel
theorem dX0_mean_11 : decode cX0_mean 11 = .ok (.iconst 0, 1) := by decide +kernel
theorem dX0_mean_12 : decode cX0_mean 12 = .ok (.istore_n 2, 1) := by decide +kernel
theorem dX0_mean_13 : decode cX0_mean 13 = .ok (.iload_n 2, 1) := by decide +kernel
theorem dX0_mean_14 : decode cX0_mean 14 = .ok (.aload_n 0, 1) := by decide +kernel
theorem dX0_mean_15 : decode cX0_mean 15 = .ok (.getfield 115, 3) := by decide +kernel
theorem dX0_mean_18 : decode cX0_mean 18 = .ok (.if_icmp .ge 23, 3) := by decide +kernel
theorem dX0_mean_21 : decode cX0_mean 21 = .ok (.iload_n 1, 1) := by decide +kernel
theorem dX0_mean_22 : decode cX0_mean 22 = .ok (.aload_n 0, 1) := by decide +kernel
theorem dX0_mean_23 : decode cX0_mean 23 = .ok (.getfield 25, 3) := by decide +kernel
theorem dX0_mean_26 : decode cX0_mean 26 = .ok (.iload_n 2, 1) := by decide +kernel
theorem dX0_mean_27 : decode cX0_mean 27 = .ok (.invokestatic 74, 3) := by decide +kernel
theorem dX0_mean_30 : decode cX0_mean 30 = .ok (.invokestatic 121, 3) := by decide +kernel
theorem dX0_mean_33 : decode cX0_mean 33 = .ok (.iadd, 1) := by decide +kernel
theorem dX0_mean_34 : decode cX0_mean 34 = .ok (.istore_n 1, 1) := by decide +kernel
theorem dX0_mean_35 : decode cX0_mean 35 = .ok (.iinc 2 1, 3) := by decide +kernel
theorem dX0_mean_38 : decode cX0_mean 38 = .ok (.goto (-25), 3) := by decide +kernel
theorem dX0_mean_41 : decode cX0_mean 41 = .ok (.iload_n 1, 1) := by decide +kernel
theorem dX0_mean_42 : decode cX0_mean 42 = .ok (.i2d, 1) := by decide +kernel
theorem dX0_mean_43 : decode cX0_mean 43 = .ok (.aload_n 0, 1) := by decide +kernel
theorem dX0_mean_44 : decode cX0_mean 44 = .ok (.getfield 115, 3) := by decide +kernel
theorem dX0_mean_47 : decode cX0_mean 47 = .ok (.i2d, 1) := by decide +kernel
theorem dX0_mean_48 : decode cX0_mean 48 = .ok (.ddiv, 1) := by decide +kernel
theorem dX0_mean_49 : decode cX0_mean 49 = .ok (.dreturn, 1) := by decide +kernel
set_option maxRecDepth 20000 in
theorem ggX0_digest_X0_count : GoodIn wsX0_digest wsX0_count := goodIn_ca (goodIn_r _ [10, 4, 2, 11, 3, 12, 13, 9, 14, 15, 16, 17, 18, 19, 20, 21, 22, 23, 24, 25, 26, 27, 28, 29, 30, 31, 32, 33, 34, 35, 36, 37, 38, 39, 40, 41, 42, 43, 44, 45, 46, 47, 48, 49, 50, 51, 52, 53, 54, 55, 56, 57, 97, 98, 99, 100, 101, 102, 103, 104, 105, 106] (by decide +kernel) (by decide +kernel)) (goodIn_sub (fun _ h => List.mem_cons_of_mem _ (List.mem_append_right _ h)) (by decide +kernel))
set_option maxRecDepth 20000 in
theorem gX0_digest_X0_count : GoodIn wsX0_digest (wsV RX0 148 RX0 yX0_count wsX0_count) := goodIn_app (goodIn_of _ (by decide +kernel)) ggX0_digest_X0_count
set_option maxRecDepth 20000 in
theorem ggX0_digest_X0_mix : GoodIn wsX0_digest wsX0_mix := goodIn_r _ [60, 61] (by decide +kernel) (by decide +kernel)
set_option maxRecDepth 20000 in
theorem gX0_digest_X0_mix : GoodIn wsX0_digest (va_wsS RX0 151 yX0_mix wsX0_mix) := goodIn_app (goodIn_of _ (by decide +kernel)) ggX0_digest_X0_mix
set_option maxRecDepth 20000 in
theorem ggX0_digest_X0_told : GoodIn wsX0_digest wsX0_told := goodIn_ca (goodIn_r _ [65, 66, 67, 11, 68, 69, 70, 9, 71, 15, 16, 2, 12, 13, 14, 34, 35, 36, 40, 41, 42, 43, 44, 45, 97, 98, 99, 100, 101, 102, 103, 104, 105, 106] (by decide +kernel) (by decide +kernel)) (goodIn_sub (fun _ h => List.mem_cons_of_mem _ (List.mem_append_right _ h)) (by decide +kernel))
set_option maxRecDepth 20000 in
theorem gX0_digest_X0_told : GoodIn wsX0_digest (wsV RX0 155 RX0 yX0_told wsX0_told) := goodIn_app (goodIn_of _ (by decide +kernel)) ggX0_digest_X0_told
set_option maxRecDepth 20000 in
theorem ggX0_digest_X0_wishCount : GoodIn wsX0_digest wsX0_wishCount := goodIn_r _ [53, 4, 97, 98, 99, 100, 101, 102, 103, 104, 105, 106] (by decide +kernel) (by decide +kernel)
set_option maxRecDepth 20000 in
theorem gX0_digest_X0_wishCount : GoodIn wsX0_digest (wsV RX0 158 RX0 yX0_wishCount wsX0_wishCount) := goodIn_app (goodIn_of _ (by decide +kernel)) ggX0_digest_X0_wishCount
set_option maxRecDepth 20000 in
theorem ggX0_digest_X0_at : GoodIn wsX0_digest wsX0_at := goodIn_r _ [36] (by decide +kernel) (by decide +kernel)
set_option maxRecDepth 20000 in
theorem gX0_digest_X0_at : GoodIn wsX0_digest (va_wsS RX0 74 yX0_at wsX0_at) := goodIn_app (goodIn_of _ (by decide +kernel)) ggX0_digest_X0_at
set_option maxRecDepth 20000 in
theorem ggX0_digest_X0_guest : GoodIn wsX0_digest wsX0_guest := goodIn_ca (goodIn_r _ [75, 3, 76, 77, 78, 9, 79, 15, 16, 4, 12, 13, 14, 80, 81, 82, 83, 24, 25, 26, 27, 28, 29, 30, 31, 32, 33, 34, 35, 36, 37, 38, 39, 40, 41, 42, 43, 44, 45, 84, 85, 86, 87, 50, 51, 52, 53, 17, 18, 19, 20, 21, 22, 23, 97, 98, 99, 100, 101, 102, 103, 104, 105, 106] (by decide +kernel) (by decide +kernel)) (goodIn_sub (fun _ h => List.mem_cons_of_mem _ (List.mem_append_right _ h)) (by decide +kernel))
set_option maxRecDepth 20000 in
theorem gX0_digest_X0_guest : GoodIn wsX0_digest (wsV RX0 161 RX0 yX0_guest wsX0_guest) := goodIn_app (goodIn_of _ (by decide +kernel)) ggX0_digest_X0_guest
set_option maxRecDepth 20000 in
theorem ggX0_digest_X0_seat : GoodIn wsX0_digest wsX0_seat := goodIn_r _ [91, 5, 92, 34, 35, 9, 36, 93, 94, 95, 96, 4, 40, 41, 42, 97, 98, 99, 100, 101, 102, 103, 104, 105, 106] (by decide +kernel) (by decide +kernel)
set_option maxRecDepth 20000 in
theorem gX0_digest_X0_seat : GoodIn wsX0_digest (wsV RX0 164 RX0 yX0_seat wsX0_seat) := goodIn_app (goodIn_of _ (by decide +kernel)) ggX0_digest_X0_seat
theorem dX0_digest_0 : decode cX0_digest 0 = .ok (.ldc2_w 146, 3) := by decide +kernel
theorem dX0_digest_3 : decode cX0_digest 3 = .ok (.lstore_n 1, 1) := by decide +kernel
theorem dX0_digest_4 : decode cX0_digest 4 = .ok (.iconst 0, 1) := by decide +kernel
theorem dX0_digest_5 : decode cX0_digest 5 = .ok (.istore_n 3, 1) := by decide +kernel
theorem dX0_digest_6 : decode cX0_digest 6 = .ok (.iload_n 3, 1) := by decide +kernel
theorem dX0_digest_7 : decode cX0_digest 7 = .ok (.bipush 6, 2) := by decide +kernel
theorem dX0_digest_9 : decode cX0_digest 9 = .ok (.if_icmp .ge 19, 3) := by decide +kernel
theorem dX0_digest_12 : decode cX0_digest 12 = .ok (.lload_n 1, 1) := by decide +kernel
theorem dX0_digest_13 : decode cX0_digest 13 = .ok (.aload_n 0, 1) := by decide +kernel
theorem dX0_digest_14 : decode cX0_digest 14 = .ok (.iload_n 3, 1) := by decide +kernel
theorem dX0_digest_15 : decode cX0_digest 15 = .ok (.invokevirtual 148, 3) := by decide +kernel
theorem dX0_digest_18 : decode cX0_digest 18 = .ok (.invokestatic 151, 3) := by decide +kernel
theorem dX0_digest_21 : decode cX0_digest 21 = .ok (.lstore_n 1, 1) := by decide +kernel
theorem dX0_digest_22 : decode cX0_digest 22 = .ok (.iinc 3 1, 3) := by decide +kernel
theorem dX0_digest_25 : decode cX0_digest 25 = .ok (.goto (-19), 3) := by decide +kernel
theorem dX0_digest_28 : decode cX0_digest 28 = .ok (.iconst 0, 1) := by decide +kernel
theorem dX0_digest_29 : decode cX0_digest 29 = .ok (.istore_n 3, 1) := by decide +kernel
theorem dX0_digest_30 : decode cX0_digest 30 = .ok (.iload_n 3, 1) := by decide +kernel
theorem dX0_digest_31 : decode cX0_digest 31 = .ok (.aload_n 0, 1) := by decide +kernel
theorem dX0_digest_32 : decode cX0_digest 32 = .ok (.getfield 51, 3) := by decide +kernel
theorem dX0_digest_35 : decode cX0_digest 35 = .ok (.if_icmp .ge 36, 3) := by decide +kernel
theorem dX0_digest_38 : decode cX0_digest 38 = .ok (.iconst 0, 1) := by decide +kernel
theorem dX0_digest_39 : decode cX0_digest 39 = .ok (.istore 4, 2) := by decide +kernel
theorem dX0_digest_41 : decode cX0_digest 41 = .ok (.iload 4, 2) := by decide +kernel
theorem dX0_digest_43 : decode cX0_digest 43 = .ok (.iconst 3, 1) := by decide +kernel
theorem dX0_digest_44 : decode cX0_digest 44 = .ok (.if_icmp .ge 21, 3) := by decide +kernel
theorem dX0_digest_47 : decode cX0_digest 47 = .ok (.lload_n 1, 1) := by decide +kernel
theorem dX0_digest_48 : decode cX0_digest 48 = .ok (.aload_n 0, 1) := by decide +kernel
theorem dX0_digest_49 : decode cX0_digest 49 = .ok (.iload_n 3, 1) := by decide +kernel
theorem dX0_digest_50 : decode cX0_digest 50 = .ok (.iload 4, 2) := by decide +kernel
theorem dX0_digest_52 : decode cX0_digest 52 = .ok (.invokevirtual 155, 3) := by decide +kernel
theorem dX0_digest_55 : decode cX0_digest 55 = .ok (.invokestatic 151, 3) := by decide +kernel
theorem dX0_digest_58 : decode cX0_digest 58 = .ok (.lstore_n 1, 1) := by decide +kernel
theorem dX0_digest_59 : decode cX0_digest 59 = .ok (.iinc 4 1, 3) := by decide +kernel
theorem dX0_digest_62 : decode cX0_digest 62 = .ok (.goto (-21), 3) := by decide +kernel
theorem dX0_digest_65 : decode cX0_digest 65 = .ok (.iinc 3 1, 3) := by decide +kernel
theorem dX0_digest_68 : decode cX0_digest 68 = .ok (.goto (-38), 3) := by decide +kernel
theorem dX0_digest_71 : decode cX0_digest 71 = .ok (.iconst 0, 1) := by decide +kernel
theorem dX0_digest_72 : decode cX0_digest 72 = .ok (.istore_n 3, 1) := by decide +kernel
theorem dX0_digest_73 : decode cX0_digest 73 = .ok (.iload_n 3, 1) := by decide +kernel
theorem dX0_digest_74 : decode cX0_digest 74 = .ok (.aload_n 0, 1) := by decide +kernel
theorem dX0_digest_75 : decode cX0_digest 75 = .ok (.invokevirtual 158, 3) := by decide +kernel
theorem dX0_digest_78 : decode cX0_digest 78 = .ok (.if_icmp .ge 22, 3) := by decide +kernel
theorem dX0_digest_81 : decode cX0_digest 81 = .ok (.lload_n 1, 1) := by decide +kernel
theorem dX0_digest_82 : decode cX0_digest 82 = .ok (.aload_n 0, 1) := by decide +kernel
theorem dX0_digest_83 : decode cX0_digest 83 = .ok (.getfield 19, 3) := by decide +kernel
theorem dX0_digest_86 : decode cX0_digest 86 = .ok (.iload_n 3, 1) := by decide +kernel
theorem dX0_digest_87 : decode cX0_digest 87 = .ok (.invokestatic 74, 3) := by decide +kernel
theorem dX0_digest_90 : decode cX0_digest 90 = .ok (.invokestatic 151, 3) := by decide +kernel
theorem dX0_digest_93 : decode cX0_digest 93 = .ok (.lstore_n 1, 1) := by decide +kernel
theorem dX0_digest_94 : decode cX0_digest 94 = .ok (.iinc 3 1, 3) := by decide +kernel
theorem dX0_digest_97 : decode cX0_digest 97 = .ok (.goto (-24), 3) := by decide +kernel
theorem dX0_digest_100 : decode cX0_digest 100 = .ok (.iconst 0, 1) := by decide +kernel
theorem dX0_digest_101 : decode cX0_digest 101 = .ok (.istore_n 3, 1) := by decide +kernel
theorem dX0_digest_102 : decode cX0_digest 102 = .ok (.iload_n 3, 1) := by decide +kernel
theorem dX0_digest_103 : decode cX0_digest 103 = .ok (.aload_n 0, 1) := by decide +kernel
theorem dX0_digest_104 : decode cX0_digest 104 = .ok (.getfield 31, 3) := by decide +kernel
theorem dX0_digest_107 : decode cX0_digest 107 = .ok (.if_icmp .ge 36, 3) := by decide +kernel
theorem dX0_digest_110 : decode cX0_digest 110 = .ok (.iconst 0, 1) := by decide +kernel
theorem dX0_digest_111 : decode cX0_digest 111 = .ok (.istore 4, 2) := by decide +kernel
theorem dX0_digest_113 : decode cX0_digest 113 = .ok (.iload 4, 2) := by decide +kernel
theorem dX0_digest_115 : decode cX0_digest 115 = .ok (.iconst 4, 1) := by decide +kernel
theorem dX0_digest_116 : decode cX0_digest 116 = .ok (.if_icmp .ge 21, 3) := by decide +kernel
theorem dX0_digest_119 : decode cX0_digest 119 = .ok (.lload_n 1, 1) := by decide +kernel
theorem dX0_digest_120 : decode cX0_digest 120 = .ok (.aload_n 0, 1) := by decide +kernel
theorem dX0_digest_121 : decode cX0_digest 121 = .ok (.iload_n 3, 1) := by decide +kernel
theorem dX0_digest_122 : decode cX0_digest 122 = .ok (.iload 4, 2) := by decide +kernel
theorem dX0_digest_124 : decode cX0_digest 124 = .ok (.invokevirtual 161, 3) := by decide +kernel
theorem dX0_digest_127 : decode cX0_digest 127 = .ok (.invokestatic 151, 3) := by decide +kernel
theorem dX0_digest_130 : decode cX0_digest 130 = .ok (.lstore_n 1, 1) := by decide +kernel
theorem dX0_digest_131 : decode cX0_digest 131 = .ok (.iinc 4 1, 3) := by decide +kernel
theorem dX0_digest_134 : decode cX0_digest 134 = .ok (.goto (-21), 3) := by decide +kernel
theorem dX0_digest_137 : decode cX0_digest 137 = .ok (.iinc 3 1, 3) := by decide +kernel
theorem dX0_digest_140 : decode cX0_digest 140 = .ok (.goto (-38), 3) := by decide +kernel
theorem dX0_digest_143 : decode cX0_digest 143 = .ok (.lload_n 1, 1) := by decide +kernel
theorem dX0_digest_144 : decode cX0_digest 144 = .ok (.aload_n 0, 1) := by decide +kernel
theorem dX0_digest_145 : decode cX0_digest 145 = .ok (.invokevirtual 164, 3) := by decide +kernel
theorem dX0_digest_148 : decode cX0_digest 148 = .ok (.invokestatic 151, 3) := by decide +kernel
theorem dX0_digest_151 : decode cX0_digest 151 = .ok (.aload_n 0, 1) := by decide +kernel
theorem dX0_digest_152 : decode cX0_digest 152 = .ok (.getfield 115, 3) := by decide +kernel
theorem dX0_digest_155 : decode cX0_digest 155 = .ok (.invokestatic 151, 3) := by decide +kernel
theorem dX0_digest_158 : decode cX0_digest 158 = .ok (.lreturn, 1) := by decide +kernel
set_option maxRecDepth 20000 in
theorem ggX0_requireWishes_X0_wishCount : GoodIn wsX0_requireWishes wsX0_wishCount := goodIn_r _ [7, 8, 9, 10, 11, 12, 13, 14, 15, 16, 17, 18] (by decide +kernel) (by decide +kernel)
set_option maxRecDepth 20000 in
theorem gX0_requireWishes_X0_wishCount : GoodIn wsX0_requireWishes (wsV RX0 158 RX0 yX0_wishCount wsX0_wishCount) := goodIn_app (goodIn_of _ (by decide +kernel)) ggX0_requireWishes_X0_wishCount
theorem dX0_requireWishes_0 : decode cX0_requireWishes 0 = .ok (.iload_n 1, 1) := by decide +kernel
theorem dX0_requireWishes_1 : decode cX0_requireWishes 1 = .ok (.ifCond .lt 23, 3) := by decide +kernel
theorem dX0_requireWishes_4 : decode cX0_requireWishes 4 = .ok (.iload_n 1, 1) := by decide +kernel
theorem dX0_requireWishes_5 : decode cX0_requireWishes 5 = .ok (.aload_n 0, 1) := by decide +kernel
theorem dX0_requireWishes_6 : decode cX0_requireWishes 6 = .ok (.invokevirtual 158, 3) := by decide +kernel
theorem dX0_requireWishes_9 : decode cX0_requireWishes 9 = .ok (.if_icmp .ge 15, 3) := by decide +kernel
theorem dX0_requireWishes_12 : decode cX0_requireWishes 12 = .ok (.iload_n 2, 1) := by decide +kernel
theorem dX0_requireWishes_13 : decode cX0_requireWishes 13 = .ok (.ifCond .lt 11, 3) := by decide +kernel
theorem dX0_requireWishes_16 : decode cX0_requireWishes 16 = .ok (.iload_n 2, 1) := by decide +kernel
theorem dX0_requireWishes_17 : decode cX0_requireWishes 17 = .ok (.aload_n 0, 1) := by decide +kernel
theorem dX0_requireWishes_18 : decode cX0_requireWishes 18 = .ok (.invokevirtual 158, 3) := by decide +kernel
theorem dX0_requireWishes_21 : decode cX0_requireWishes 21 = .ok (.if_icmp .lt 13, 3) := by decide +kernel
theorem dX0_requireWishes_24 : decode cX0_requireWishes 24 = .ok (.new 167, 3) := by decide +kernel
theorem dX0_requireWishes_27 : decode cX0_requireWishes 27 = .ok (.dup, 1) := by decide +kernel
theorem dX0_requireWishes_28 : decode cX0_requireWishes 28 = .ok (.ldc 169, 2) := by decide +kernel
theorem dX0_requireWishes_30 : decode cX0_requireWishes 30 = .ok (.invokespecial 171, 3) := by decide +kernel
theorem dX0_requireWishes_33 : decode cX0_requireWishes 33 = .ok (.athrow, 1) := by decide +kernel
theorem dX0_requireWishes_34 : decode cX0_requireWishes 34 = .ok (.return_, 1) := by decide +kernel
theorem dX0_requireGuest_0 : decode cX0_requireGuest 0 = .ok (.iload_n 1, 1) := by decide +kernel
theorem dX0_requireGuest_1 : decode cX0_requireGuest 1 = .ok (.ifCond .lt 11, 3) := by decide +kernel
theorem dX0_requireGuest_4 : decode cX0_requireGuest 4 = .ok (.iload_n 1, 1) := by decide +kernel
theorem dX0_requireGuest_5 : decode cX0_requireGuest 5 = .ok (.aload_n 0, 1) := by decide +kernel
theorem dX0_requireGuest_6 : decode cX0_requireGuest 6 = .ok (.getfield 31, 3) := by decide +kernel
theorem dX0_requireGuest_9 : decode cX0_requireGuest 9 = .ok (.if_icmp .lt 13, 3) := by decide +kernel
theorem dX0_requireGuest_12 : decode cX0_requireGuest 12 = .ok (.new 167, 3) := by decide +kernel
theorem dX0_requireGuest_15 : decode cX0_requireGuest 15 = .ok (.dup, 1) := by decide +kernel
theorem dX0_requireGuest_16 : decode cX0_requireGuest 16 = .ok (.ldc 172, 2) := by decide +kernel
theorem dX0_requireGuest_18 : decode cX0_requireGuest 18 = .ok (.invokespecial 171, 3) := by decide +kernel
theorem dX0_requireGuest_21 : decode cX0_requireGuest 21 = .ok (.athrow, 1) := by decide +kernel
theorem dX0_requireGuest_22 : decode cX0_requireGuest 22 = .ok (.return_, 1) := by decide +kernel
theorem dX0_requireRule_0 : decode cX0_requireRule 0 = .ok (.iload_n 1, 1) := by decide +kernel
theorem dX0_requireRule_1 : decode cX0_requireRule 1 = .ok (.ifCond .lt 11, 3) := by decide +kernel
theorem dX0_requireRule_4 : decode cX0_requireRule 4 = .ok (.iload_n 1, 1) := by decide +kernel
theorem dX0_requireRule_5 : decode cX0_requireRule 5 = .ok (.aload_n 0, 1) := by decide +kernel
theorem dX0_requireRule_6 : decode cX0_requireRule 6 = .ok (.getfield 51, 3) := by decide +kernel
theorem dX0_requireRule_9 : decode cX0_requireRule 9 = .ok (.if_icmp .lt 13, 3) := by decide +kernel
theorem dX0_requireRule_12 : decode cX0_requireRule 12 = .ok (.new 167, 3) := by decide +kernel
theorem dX0_requireRule_15 : decode cX0_requireRule 15 = .ok (.dup, 1) := by decide +kernel
theorem dX0_requireRule_16 : decode cX0_requireRule 16 = .ok (.ldc 174, 2) := by decide +kernel
theorem dX0_requireRule_18 : decode cX0_requireRule 18 = .ok (.invokespecial 171, 3) := by decide +kernel
theorem dX0_requireRule_21 : decode cX0_requireRule 21 = .ok (.athrow, 1) := by decide +kernel
theorem dX0_requireRule_22 : decode cX0_requireRule 22 = .ok (.return_, 1) := by decide +kernel
theorem dX0_requireFact_0 : decode cX0_requireFact 0 = .ok (.iload_n 0, 1) := by decide +kernel
theorem dX0_requireFact_1 : decode cX0_requireFact 1 = .ok (.ifCond .lt 8, 3) := by decide +kernel
theorem dX0_requireFact_4 : decode cX0_requireFact 4 = .ok (.iload_n 0, 1) := by decide +kernel
theorem dX0_requireFact_5 : decode cX0_requireFact 5 = .ok (.iload_n 1, 1) := by decide +kernel
theorem dX0_requireFact_6 : decode cX0_requireFact 6 = .ok (.if_icmp .lt 13, 3) := by decide +kernel
theorem dX0_requireFact_9 : decode cX0_requireFact 9 = .ok (.new 167, 3) := by decide +kernel
theorem dX0_requireFact_12 : decode cX0_requireFact 12 = .ok (.dup, 1) := by decide +kernel
theorem dX0_requireFact_13 : decode cX0_requireFact 13 = .ok (.ldc 176, 2) := by decide +kernel
theorem dX0_requireFact_15 : decode cX0_requireFact 15 = .ok (.invokespecial 171, 3) := by decide +kernel
theorem dX0_requireFact_18 : decode cX0_requireFact 18 = .ok (.athrow, 1) := by decide +kernel
theorem dX0_requireFact_19 : decode cX0_requireFact 19 = .ok (.return_, 1) := by decide +kernel
set_option maxRecDepth 20000 in
theorem ggX0_refresh_X0_linkAllBut : GoodIn wsX0_refresh wsX0_linkAllBut := goodIn_r _ [7, 8, 9, 10, 11, 12, 13, 6, 14, 15, 16, 17, 18, 19, 20, 21, 22, 23, 24, 25, 26, 58, 59, 60, 61, 62, 63, 64, 65, 66, 67] (by decide +kernel) (by decide +kernel)
set_option maxRecDepth 20000 in
theorem gX0_refresh_X0_linkAllBut : GoodIn wsX0_refresh (wsV RX0 178 RX0 yX0_linkAllBut wsX0_linkAllBut) := goodIn_app (goodIn_of _ (by decide +kernel)) ggX0_refresh_X0_linkAllBut
set_option maxRecDepth 20000 in
theorem ggX0_refresh_X0_close : GoodIn wsX0_refresh wsX0_close := goodIn_r _ [29, 12, 13, 6, 14] (by decide +kernel) (by decide +kernel)
set_option maxRecDepth 20000 in
theorem gX0_refresh_X0_close : GoodIn wsX0_refresh (va_wsS RX0 182 yX0_close wsX0_close) := goodIn_app (goodIn_of _ (by decide +kernel)) ggX0_refresh_X0_close
set_option maxRecDepth 20000 in
theorem ggX0_refresh_X0_listSeatings : GoodIn wsX0_refresh wsX0_listSeatings := goodIn_r _ [33, 34, 35, 36, 37, 38, 39, 6, 40, 2, 41, 42, 43, 44, 45, 46, 47, 48, 49, 50, 15, 16, 17, 24, 25, 26, 12, 13, 14, 51, 52, 53, 21, 22, 23, 54, 55, 56, 57, 58, 59, 60, 61, 62, 63, 64, 65, 66, 67] (by decide +kernel) (by decide +kernel)
set_option maxRecDepth 20000 in
theorem gX0_refresh_X0_listSeatings : GoodIn wsX0_refresh (wsV RX0 186 RX0 yX0_listSeatings wsX0_listSeatings) := goodIn_app (goodIn_of _ (by decide +kernel)) ggX0_refresh_X0_listSeatings
theorem dX0_refresh_0 : decode cX0_refresh 0 = .ok (.aload_n 0, 1) := by decide +kernel
theorem dX0_refresh_1 : decode cX0_refresh 1 = .ok (.iconst (-1), 1) := by decide +kernel
theorem dX0_refresh_2 : decode cX0_refresh 2 = .ok (.aload_n 0, 1) := by decide +kernel
theorem dX0_refresh_3 : decode cX0_refresh 3 = .ok (.getfield 16, 3) := by decide +kernel
theorem dX0_refresh_6 : decode cX0_refresh 6 = .ok (.invokevirtual 178, 3) := by decide +kernel
theorem dX0_refresh_9 : decode cX0_refresh 9 = .ok (.aload_n 0, 1) := by decide +kernel
theorem dX0_refresh_10 : decode cX0_refresh 10 = .ok (.iconst (-1), 1) := by decide +kernel
theorem dX0_refresh_11 : decode cX0_refresh 11 = .ok (.aload_n 0, 1) := by decide +kernel
theorem dX0_refresh_12 : decode cX0_refresh 12 = .ok (.getfield 19, 3) := by decide +kernel
theorem dX0_refresh_15 : decode cX0_refresh 15 = .ok (.invokevirtual 178, 3) := by decide +kernel
theorem dX0_refresh_18 : decode cX0_refresh 18 = .ok (.aload_n 0, 1) := by decide +kernel
theorem dX0_refresh_19 : decode cX0_refresh 19 = .ok (.getfield 19, 3) := by decide +kernel
theorem dX0_refresh_22 : decode cX0_refresh 22 = .ok (.invokestatic 182, 3) := by decide +kernel
theorem dX0_refresh_25 : decode cX0_refresh 25 = .ok (.aload_n 0, 1) := by decide +kernel
theorem dX0_refresh_26 : decode cX0_refresh 26 = .ok (.invokevirtual 186, 3) := by decide +kernel
theorem dX0_refresh_29 : decode cX0_refresh 29 = .ok (.return_, 1) := by decide +kernel
set_option maxRecDepth 20000 in
theorem ggX0_linkAllBut_X0_has : GoodIn wsX0_linkAllBut wsX0_has := goodIn_r _ [8] (by decide +kernel) (by decide +kernel)
set_option maxRecDepth 20000 in
theorem gX0_linkAllBut_X0_has : GoodIn wsX0_linkAllBut (va_wsS RX0 67 yX0_has wsX0_has) := goodIn_app (goodIn_of _ (by decide +kernel)) ggX0_linkAllBut_X0_has
set_option maxRecDepth 20000 in
theorem ggX0_linkAllBut_X0_at : GoodIn wsX0_linkAllBut wsX0_at := goodIn_r _ [11] (by decide +kernel) (by decide +kernel)
set_option maxRecDepth 20000 in
theorem gX0_linkAllBut_X0_at : GoodIn wsX0_linkAllBut (va_wsS RX0 74 yX0_at wsX0_at) := goodIn_app (goodIn_of _ (by decide +kernel)) ggX0_linkAllBut_X0_at
set_option maxRecDepth 20000 in
theorem ggX0_linkAllBut_X0_link : GoodIn wsX0_linkAllBut wsX0_link := goodIn_r _ [14, 9, 10, 7, 11, 15, 16, 17] (by decide +kernel) (by decide +kernel)
set_option maxRecDepth 20000 in
theorem gX0_linkAllBut_X0_link : GoodIn wsX0_linkAllBut (va_wsS RX0 189 yX0_link wsX0_link) := goodIn_app (goodIn_of _ (by decide +kernel)) ggX0_linkAllBut_X0_link
set_option maxRecDepth 20000 in
theorem ggX0_linkAllBut_X0_against : GoodIn wsX0_linkAllBut wsX0_against := goodIn_r _ [20] (by decide +kernel) (by decide +kernel)
set_option maxRecDepth 20000 in
theorem gX0_linkAllBut_X0_against : GoodIn wsX0_linkAllBut (va_wsS RX0 93 yX0_against wsX0_against) := goodIn_app (goodIn_of _ (by decide +kernel)) ggX0_linkAllBut_X0_against
theorem dX0_linkAllBut_0 : decode cX0_linkAllBut 0 = .ok (.iconst 0, 1) := by decide +kernel
theorem dX0_linkAllBut_1 : decode cX0_linkAllBut 1 = .ok (.istore_n 3, 1) := by decide +kernel
theorem dX0_linkAllBut_2 : decode cX0_linkAllBut 2 = .ok (.iload_n 3, 1) := by decide +kernel
theorem dX0_linkAllBut_3 : decode cX0_linkAllBut 3 = .ok (.aload_n 2, 1) := by decide +kernel
theorem dX0_linkAllBut_4 : decode cX0_linkAllBut 4 = .ok (.arraylength, 1) := by decide +kernel
theorem dX0_linkAllBut_5 : decode cX0_linkAllBut 5 = .ok (.if_icmp .ge 15, 3) := by decide +kernel
theorem dX0_linkAllBut_8 : decode cX0_linkAllBut 8 = .ok (.aload_n 2, 1) := by decide +kernel
theorem dX0_linkAllBut_9 : decode cX0_linkAllBut 9 = .ok (.iload_n 3, 1) := by decide +kernel
theorem dX0_linkAllBut_10 : decode cX0_linkAllBut 10 = .ok (.iconst 1, 1) := by decide +kernel
theorem dX0_linkAllBut_11 : decode cX0_linkAllBut 11 = .ok (.iload_n 3, 1) := by decide +kernel
theorem dX0_linkAllBut_12 : decode cX0_linkAllBut 12 = .ok (.ishl, 1) := by decide +kernel
theorem dX0_linkAllBut_13 : decode cX0_linkAllBut 13 = .ok (.iastore, 1) := by decide +kernel
theorem dX0_linkAllBut_14 : decode cX0_linkAllBut 14 = .ok (.iinc 3 1, 3) := by decide +kernel
theorem dX0_linkAllBut_17 : decode cX0_linkAllBut 17 = .ok (.goto (-15), 3) := by decide +kernel
theorem dX0_linkAllBut_20 : decode cX0_linkAllBut 20 = .ok (.iconst 0, 1) := by decide +kernel
theorem dX0_linkAllBut_21 : decode cX0_linkAllBut 21 = .ok (.istore_n 3, 1) := by decide +kernel
theorem dX0_linkAllBut_22 : decode cX0_linkAllBut 22 = .ok (.iload_n 3, 1) := by decide +kernel
theorem dX0_linkAllBut_23 : decode cX0_linkAllBut 23 = .ok (.aload_n 0, 1) := by decide +kernel
theorem dX0_linkAllBut_24 : decode cX0_linkAllBut 24 = .ok (.getfield 51, 3) := by decide +kernel
theorem dX0_linkAllBut_27 : decode cX0_linkAllBut 27 = .ok (.if_icmp .ge 67, 3) := by decide +kernel
theorem dX0_linkAllBut_30 : decode cX0_linkAllBut 30 = .ok (.iload_n 3, 1) := by decide +kernel
theorem dX0_linkAllBut_31 : decode cX0_linkAllBut 31 = .ok (.iload_n 1, 1) := by decide +kernel
theorem dX0_linkAllBut_32 : decode cX0_linkAllBut 32 = .ok (.if_icmp .eq 56, 3) := by decide +kernel
theorem dX0_linkAllBut_35 : decode cX0_linkAllBut 35 = .ok (.aload_n 0, 1) := by decide +kernel
theorem dX0_linkAllBut_36 : decode cX0_linkAllBut 36 = .ok (.getfield 60, 3) := by decide +kernel
theorem dX0_linkAllBut_39 : decode cX0_linkAllBut 39 = .ok (.iload_n 3, 1) := by decide +kernel
theorem dX0_linkAllBut_40 : decode cX0_linkAllBut 40 = .ok (.invokestatic 67, 3) := by decide +kernel
theorem dX0_linkAllBut_43 : decode cX0_linkAllBut 43 = .ok (.ifCond .eq 45, 3) := by decide +kernel
theorem dX0_linkAllBut_46 : decode cX0_linkAllBut 46 = .ok (.aload_n 0, 1) := by decide +kernel
theorem dX0_linkAllBut_47 : decode cX0_linkAllBut 47 = .ok (.getfield 9, 3) := by decide +kernel
theorem dX0_linkAllBut_50 : decode cX0_linkAllBut 50 = .ok (.iload_n 3, 1) := by decide +kernel
theorem dX0_linkAllBut_51 : decode cX0_linkAllBut 51 = .ok (.invokestatic 74, 3) := by decide +kernel
theorem dX0_linkAllBut_54 : decode cX0_linkAllBut 54 = .ok (.istore 4, 2) := by decide +kernel
theorem dX0_linkAllBut_56 : decode cX0_linkAllBut 56 = .ok (.aload_n 0, 1) := by decide +kernel
theorem dX0_linkAllBut_57 : decode cX0_linkAllBut 57 = .ok (.getfield 13, 3) := by decide +kernel
theorem dX0_linkAllBut_60 : decode cX0_linkAllBut 60 = .ok (.iload_n 3, 1) := by decide +kernel
theorem dX0_linkAllBut_61 : decode cX0_linkAllBut 61 = .ok (.invokestatic 74, 3) := by decide +kernel
theorem dX0_linkAllBut_64 : decode cX0_linkAllBut 64 = .ok (.istore 5, 2) := by decide +kernel
theorem dX0_linkAllBut_66 : decode cX0_linkAllBut 66 = .ok (.aload_n 2, 1) := by decide +kernel
theorem dX0_linkAllBut_67 : decode cX0_linkAllBut 67 = .ok (.iload 4, 2) := by decide +kernel
theorem dX0_linkAllBut_69 : decode cX0_linkAllBut 69 = .ok (.iload 5, 2) := by decide +kernel
theorem dX0_linkAllBut_71 : decode cX0_linkAllBut 71 = .ok (.invokestatic 189, 3) := by decide +kernel
theorem dX0_linkAllBut_74 : decode cX0_linkAllBut 74 = .ok (.aload_n 2, 1) := by decide +kernel
theorem dX0_linkAllBut_75 : decode cX0_linkAllBut 75 = .ok (.iload 5, 2) := by decide +kernel
theorem dX0_linkAllBut_77 : decode cX0_linkAllBut 77 = .ok (.invokestatic 93, 3) := by decide +kernel
theorem dX0_linkAllBut_80 : decode cX0_linkAllBut 80 = .ok (.iload 4, 2) := by decide +kernel
theorem dX0_linkAllBut_82 : decode cX0_linkAllBut 82 = .ok (.invokestatic 93, 3) := by decide +kernel
theorem dX0_linkAllBut_85 : decode cX0_linkAllBut 85 = .ok (.invokestatic 189, 3) := by decide +kernel
theorem dX0_linkAllBut_88 : decode cX0_linkAllBut 88 = .ok (.iinc 3 1, 3) := by decide +kernel
theorem dX0_linkAllBut_91 : decode cX0_linkAllBut 91 = .ok (.goto (-69), 3) := by decide +kernel
theorem dX0_linkAllBut_94 : decode cX0_linkAllBut 94 = .ok (.return_, 1) := by decide +kernel
set_option maxRecDepth 20000 in
theorem ggX0_link_X0_at : GoodIn wsX0_link wsX0_at := goodIn_r _ [4] (by decide +kernel) (by decide +kernel)
set_option maxRecDepth 20000 in
theorem gX0_link_X0_at : GoodIn wsX0_link (va_wsS RX0 74 yX0_at wsX0_at) := goodIn_app (goodIn_of _ (by decide +kernel)) ggX0_link_X0_at
set_option maxRecDepth 20000 in
theorem ggX0_link_X0_put : GoodIn wsX0_link wsX0_put := goodIn_r _ [7] (by decide +kernel) (by decide +kernel)
set_option maxRecDepth 20000 in
theorem gX0_link_X0_put : GoodIn wsX0_link (va_wsS RX0 56 yX0_put wsX0_put) := goodIn_app (goodIn_of _ (by decide +kernel)) ggX0_link_X0_put
theorem dX0_link_0 : decode cX0_link 0 = .ok (.aload_n 0, 1) := by decide +kernel
theorem dX0_link_1 : decode cX0_link 1 = .ok (.iload_n 1, 1) := by decide +kernel
theorem dX0_link_2 : decode cX0_link 2 = .ok (.aload_n 0, 1) := by decide +kernel
theorem dX0_link_3 : decode cX0_link 3 = .ok (.iload_n 1, 1) := by decide +kernel
theorem dX0_link_4 : decode cX0_link 4 = .ok (.invokestatic 74, 3) := by decide +kernel
theorem dX0_link_7 : decode cX0_link 7 = .ok (.iconst 1, 1) := by decide +kernel
theorem dX0_link_8 : decode cX0_link 8 = .ok (.iload_n 2, 1) := by decide +kernel
theorem dX0_link_9 : decode cX0_link 9 = .ok (.ishl, 1) := by decide +kernel
theorem dX0_link_10 : decode cX0_link 10 = .ok (.ior, 1) := by decide +kernel
theorem dX0_link_11 : decode cX0_link 11 = .ok (.invokestatic 56, 3) := by decide +kernel
theorem dX0_link_14 : decode cX0_link 14 = .ok (.return_, 1) := by decide +kernel
set_option maxRecDepth 20000 in
theorem ggX0_close_X0_has : GoodIn wsX0_close wsX0_has := goodIn_r _ [4] (by decide +kernel) (by decide +kernel)
set_option maxRecDepth 20000 in
theorem gX0_close_X0_has : GoodIn wsX0_close (va_wsS RX0 67 yX0_has wsX0_has) := goodIn_app (goodIn_of _ (by decide +kernel)) ggX0_close_X0_has
theorem dX0_close_0 : decode cX0_close 0 = .ok (.iconst 0, 1) := by decide +kernel
theorem dX0_close_1 : decode cX0_close 1 = .ok (.istore_n 1, 1) := by decide +kernel
theorem dX0_close_2 : decode cX0_close 2 = .ok (.iload_n 1, 1) := by decide +kernel
theorem dX0_close_3 : decode cX0_close 3 = .ok (.aload_n 0, 1) := by decide +kernel
theorem dX0_close_4 : decode cX0_close 4 = .ok (.arraylength, 1) := by decide +kernel
theorem dX0_close_5 : decode cX0_close 5 = .ok (.if_icmp .ge 42, 3) := by decide +kernel
theorem dX0_close_8 : decode cX0_close 8 = .ok (.iconst 0, 1) := by decide +kernel
theorem dX0_close_9 : decode cX0_close 9 = .ok (.istore_n 2, 1) := by decide +kernel
theorem dX0_close_10 : decode cX0_close 10 = .ok (.iload_n 2, 1) := by decide +kernel
theorem dX0_close_11 : decode cX0_close 11 = .ok (.aload_n 0, 1) := by decide +kernel
theorem dX0_close_12 : decode cX0_close 12 = .ok (.arraylength, 1) := by decide +kernel
theorem dX0_close_13 : decode cX0_close 13 = .ok (.if_icmp .ge 28, 3) := by decide +kernel
theorem dX0_close_16 : decode cX0_close 16 = .ok (.aload_n 0, 1) := by decide +kernel
theorem dX0_close_17 : decode cX0_close 17 = .ok (.iload_n 2, 1) := by decide +kernel
theorem dX0_close_18 : decode cX0_close 18 = .ok (.iaload, 1) := by decide +kernel
theorem dX0_close_19 : decode cX0_close 19 = .ok (.iload_n 1, 1) := by decide +kernel
theorem dX0_close_20 : decode cX0_close 20 = .ok (.invokestatic 67, 3) := by decide +kernel
theorem dX0_close_23 : decode cX0_close 23 = .ok (.ifCond .eq 12, 3) := by decide +kernel
theorem dX0_close_26 : decode cX0_close 26 = .ok (.aload_n 0, 1) := by decide +kernel
theorem dX0_close_27 : decode cX0_close 27 = .ok (.iload_n 2, 1) := by decide +kernel
theorem dX0_close_28 : decode cX0_close 28 = .ok (.dup2, 1) := by decide +kernel
theorem dX0_close_29 : decode cX0_close 29 = .ok (.iaload, 1) := by decide +kernel
theorem dX0_close_30 : decode cX0_close 30 = .ok (.aload_n 0, 1) := by decide +kernel
theorem dX0_close_31 : decode cX0_close 31 = .ok (.iload_n 1, 1) := by decide +kernel
theorem dX0_close_32 : decode cX0_close 32 = .ok (.iaload, 1) := by decide +kernel
theorem dX0_close_33 : decode cX0_close 33 = .ok (.ior, 1) := by decide +kernel
theorem dX0_close_34 : decode cX0_close 34 = .ok (.iastore, 1) := by decide +kernel
theorem dX0_close_35 : decode cX0_close 35 = .ok (.iinc 2 1, 3) := by decide +kernel
theorem dX0_close_38 : decode cX0_close 38 = .ok (.goto (-28), 3) := by decide +kernel
theorem dX0_close_41 : decode cX0_close 41 = .ok (.iinc 1 1, 3) := by decide +kernel
theorem dX0_close_44 : decode cX0_close 44 = .ok (.goto (-42), 3) := by decide +kernel
theorem dX0_close_47 : decode cX0_close 47 = .ok (.return_, 1) := by decide +kernel
set_option maxRecDepth 20000 in
theorem ggX0_listSeatings_X0_fits : GoodIn wsX0_listSeatings wsX0_fits := goodIn_r _ [8, 9, 10, 11, 12, 7, 13, 3, 14, 15, 16, 17, 18, 19, 20, 21, 22, 23, 24, 25, 26, 27, 28, 29, 30, 31, 39, 40, 41, 42, 43, 44, 45, 46, 47, 48] (by decide +kernel) (by decide +kernel)
set_option maxRecDepth 20000 in
theorem gX0_listSeatings_X0_fits : GoodIn wsX0_listSeatings (wsV RX0 89 RX0 yX0_fits wsX0_fits) := goodIn_app (goodIn_of _ (by decide +kernel)) ggX0_listSeatings_X0_fits
set_option maxRecDepth 20000 in
theorem ggX0_listSeatings_X0_oneIf : GoodIn wsX0_listSeatings wsX0_oneIf := goodIn_r _ [31] (by decide +kernel) (by decide +kernel)
set_option maxRecDepth 20000 in
theorem gX0_listSeatings_X0_oneIf : GoodIn wsX0_listSeatings (va_wsS RX0 78 yX0_oneIf wsX0_oneIf) := goodIn_app (goodIn_of _ (by decide +kernel)) ggX0_listSeatings_X0_oneIf
set_option maxRecDepth 20000 in
theorem ggX0_listSeatings_X0_put : GoodIn wsX0_listSeatings wsX0_put := goodIn_r _ [34] (by decide +kernel) (by decide +kernel)
set_option maxRecDepth 20000 in
theorem gX0_listSeatings_X0_put : GoodIn wsX0_listSeatings (va_wsS RX0 56 yX0_put wsX0_put) := goodIn_app (goodIn_of _ (by decide +kernel)) ggX0_listSeatings_X0_put
set_option maxRecDepth 20000 in
theorem ggX0_listSeatings_X0_settle : GoodIn wsX0_listSeatings wsX0_settle := goodIn_r _ [38, 1, 2, 9, 23, 24, 7, 25, 20, 21, 22, 26, 27, 28, 17, 18, 19, 32, 33, 34, 39, 40, 41, 42, 43, 44, 45, 46, 47, 48] (by decide +kernel) (by decide +kernel)
set_option maxRecDepth 20000 in
theorem gX0_listSeatings_X0_settle : GoodIn wsX0_listSeatings (wsV RX0 192 RX0 yX0_settle wsX0_settle) := goodIn_app (goodIn_of _ (by decide +kernel)) ggX0_listSeatings_X0_settle
theorem dX0_listSeatings_0 : decode cX0_listSeatings 0 = .ok (.aload_n 0, 1) := by decide +kernel
theorem dX0_listSeatings_1 : decode cX0_listSeatings 1 = .ok (.aload_n 0, 1) := by decide +kernel
theorem dX0_listSeatings_2 : decode cX0_listSeatings 2 = .ok (.invokevirtual 89, 3) := by decide +kernel
theorem dX0_listSeatings_5 : decode cX0_listSeatings 5 = .ok (.invokestatic 78, 3) := by decide +kernel
theorem dX0_listSeatings_8 : decode cX0_listSeatings 8 = .ok (.putfield 115, 3) := by decide +kernel
theorem dX0_listSeatings_11 : decode cX0_listSeatings 11 = .ok (.aload_n 0, 1) := by decide +kernel
theorem dX0_listSeatings_12 : decode cX0_listSeatings 12 = .ok (.getfield 25, 3) := by decide +kernel
theorem dX0_listSeatings_15 : decode cX0_listSeatings 15 = .ok (.iconst 0, 1) := by decide +kernel
theorem dX0_listSeatings_16 : decode cX0_listSeatings 16 = .ok (.iconst 0, 1) := by decide +kernel
theorem dX0_listSeatings_17 : decode cX0_listSeatings 17 = .ok (.invokestatic 56, 3) := by decide +kernel
theorem dX0_listSeatings_20 : decode cX0_listSeatings 20 = .ok (.iconst 0, 1) := by decide +kernel
theorem dX0_listSeatings_21 : decode cX0_listSeatings 21 = .ok (.istore_n 1, 1) := by decide +kernel
theorem dX0_listSeatings_22 : decode cX0_listSeatings 22 = .ok (.iload_n 1, 1) := by decide +kernel
theorem dX0_listSeatings_23 : decode cX0_listSeatings 23 = .ok (.aload_n 0, 1) := by decide +kernel
theorem dX0_listSeatings_24 : decode cX0_listSeatings 24 = .ok (.getfield 31, 3) := by decide +kernel
theorem dX0_listSeatings_27 : decode cX0_listSeatings 27 = .ok (.if_icmp .ge 16, 3) := by decide +kernel
theorem dX0_listSeatings_30 : decode cX0_listSeatings 30 = .ok (.aload_n 0, 1) := by decide +kernel
theorem dX0_listSeatings_31 : decode cX0_listSeatings 31 = .ok (.iconst 2, 1) := by decide +kernel
theorem dX0_listSeatings_32 : decode cX0_listSeatings 32 = .ok (.iload_n 1, 1) := by decide +kernel
theorem dX0_listSeatings_33 : decode cX0_listSeatings 33 = .ok (.imul, 1) := by decide +kernel
theorem dX0_listSeatings_34 : decode cX0_listSeatings 34 = .ok (.invokevirtual 192, 3) := by decide +kernel
theorem dX0_listSeatings_37 : decode cX0_listSeatings 37 = .ok (.iinc 1 1, 3) := by decide +kernel
theorem dX0_listSeatings_40 : decode cX0_listSeatings 40 = .ok (.goto (-18), 3) := by decide +kernel
theorem dX0_listSeatings_43 : decode cX0_listSeatings 43 = .ok (.return_, 1) := by decide +kernel
set_option maxRecDepth 20000 in
theorem ggX0_settle_X0_against : GoodIn wsX0_settle wsX0_against := goodIn_r _ [7] (by decide +kernel) (by decide +kernel)
set_option maxRecDepth 20000 in
theorem gX0_settle_X0_against : GoodIn wsX0_settle (va_wsS RX0 93 yX0_against wsX0_against) := goodIn_app (goodIn_of _ (by decide +kernel)) ggX0_settle_X0_against
set_option maxRecDepth 20000 in
theorem ggX0_settle_X0_at : GoodIn wsX0_settle wsX0_at := goodIn_r _ [10] (by decide +kernel) (by decide +kernel)
set_option maxRecDepth 20000 in
theorem gX0_settle_X0_at : GoodIn wsX0_settle (va_wsS RX0 74 yX0_at wsX0_at) := goodIn_app (goodIn_of _ (by decide +kernel)) ggX0_settle_X0_at
set_option maxRecDepth 20000 in
theorem ggX0_settle_X0_has : GoodIn wsX0_settle wsX0_has := goodIn_r _ [13] (by decide +kernel) (by decide +kernel)
set_option maxRecDepth 20000 in
theorem gX0_settle_X0_has : GoodIn wsX0_settle (va_wsS RX0 67 yX0_has wsX0_has) := goodIn_app (goodIn_of _ (by decide +kernel)) ggX0_settle_X0_has
set_option maxRecDepth 20000 in
theorem ggX0_settle_X0_isVain : GoodIn wsX0_settle wsX0_isVain := goodIn_r _ [16, 8, 9, 6, 10, 4, 5, 7, 11, 12, 13] (by decide +kernel) (by decide +kernel)
set_option maxRecDepth 20000 in
theorem gX0_settle_X0_isVain : GoodIn wsX0_settle (va_wsS RX0 96 yX0_isVain wsX0_isVain) := goodIn_app (goodIn_of _ (by decide +kernel)) ggX0_settle_X0_isVain
set_option maxRecDepth 20000 in
theorem ggX0_settle_X0_put : GoodIn wsX0_settle wsX0_put := goodIn_r _ [19] (by decide +kernel) (by decide +kernel)
set_option maxRecDepth 20000 in
theorem gX0_settle_X0_put : GoodIn wsX0_settle (va_wsS RX0 56 yX0_put wsX0_put) := goodIn_app (goodIn_of _ (by decide +kernel)) ggX0_settle_X0_put
theorem dX0_settle_0 : decode cX0_settle 0 = .ok (.iload_n 1, 1) := by decide +kernel
theorem dX0_settle_1 : decode cX0_settle 1 = .ok (.invokestatic 93, 3) := by decide +kernel
theorem dX0_settle_4 : decode cX0_settle 4 = .ok (.istore_n 2, 1) := by decide +kernel
theorem dX0_settle_5 : decode cX0_settle 5 = .ok (.aload_n 0, 1) := by decide +kernel
theorem dX0_settle_6 : decode cX0_settle 6 = .ok (.getfield 115, 3) := by decide +kernel
theorem dX0_settle_9 : decode cX0_settle 9 = .ok (.istore_n 3, 1) := by decide +kernel
theorem dX0_settle_10 : decode cX0_settle 10 = .ok (.iconst 0, 1) := by decide +kernel
theorem dX0_settle_11 : decode cX0_settle 11 = .ok (.istore 4, 2) := by decide +kernel
theorem dX0_settle_13 : decode cX0_settle 13 = .ok (.iload 4, 2) := by decide +kernel
theorem dX0_settle_15 : decode cX0_settle 15 = .ok (.iload_n 3, 1) := by decide +kernel
theorem dX0_settle_16 : decode cX0_settle 16 = .ok (.if_icmp .ge 138, 3) := by decide +kernel
theorem dX0_settle_19 : decode cX0_settle 19 = .ok (.aload_n 0, 1) := by decide +kernel
theorem dX0_settle_20 : decode cX0_settle 20 = .ok (.getfield 25, 3) := by decide +kernel
theorem dX0_settle_23 : decode cX0_settle 23 = .ok (.iload 4, 2) := by decide +kernel
theorem dX0_settle_25 : decode cX0_settle 25 = .ok (.invokestatic 74, 3) := by decide +kernel
theorem dX0_settle_28 : decode cX0_settle 28 = .ok (.istore 5, 2) := by decide +kernel
theorem dX0_settle_30 : decode cX0_settle 30 = .ok (.iload 5, 2) := by decide +kernel
theorem dX0_settle_32 : decode cX0_settle 32 = .ok (.iload_n 1, 1) := by decide +kernel
theorem dX0_settle_33 : decode cX0_settle 33 = .ok (.invokestatic 67, 3) := by decide +kernel
theorem dX0_settle_36 : decode cX0_settle 36 = .ok (.ifCond .ne 112, 3) := by decide +kernel
theorem dX0_settle_39 : decode cX0_settle 39 = .ok (.iload 5, 2) := by decide +kernel
theorem dX0_settle_41 : decode cX0_settle 41 = .ok (.iload_n 2, 1) := by decide +kernel
theorem dX0_settle_42 : decode cX0_settle 42 = .ok (.invokestatic 67, 3) := by decide +kernel
theorem dX0_settle_45 : decode cX0_settle 45 = .ok (.ifCond .eq 6, 3) := by decide +kernel
theorem dX0_settle_48 : decode cX0_settle 48 = .ok (.goto 100, 3) := by decide +kernel
theorem dX0_settle_51 : decode cX0_settle 51 = .ok (.aload_n 0, 1) := by decide +kernel
theorem dX0_settle_52 : decode cX0_settle 52 = .ok (.getfield 19, 3) := by decide +kernel
theorem dX0_settle_55 : decode cX0_settle 55 = .ok (.iload_n 1, 1) := by decide +kernel
theorem dX0_settle_56 : decode cX0_settle 56 = .ok (.invokestatic 96, 3) := by decide +kernel
theorem dX0_settle_59 : decode cX0_settle 59 = .ok (.ifCond .eq 26, 3) := by decide +kernel
theorem dX0_settle_62 : decode cX0_settle 62 = .ok (.aload_n 0, 1) := by decide +kernel
theorem dX0_settle_63 : decode cX0_settle 63 = .ok (.getfield 25, 3) := by decide +kernel
theorem dX0_settle_66 : decode cX0_settle 66 = .ok (.iload 4, 2) := by decide +kernel
theorem dX0_settle_68 : decode cX0_settle 68 = .ok (.iload 5, 2) := by decide +kernel
theorem dX0_settle_70 : decode cX0_settle 70 = .ok (.aload_n 0, 1) := by decide +kernel
theorem dX0_settle_71 : decode cX0_settle 71 = .ok (.getfield 19, 3) := by decide +kernel
theorem dX0_settle_74 : decode cX0_settle 74 = .ok (.iload_n 2, 1) := by decide +kernel
theorem dX0_settle_75 : decode cX0_settle 75 = .ok (.invokestatic 74, 3) := by decide +kernel
theorem dX0_settle_78 : decode cX0_settle 78 = .ok (.ior, 1) := by decide +kernel
theorem dX0_settle_79 : decode cX0_settle 79 = .ok (.invokestatic 56, 3) := by decide +kernel
theorem dX0_settle_82 : decode cX0_settle 82 = .ok (.goto 66, 3) := by decide +kernel
theorem dX0_settle_85 : decode cX0_settle 85 = .ok (.aload_n 0, 1) := by decide +kernel
theorem dX0_settle_86 : decode cX0_settle 86 = .ok (.getfield 25, 3) := by decide +kernel
theorem dX0_settle_89 : decode cX0_settle 89 = .ok (.iload 4, 2) := by decide +kernel
theorem dX0_settle_91 : decode cX0_settle 91 = .ok (.iload 5, 2) := by decide +kernel
theorem dX0_settle_93 : decode cX0_settle 93 = .ok (.aload_n 0, 1) := by decide +kernel
theorem dX0_settle_94 : decode cX0_settle 94 = .ok (.getfield 19, 3) := by decide +kernel
theorem dX0_settle_97 : decode cX0_settle 97 = .ok (.iload_n 1, 1) := by decide +kernel
theorem dX0_settle_98 : decode cX0_settle 98 = .ok (.invokestatic 74, 3) := by decide +kernel
theorem dX0_settle_101 : decode cX0_settle 101 = .ok (.ior, 1) := by decide +kernel
theorem dX0_settle_102 : decode cX0_settle 102 = .ok (.invokestatic 56, 3) := by decide +kernel
theorem dX0_settle_105 : decode cX0_settle 105 = .ok (.aload_n 0, 1) := by decide +kernel
theorem dX0_settle_106 : decode cX0_settle 106 = .ok (.getfield 19, 3) := by decide +kernel
theorem dX0_settle_109 : decode cX0_settle 109 = .ok (.iload_n 2, 1) := by decide +kernel
theorem dX0_settle_110 : decode cX0_settle 110 = .ok (.invokestatic 96, 3) := by decide +kernel
theorem dX0_settle_113 : decode cX0_settle 113 = .ok (.ifCond .ne 35, 3) := by decide +kernel
theorem dX0_settle_116 : decode cX0_settle 116 = .ok (.aload_n 0, 1) := by decide +kernel
theorem dX0_settle_117 : decode cX0_settle 117 = .ok (.getfield 25, 3) := by decide +kernel
theorem dX0_settle_120 : decode cX0_settle 120 = .ok (.aload_n 0, 1) := by decide +kernel
theorem dX0_settle_121 : decode cX0_settle 121 = .ok (.getfield 115, 3) := by decide +kernel
theorem dX0_settle_124 : decode cX0_settle 124 = .ok (.iload 5, 2) := by decide +kernel
theorem dX0_settle_126 : decode cX0_settle 126 = .ok (.aload_n 0, 1) := by decide +kernel
theorem dX0_settle_127 : decode cX0_settle 127 = .ok (.getfield 19, 3) := by decide +kernel
theorem dX0_settle_130 : decode cX0_settle 130 = .ok (.iload_n 2, 1) := by decide +kernel
theorem dX0_settle_131 : decode cX0_settle 131 = .ok (.invokestatic 74, 3) := by decide +kernel
theorem dX0_settle_134 : decode cX0_settle 134 = .ok (.ior, 1) := by decide +kernel
theorem dX0_settle_135 : decode cX0_settle 135 = .ok (.invokestatic 56, 3) := by decide +kernel
theorem dX0_settle_138 : decode cX0_settle 138 = .ok (.aload_n 0, 1) := by decide +kernel
theorem dX0_settle_139 : decode cX0_settle 139 = .ok (.dup, 1) := by decide +kernel
theorem dX0_settle_140 : decode cX0_settle 140 = .ok (.getfield 115, 3) := by decide +kernel
theorem dX0_settle_143 : decode cX0_settle 143 = .ok (.iconst 1, 1) := by decide +kernel
theorem dX0_settle_144 : decode cX0_settle 144 = .ok (.iadd, 1) := by decide +kernel
theorem dX0_settle_145 : decode cX0_settle 145 = .ok (.putfield 115, 3) := by decide +kernel
theorem dX0_settle_148 : decode cX0_settle 148 = .ok (.iinc 4 1, 3) := by decide +kernel
theorem dX0_settle_151 : decode cX0_settle 151 = .ok (.goto (-138), 3) := by decide +kernel
theorem dX0_settle_154 : decode cX0_settle 154 = .ok (.return_, 1) := by decide +kernel
set_option maxRecDepth 20000 in
theorem ggX0_fitsWithout_X0_linkAllBut : GoodIn wsX0_fitsWithout wsX0_linkAllBut := goodIn_r _ [6, 7, 8, 9, 10, 11, 12, 5, 13, 14, 15, 16, 17, 18, 19, 20, 21, 22, 23, 24, 25, 43, 44, 45, 46, 47, 48, 49, 50, 51, 52] (by decide +kernel) (by decide +kernel)
set_option maxRecDepth 20000 in
theorem gX0_fitsWithout_X0_linkAllBut : GoodIn wsX0_fitsWithout (wsV RX0 178 RX0 yX0_linkAllBut wsX0_linkAllBut) := goodIn_app (goodIn_of _ (by decide +kernel)) ggX0_fitsWithout_X0_linkAllBut
set_option maxRecDepth 20000 in
theorem ggX0_fitsWithout_X0_close : GoodIn wsX0_fitsWithout wsX0_close := goodIn_r _ [28, 11, 12, 5, 13] (by decide +kernel) (by decide +kernel)
set_option maxRecDepth 20000 in
theorem gX0_fitsWithout_X0_close : GoodIn wsX0_fitsWithout (va_wsS RX0 182 yX0_close wsX0_close) := goodIn_app (goodIn_of _ (by decide +kernel)) ggX0_fitsWithout_X0_close
set_option maxRecDepth 20000 in
theorem ggX0_fitsWithout_X0_countTorn : GoodIn wsX0_fitsWithout wsX0_countTorn := goodIn_r _ [32, 33, 34, 35, 5, 36, 37, 38, 39, 14, 15, 16, 23, 24, 25, 11, 12, 13, 40, 41, 42, 43, 44, 45, 46, 47, 48, 49, 50, 51, 52] (by decide +kernel) (by decide +kernel)
set_option maxRecDepth 20000 in
theorem gX0_fitsWithout_X0_countTorn : GoodIn wsX0_fitsWithout (wsV RX0 111 RX0 yX0_countTorn wsX0_countTorn) := goodIn_app (goodIn_of _ (by decide +kernel)) ggX0_fitsWithout_X0_countTorn
theorem dX0_fitsWithout_0 : decode cX0_fitsWithout 0 = .ok (.aload_n 0, 1) := by decide +kernel
theorem dX0_fitsWithout_1 : decode cX0_fitsWithout 1 = .ok (.iload_n 1, 1) := by decide +kernel
theorem dX0_fitsWithout_2 : decode cX0_fitsWithout 2 = .ok (.aload_n 0, 1) := by decide +kernel
theorem dX0_fitsWithout_3 : decode cX0_fitsWithout 3 = .ok (.getfield 22, 3) := by decide +kernel
theorem dX0_fitsWithout_6 : decode cX0_fitsWithout 6 = .ok (.invokevirtual 178, 3) := by decide +kernel
theorem dX0_fitsWithout_9 : decode cX0_fitsWithout 9 = .ok (.aload_n 0, 1) := by decide +kernel
theorem dX0_fitsWithout_10 : decode cX0_fitsWithout 10 = .ok (.getfield 22, 3) := by decide +kernel
theorem dX0_fitsWithout_13 : decode cX0_fitsWithout 13 = .ok (.invokestatic 182, 3) := by decide +kernel
theorem dX0_fitsWithout_16 : decode cX0_fitsWithout 16 = .ok (.aload_n 0, 1) := by decide +kernel
theorem dX0_fitsWithout_17 : decode cX0_fitsWithout 17 = .ok (.aload_n 0, 1) := by decide +kernel
theorem dX0_fitsWithout_18 : decode cX0_fitsWithout 18 = .ok (.getfield 22, 3) := by decide +kernel
theorem dX0_fitsWithout_21 : decode cX0_fitsWithout 21 = .ok (.invokevirtual 111, 3) := by decide +kernel
theorem dX0_fitsWithout_24 : decode cX0_fitsWithout 24 = .ok (.ifCond .ne 7, 3) := by decide +kernel
theorem dX0_fitsWithout_27 : decode cX0_fitsWithout 27 = .ok (.iconst 1, 1) := by decide +kernel
theorem dX0_fitsWithout_28 : decode cX0_fitsWithout 28 = .ok (.goto 4, 3) := by decide +kernel
theorem dX0_fitsWithout_31 : decode cX0_fitsWithout 31 = .ok (.iconst 0, 1) := by decide +kernel
theorem dX0_fitsWithout_32 : decode cX0_fitsWithout 32 = .ok (.ireturn, 1) := by decide +kernel
theorem dX0_wishCount_0 : decode cX0_wishCount 0 = .ok (.iconst 2, 1) := by decide +kernel
theorem dX0_wishCount_1 : decode cX0_wishCount 1 = .ok (.aload_n 0, 1) := by decide +kernel
theorem dX0_wishCount_2 : decode cX0_wishCount 2 = .ok (.getfield 31, 3) := by decide +kernel
theorem dX0_wishCount_5 : decode cX0_wishCount 5 = .ok (.imul, 1) := by decide +kernel
theorem dX0_wishCount_6 : decode cX0_wishCount 6 = .ok (.ireturn, 1) := by decide +kernel
theorem dX0_against_0 : decode cX0_against 0 = .ok (.iload_n 0, 1) := by decide +kernel
theorem dX0_against_1 : decode cX0_against 1 = .ok (.iconst 1, 1) := by decide +kernel
theorem dX0_against_2 : decode cX0_against 2 = .ok (.ixor, 1) := by decide +kernel
theorem dX0_against_3 : decode cX0_against 3 = .ok (.ireturn, 1) := by decide +kernel
set_option maxRecDepth 20000 in
theorem ggX0_holds_X0_has : GoodIn wsX0_holds wsX0_has := goodIn_r _ [4] (by decide +kernel) (by decide +kernel)
set_option maxRecDepth 20000 in
theorem gX0_holds_X0_has : GoodIn wsX0_holds (va_wsS RX0 67 yX0_has wsX0_has) := goodIn_app (goodIn_of _ (by decide +kernel)) ggX0_holds_X0_has
theorem dX0_holds_0 : decode cX0_holds 0 = .ok (.iload_n 1, 1) := by decide +kernel
theorem dX0_holds_1 : decode cX0_holds 1 = .ok (.iload_n 0, 1) := by decide +kernel
theorem dX0_holds_2 : decode cX0_holds 2 = .ok (.iconst 1, 1) := by decide +kernel
theorem dX0_holds_3 : decode cX0_holds 3 = .ok (.ishr, 1) := by decide +kernel
theorem dX0_holds_4 : decode cX0_holds 4 = .ok (.invokestatic 67, 3) := by decide +kernel
theorem dX0_holds_7 : decode cX0_holds 7 = .ok (.istore_n 2, 1) := by decide +kernel
theorem dX0_holds_8 : decode cX0_holds 8 = .ok (.iload_n 0, 1) := by decide +kernel
theorem dX0_holds_9 : decode cX0_holds 9 = .ok (.iconst 1, 1) := by decide +kernel
theorem dX0_holds_10 : decode cX0_holds 10 = .ok (.iand, 1) := by decide +kernel
theorem dX0_holds_11 : decode cX0_holds 11 = .ok (.ifCond .ne 7, 3) := by decide +kernel
theorem dX0_holds_14 : decode cX0_holds 14 = .ok (.iload_n 2, 1) := by decide +kernel
theorem dX0_holds_15 : decode cX0_holds 15 = .ok (.goto 12, 3) := by decide +kernel
theorem dX0_holds_18 : decode cX0_holds 18 = .ok (.iload_n 2, 1) := by decide +kernel
theorem dX0_holds_19 : decode cX0_holds 19 = .ok (.ifCond .ne 7, 3) := by decide +kernel
theorem dX0_holds_22 : decode cX0_holds 22 = .ok (.iconst 1, 1) := by decide +kernel
theorem dX0_holds_23 : decode cX0_holds 23 = .ok (.goto 4, 3) := by decide +kernel
theorem dX0_holds_26 : decode cX0_holds 26 = .ok (.iconst 0, 1) := by decide +kernel
theorem dX0_holds_27 : decode cX0_holds 27 = .ok (.ireturn, 1) := by decide +kernel
set_option maxRecDepth 20000 in
theorem ggX0_isVain_X0_at : GoodIn wsX0_isVain wsX0_at := goodIn_r _ [4] (by decide +kernel) (by decide +kernel)
set_option maxRecDepth 20000 in
theorem gX0_isVain_X0_at : GoodIn wsX0_isVain (va_wsS RX0 74 yX0_at wsX0_at) := goodIn_app (goodIn_of _ (by decide +kernel)) ggX0_isVain_X0_at
set_option maxRecDepth 20000 in
theorem ggX0_isVain_X0_against : GoodIn wsX0_isVain wsX0_against := goodIn_r _ [7] (by decide +kernel) (by decide +kernel)
set_option maxRecDepth 20000 in
theorem gX0_isVain_X0_against : GoodIn wsX0_isVain (va_wsS RX0 93 yX0_against wsX0_against) := goodIn_app (goodIn_of _ (by decide +kernel)) ggX0_isVain_X0_against
set_option maxRecDepth 20000 in
theorem ggX0_isVain_X0_has : GoodIn wsX0_isVain wsX0_has := goodIn_r _ [10] (by decide +kernel) (by decide +kernel)
set_option maxRecDepth 20000 in
theorem gX0_isVain_X0_has : GoodIn wsX0_isVain (va_wsS RX0 67 yX0_has wsX0_has) := goodIn_app (goodIn_of _ (by decide +kernel)) ggX0_isVain_X0_has
theorem dX0_isVain_0 : decode cX0_isVain 0 = .ok (.aload_n 0, 1) := by decide +kernel
theorem dX0_isVain_1 : decode cX0_isVain 1 = .ok (.iload_n 1, 1) := by decide +kernel
theorem dX0_isVain_2 : decode cX0_isVain 2 = .ok (.invokestatic 74, 3) := by decide +kernel
theorem dX0_isVain_5 : decode cX0_isVain 5 = .ok (.iload_n 1, 1) := by decide +kernel
theorem dX0_isVain_6 : decode cX0_isVain 6 = .ok (.invokestatic 93, 3) := by decide +kernel
theorem dX0_isVain_9 : decode cX0_isVain 9 = .ok (.invokestatic 67, 3) := by decide +kernel
theorem dX0_isVain_12 : decode cX0_isVain 12 = .ok (.ireturn, 1) := by decide +kernel
set_option maxRecDepth 20000 in
theorem ggX0_isTorn_X0_isVain : GoodIn wsX0_isTorn wsX0_isVain := goodIn_r _ [4, 5, 6, 3, 7, 8, 9, 10, 11, 12, 13] (by decide +kernel) (by decide +kernel)
set_option maxRecDepth 20000 in
theorem gX0_isTorn_X0_isVain : GoodIn wsX0_isTorn (va_wsS RX0 96 yX0_isVain wsX0_isVain) := goodIn_app (goodIn_of _ (by decide +kernel)) ggX0_isTorn_X0_isVain
theorem dX0_isTorn_0 : decode cX0_isTorn 0 = .ok (.aload_n 0, 1) := by decide +kernel
theorem dX0_isTorn_1 : decode cX0_isTorn 1 = .ok (.iconst 2, 1) := by decide +kernel
theorem dX0_isTorn_2 : decode cX0_isTorn 2 = .ok (.iload_n 1, 1) := by decide +kernel
theorem dX0_isTorn_3 : decode cX0_isTorn 3 = .ok (.imul, 1) := by decide +kernel
theorem dX0_isTorn_4 : decode cX0_isTorn 4 = .ok (.invokestatic 96, 3) := by decide +kernel
theorem dX0_isTorn_7 : decode cX0_isTorn 7 = .ok (.ifCond .eq 19, 3) := by decide +kernel
theorem dX0_isTorn_10 : decode cX0_isTorn 10 = .ok (.aload_n 0, 1) := by decide +kernel
theorem dX0_isTorn_11 : decode cX0_isTorn 11 = .ok (.iconst 2, 1) := by decide +kernel
theorem dX0_isTorn_12 : decode cX0_isTorn 12 = .ok (.iload_n 1, 1) := by decide +kernel
theorem dX0_isTorn_13 : decode cX0_isTorn 13 = .ok (.imul, 1) := by decide +kernel
theorem dX0_isTorn_14 : decode cX0_isTorn 14 = .ok (.iconst 1, 1) := by decide +kernel
theorem dX0_isTorn_15 : decode cX0_isTorn 15 = .ok (.iadd, 1) := by decide +kernel
theorem dX0_isTorn_16 : decode cX0_isTorn 16 = .ok (.invokestatic 96, 3) := by decide +kernel
theorem dX0_isTorn_19 : decode cX0_isTorn 19 = .ok (.ifCond .eq 7, 3) := by decide +kernel
theorem dX0_isTorn_22 : decode cX0_isTorn 22 = .ok (.iconst 1, 1) := by decide +kernel
theorem dX0_isTorn_23 : decode cX0_isTorn 23 = .ok (.goto 4, 3) := by decide +kernel
theorem dX0_isTorn_26 : decode cX0_isTorn 26 = .ok (.iconst 0, 1) := by decide +kernel
theorem dX0_isTorn_27 : decode cX0_isTorn 27 = .ok (.ireturn, 1) := by decide +kernel
set_option maxRecDepth 20000 in
theorem ggX0_countTorn_X0_isTorn : GoodIn wsX0_countTorn wsX0_isTorn := goodIn_r _ [5, 6, 7, 4, 8, 9, 10, 11, 12, 13, 14, 15, 16, 17] (by decide +kernel) (by decide +kernel)
set_option maxRecDepth 20000 in
theorem gX0_countTorn_X0_isTorn : GoodIn wsX0_countTorn (va_wsS RX0 100 yX0_isTorn wsX0_isTorn) := goodIn_app (goodIn_of _ (by decide +kernel)) ggX0_countTorn_X0_isTorn
set_option maxRecDepth 20000 in
theorem ggX0_countTorn_X0_oneIf : GoodIn wsX0_countTorn wsX0_oneIf := goodIn_r _ [20] (by decide +kernel) (by decide +kernel)
set_option maxRecDepth 20000 in
theorem gX0_countTorn_X0_oneIf : GoodIn wsX0_countTorn (va_wsS RX0 78 yX0_oneIf wsX0_oneIf) := goodIn_app (goodIn_of _ (by decide +kernel)) ggX0_countTorn_X0_oneIf
theorem dX0_countTorn_0 : decode cX0_countTorn 0 = .ok (.iconst 0, 1) := by decide +kernel
theorem dX0_countTorn_1 : decode cX0_countTorn 1 = .ok (.istore_n 2, 1) := by decide +kernel
theorem dX0_countTorn_2 : decode cX0_countTorn 2 = .ok (.iconst 0, 1) := by decide +kernel
theorem dX0_countTorn_3 : decode cX0_countTorn 3 = .ok (.istore_n 3, 1) := by decide +kernel
theorem dX0_countTorn_4 : decode cX0_countTorn 4 = .ok (.iload_n 3, 1) := by decide +kernel
theorem dX0_countTorn_5 : decode cX0_countTorn 5 = .ok (.aload_n 0, 1) := by decide +kernel
theorem dX0_countTorn_6 : decode cX0_countTorn 6 = .ok (.getfield 31, 3) := by decide +kernel
theorem dX0_countTorn_9 : decode cX0_countTorn 9 = .ok (.if_icmp .ge 20, 3) := by decide +kernel
theorem dX0_countTorn_12 : decode cX0_countTorn 12 = .ok (.iload_n 2, 1) := by decide +kernel
theorem dX0_countTorn_13 : decode cX0_countTorn 13 = .ok (.aload_n 1, 1) := by decide +kernel
theorem dX0_countTorn_14 : decode cX0_countTorn 14 = .ok (.iload_n 3, 1) := by decide +kernel
theorem dX0_countTorn_15 : decode cX0_countTorn 15 = .ok (.invokestatic 100, 3) := by decide +kernel
theorem dX0_countTorn_18 : decode cX0_countTorn 18 = .ok (.invokestatic 78, 3) := by decide +kernel
theorem dX0_countTorn_21 : decode cX0_countTorn 21 = .ok (.iadd, 1) := by decide +kernel
theorem dX0_countTorn_22 : decode cX0_countTorn 22 = .ok (.istore_n 2, 1) := by decide +kernel
theorem dX0_countTorn_23 : decode cX0_countTorn 23 = .ok (.iinc 3 1, 3) := by decide +kernel
theorem dX0_countTorn_26 : decode cX0_countTorn 26 = .ok (.goto (-22), 3) := by decide +kernel
theorem dX0_countTorn_29 : decode cX0_countTorn 29 = .ok (.iload_n 2, 1) := by decide +kernel
theorem dX0_countTorn_30 : decode cX0_countTorn 30 = .ok (.ireturn, 1) := by decide +kernel
set_option maxRecDepth 20000 in
theorem ggX0_countVain_X0_wishCount : GoodIn wsX0_countVain wsX0_wishCount := goodIn_r _ [6, 7, 23, 24, 25, 26, 27, 28, 29, 30, 31, 32] (by decide +kernel) (by decide +kernel)
set_option maxRecDepth 20000 in
theorem gX0_countVain_X0_wishCount : GoodIn wsX0_countVain (wsV RX0 158 RX0 yX0_wishCount wsX0_wishCount) := goodIn_app (goodIn_of _ (by decide +kernel)) ggX0_countVain_X0_wishCount
set_option maxRecDepth 20000 in
theorem ggX0_countVain_X0_isVain : GoodIn wsX0_countVain wsX0_isVain := goodIn_r _ [10, 11, 12, 5, 13, 14, 15, 16, 17, 18, 19] (by decide +kernel) (by decide +kernel)
set_option maxRecDepth 20000 in
theorem gX0_countVain_X0_isVain : GoodIn wsX0_countVain (va_wsS RX0 96 yX0_isVain wsX0_isVain) := goodIn_app (goodIn_of _ (by decide +kernel)) ggX0_countVain_X0_isVain
set_option maxRecDepth 20000 in
theorem ggX0_countVain_X0_oneIf : GoodIn wsX0_countVain wsX0_oneIf := goodIn_r _ [22] (by decide +kernel) (by decide +kernel)
set_option maxRecDepth 20000 in
theorem gX0_countVain_X0_oneIf : GoodIn wsX0_countVain (va_wsS RX0 78 yX0_oneIf wsX0_oneIf) := goodIn_app (goodIn_of _ (by decide +kernel)) ggX0_countVain_X0_oneIf
theorem dX0_countVain_0 : decode cX0_countVain 0 = .ok (.iconst 0, 1) := by decide +kernel
theorem dX0_countVain_1 : decode cX0_countVain 1 = .ok (.istore_n 1, 1) := by decide +kernel
theorem dX0_countVain_2 : decode cX0_countVain 2 = .ok (.iconst 0, 1) := by decide +kernel
theorem dX0_countVain_3 : decode cX0_countVain 3 = .ok (.istore_n 2, 1) := by decide +kernel
theorem dX0_countVain_4 : decode cX0_countVain 4 = .ok (.iload_n 2, 1) := by decide +kernel
theorem dX0_countVain_5 : decode cX0_countVain 5 = .ok (.aload_n 0, 1) := by decide +kernel
theorem dX0_countVain_6 : decode cX0_countVain 6 = .ok (.invokevirtual 158, 3) := by decide +kernel
theorem dX0_countVain_9 : decode cX0_countVain 9 = .ok (.if_icmp .ge 23, 3) := by decide +kernel
theorem dX0_countVain_12 : decode cX0_countVain 12 = .ok (.iload_n 1, 1) := by decide +kernel
theorem dX0_countVain_13 : decode cX0_countVain 13 = .ok (.aload_n 0, 1) := by decide +kernel
theorem dX0_countVain_14 : decode cX0_countVain 14 = .ok (.getfield 19, 3) := by decide +kernel
theorem dX0_countVain_17 : decode cX0_countVain 17 = .ok (.iload_n 2, 1) := by decide +kernel
theorem dX0_countVain_18 : decode cX0_countVain 18 = .ok (.invokestatic 96, 3) := by decide +kernel
theorem dX0_countVain_21 : decode cX0_countVain 21 = .ok (.invokestatic 78, 3) := by decide +kernel
theorem dX0_countVain_24 : decode cX0_countVain 24 = .ok (.iadd, 1) := by decide +kernel
theorem dX0_countVain_25 : decode cX0_countVain 25 = .ok (.istore_n 1, 1) := by decide +kernel
theorem dX0_countVain_26 : decode cX0_countVain 26 = .ok (.iinc 2 1, 3) := by decide +kernel
theorem dX0_countVain_29 : decode cX0_countVain 29 = .ok (.goto (-25), 3) := by decide +kernel
theorem dX0_countVain_32 : decode cX0_countVain 32 = .ok (.iload_n 1, 1) := by decide +kernel
theorem dX0_countVain_33 : decode cX0_countVain 33 = .ok (.ireturn, 1) := by decide +kernel
set_option maxRecDepth 20000 in
theorem ggX0_countPairs_X0_wishCount : GoodIn wsX0_countPairs wsX0_wishCount := goodIn_r _ [6, 7, 18, 19, 20, 21, 22, 23, 24, 25, 26, 27] (by decide +kernel) (by decide +kernel)
set_option maxRecDepth 20000 in
theorem gX0_countPairs_X0_wishCount : GoodIn wsX0_countPairs (wsV RX0 158 RX0 yX0_wishCount wsX0_wishCount) := goodIn_app (goodIn_of _ (by decide +kernel)) ggX0_countPairs_X0_wishCount
set_option maxRecDepth 20000 in
theorem ggX0_countPairs_X0_at : GoodIn wsX0_countPairs wsX0_at := goodIn_r _ [10] (by decide +kernel) (by decide +kernel)
set_option maxRecDepth 20000 in
theorem gX0_countPairs_X0_at : GoodIn wsX0_countPairs (va_wsS RX0 74 yX0_at wsX0_at) := goodIn_app (goodIn_of _ (by decide +kernel)) ggX0_countPairs_X0_at
set_option maxRecDepth 20000 in
theorem ggX0_countPairs_J6_bitCount_0f7a4 : GoodIn wsX0_countPairs wsJ6_bitCount_0f7a4 := goodIn_r _ [14, 15, 16, 17] (by decide +kernel) (by decide +kernel)
set_option maxRecDepth 20000 in
theorem gX0_countPairs_J6_bitCount_0f7a4 : GoodIn wsX0_countPairs (va_wsS RX0 106 yJ6_bitCount_0f7a4 wsJ6_bitCount_0f7a4) := goodIn_app (goodIn_of _ (by decide +kernel)) ggX0_countPairs_J6_bitCount_0f7a4
theorem dX0_countPairs_0 : decode cX0_countPairs 0 = .ok (.iconst 0, 1) := by decide +kernel
theorem dX0_countPairs_1 : decode cX0_countPairs 1 = .ok (.istore_n 1, 1) := by decide +kernel
theorem dX0_countPairs_2 : decode cX0_countPairs 2 = .ok (.iconst 0, 1) := by decide +kernel
theorem dX0_countPairs_3 : decode cX0_countPairs 3 = .ok (.istore_n 2, 1) := by decide +kernel
theorem dX0_countPairs_4 : decode cX0_countPairs 4 = .ok (.iload_n 2, 1) := by decide +kernel
theorem dX0_countPairs_5 : decode cX0_countPairs 5 = .ok (.aload_n 0, 1) := by decide +kernel
theorem dX0_countPairs_6 : decode cX0_countPairs 6 = .ok (.invokevirtual 158, 3) := by decide +kernel
theorem dX0_countPairs_9 : decode cX0_countPairs 9 = .ok (.if_icmp .ge 25, 3) := by decide +kernel
theorem dX0_countPairs_12 : decode cX0_countPairs 12 = .ok (.iload_n 1, 1) := by decide +kernel
theorem dX0_countPairs_13 : decode cX0_countPairs 13 = .ok (.aload_n 0, 1) := by decide +kernel
theorem dX0_countPairs_14 : decode cX0_countPairs 14 = .ok (.getfield 19, 3) := by decide +kernel
theorem dX0_countPairs_17 : decode cX0_countPairs 17 = .ok (.iload_n 2, 1) := by decide +kernel
theorem dX0_countPairs_18 : decode cX0_countPairs 18 = .ok (.invokestatic 74, 3) := by decide +kernel
theorem dX0_countPairs_21 : decode cX0_countPairs 21 = .ok (.invokestatic 106, 3) := by decide +kernel
theorem dX0_countPairs_24 : decode cX0_countPairs 24 = .ok (.iconst 1, 1) := by decide +kernel
theorem dX0_countPairs_25 : decode cX0_countPairs 25 = .ok (.isub, 1) := by decide +kernel
theorem dX0_countPairs_26 : decode cX0_countPairs 26 = .ok (.iadd, 1) := by decide +kernel
theorem dX0_countPairs_27 : decode cX0_countPairs 27 = .ok (.istore_n 1, 1) := by decide +kernel
theorem dX0_countPairs_28 : decode cX0_countPairs 28 = .ok (.iinc 2 1, 3) := by decide +kernel
theorem dX0_countPairs_31 : decode cX0_countPairs 31 = .ok (.goto (-27), 3) := by decide +kernel
theorem dX0_countPairs_34 : decode cX0_countPairs 34 = .ok (.iload_n 1, 1) := by decide +kernel
theorem dX0_countPairs_35 : decode cX0_countPairs 35 = .ok (.ireturn, 1) := by decide +kernel
set_option maxRecDepth 20000 in
theorem ggX0_oneStepOn_X0_wishCount : GoodIn wsX0_oneStepOn wsX0_wishCount := goodIn_r _ [6, 7, 14, 15, 16, 17, 18, 19, 20, 21, 22, 23] (by decide +kernel) (by decide +kernel)
set_option maxRecDepth 20000 in
theorem gX0_oneStepOn_X0_wishCount : GoodIn wsX0_oneStepOn (wsV RX0 158 RX0 yX0_wishCount wsX0_wishCount) := goodIn_app (goodIn_of _ (by decide +kernel)) ggX0_oneStepOn_X0_wishCount
set_option maxRecDepth 20000 in
theorem ggX0_oneStepOn_X0_has : GoodIn wsX0_oneStepOn wsX0_has := goodIn_r _ [10] (by decide +kernel) (by decide +kernel)
set_option maxRecDepth 20000 in
theorem gX0_oneStepOn_X0_has : GoodIn wsX0_oneStepOn (va_wsS RX0 67 yX0_has wsX0_has) := goodIn_app (goodIn_of _ (by decide +kernel)) ggX0_oneStepOn_X0_has
set_option maxRecDepth 20000 in
theorem ggX0_oneStepOn_X0_at : GoodIn wsX0_oneStepOn wsX0_at := goodIn_r _ [13] (by decide +kernel) (by decide +kernel)
set_option maxRecDepth 20000 in
theorem gX0_oneStepOn_X0_at : GoodIn wsX0_oneStepOn (va_wsS RX0 74 yX0_at wsX0_at) := goodIn_app (goodIn_of _ (by decide +kernel)) ggX0_oneStepOn_X0_at
theorem dX0_oneStepOn_0 : decode cX0_oneStepOn 0 = .ok (.iload_n 1, 1) := by decide +kernel
theorem dX0_oneStepOn_1 : decode cX0_oneStepOn 1 = .ok (.istore_n 2, 1) := by decide +kernel
theorem dX0_oneStepOn_2 : decode cX0_oneStepOn 2 = .ok (.iconst 0, 1) := by decide +kernel
theorem dX0_oneStepOn_3 : decode cX0_oneStepOn 3 = .ok (.istore_n 3, 1) := by decide +kernel
theorem dX0_oneStepOn_4 : decode cX0_oneStepOn 4 = .ok (.iload_n 3, 1) := by decide +kernel
theorem dX0_oneStepOn_5 : decode cX0_oneStepOn 5 = .ok (.aload_n 0, 1) := by decide +kernel
theorem dX0_oneStepOn_6 : decode cX0_oneStepOn 6 = .ok (.invokevirtual 158, 3) := by decide +kernel
theorem dX0_oneStepOn_9 : decode cX0_oneStepOn 9 = .ok (.if_icmp .ge 28, 3) := by decide +kernel
theorem dX0_oneStepOn_12 : decode cX0_oneStepOn 12 = .ok (.iload_n 1, 1) := by decide +kernel
theorem dX0_oneStepOn_13 : decode cX0_oneStepOn 13 = .ok (.iload_n 3, 1) := by decide +kernel
theorem dX0_oneStepOn_14 : decode cX0_oneStepOn 14 = .ok (.invokestatic 67, 3) := by decide +kernel
theorem dX0_oneStepOn_17 : decode cX0_oneStepOn 17 = .ok (.ifCond .eq 14, 3) := by decide +kernel
theorem dX0_oneStepOn_20 : decode cX0_oneStepOn 20 = .ok (.iload_n 2, 1) := by decide +kernel
theorem dX0_oneStepOn_21 : decode cX0_oneStepOn 21 = .ok (.aload_n 0, 1) := by decide +kernel
theorem dX0_oneStepOn_22 : decode cX0_oneStepOn 22 = .ok (.getfield 16, 3) := by decide +kernel
theorem dX0_oneStepOn_25 : decode cX0_oneStepOn 25 = .ok (.iload_n 3, 1) := by decide +kernel
theorem dX0_oneStepOn_26 : decode cX0_oneStepOn 26 = .ok (.invokestatic 74, 3) := by decide +kernel
theorem dX0_oneStepOn_29 : decode cX0_oneStepOn 29 = .ok (.ior, 1) := by decide +kernel
theorem dX0_oneStepOn_30 : decode cX0_oneStepOn 30 = .ok (.istore_n 2, 1) := by decide +kernel
theorem dX0_oneStepOn_31 : decode cX0_oneStepOn 31 = .ok (.iinc 3 1, 3) := by decide +kernel
theorem dX0_oneStepOn_34 : decode cX0_oneStepOn 34 = .ok (.goto (-30), 3) := by decide +kernel
theorem dX0_oneStepOn_37 : decode cX0_oneStepOn 37 = .ok (.iload_n 2, 1) := by decide +kernel
theorem dX0_oneStepOn_38 : decode cX0_oneStepOn 38 = .ok (.ireturn, 1) := by decide +kernel
set_option maxRecDepth 20000 in
theorem ggX0_guestsBoundTo_X0_wishCount : GoodIn wsX0_guestsBoundTo wsX0_wishCount := goodIn_r _ [6, 7, 14, 15, 16, 17, 18, 19, 20, 21, 22, 23] (by decide +kernel) (by decide +kernel)
set_option maxRecDepth 20000 in
theorem gX0_guestsBoundTo_X0_wishCount : GoodIn wsX0_guestsBoundTo (wsV RX0 158 RX0 yX0_wishCount wsX0_wishCount) := goodIn_app (goodIn_of _ (by decide +kernel)) ggX0_guestsBoundTo_X0_wishCount
set_option maxRecDepth 20000 in
theorem ggX0_guestsBoundTo_X0_at : GoodIn wsX0_guestsBoundTo wsX0_at := goodIn_r _ [10] (by decide +kernel) (by decide +kernel)
set_option maxRecDepth 20000 in
theorem gX0_guestsBoundTo_X0_at : GoodIn wsX0_guestsBoundTo (va_wsS RX0 74 yX0_at wsX0_at) := goodIn_app (goodIn_of _ (by decide +kernel)) ggX0_guestsBoundTo_X0_at
set_option maxRecDepth 20000 in
theorem ggX0_guestsBoundTo_X0_has : GoodIn wsX0_guestsBoundTo wsX0_has := goodIn_r _ [13] (by decide +kernel) (by decide +kernel)
set_option maxRecDepth 20000 in
theorem gX0_guestsBoundTo_X0_has : GoodIn wsX0_guestsBoundTo (va_wsS RX0 67 yX0_has wsX0_has) := goodIn_app (goodIn_of _ (by decide +kernel)) ggX0_guestsBoundTo_X0_has
theorem dX0_guestsBoundTo_0 : decode cX0_guestsBoundTo 0 = .ok (.iconst 0, 1) := by decide +kernel
theorem dX0_guestsBoundTo_1 : decode cX0_guestsBoundTo 1 = .ok (.istore_n 2, 1) := by decide +kernel
theorem dX0_guestsBoundTo_2 : decode cX0_guestsBoundTo 2 = .ok (.iconst 0, 1) := by decide +kernel
theorem dX0_guestsBoundTo_3 : decode cX0_guestsBoundTo 3 = .ok (.istore_n 3, 1) := by decide +kernel
theorem dX0_guestsBoundTo_4 : decode cX0_guestsBoundTo 4 = .ok (.iload_n 3, 1) := by decide +kernel
theorem dX0_guestsBoundTo_5 : decode cX0_guestsBoundTo 5 = .ok (.aload_n 0, 1) := by decide +kernel
theorem dX0_guestsBoundTo_6 : decode cX0_guestsBoundTo 6 = .ok (.invokevirtual 158, 3) := by decide +kernel
theorem dX0_guestsBoundTo_9 : decode cX0_guestsBoundTo 9 = .ok (.if_icmp .ge 47, 3) := by decide +kernel
theorem dX0_guestsBoundTo_12 : decode cX0_guestsBoundTo 12 = .ok (.aload_n 0, 1) := by decide +kernel
theorem dX0_guestsBoundTo_13 : decode cX0_guestsBoundTo 13 = .ok (.getfield 19, 3) := by decide +kernel
theorem dX0_guestsBoundTo_16 : decode cX0_guestsBoundTo 16 = .ok (.iload_n 1, 1) := by decide +kernel
theorem dX0_guestsBoundTo_17 : decode cX0_guestsBoundTo 17 = .ok (.invokestatic 74, 3) := by decide +kernel
theorem dX0_guestsBoundTo_20 : decode cX0_guestsBoundTo 20 = .ok (.iload_n 3, 1) := by decide +kernel
theorem dX0_guestsBoundTo_21 : decode cX0_guestsBoundTo 21 = .ok (.invokestatic 67, 3) := by decide +kernel
theorem dX0_guestsBoundTo_24 : decode cX0_guestsBoundTo 24 = .ok (.ifCond .eq 26, 3) := by decide +kernel
theorem dX0_guestsBoundTo_27 : decode cX0_guestsBoundTo 27 = .ok (.aload_n 0, 1) := by decide +kernel
theorem dX0_guestsBoundTo_28 : decode cX0_guestsBoundTo 28 = .ok (.getfield 19, 3) := by decide +kernel
theorem dX0_guestsBoundTo_31 : decode cX0_guestsBoundTo 31 = .ok (.iload_n 3, 1) := by decide +kernel
theorem dX0_guestsBoundTo_32 : decode cX0_guestsBoundTo 32 = .ok (.invokestatic 74, 3) := by decide +kernel
theorem dX0_guestsBoundTo_35 : decode cX0_guestsBoundTo 35 = .ok (.iload_n 1, 1) := by decide +kernel
theorem dX0_guestsBoundTo_36 : decode cX0_guestsBoundTo 36 = .ok (.invokestatic 67, 3) := by decide +kernel
theorem dX0_guestsBoundTo_39 : decode cX0_guestsBoundTo 39 = .ok (.ifCond .eq 11, 3) := by decide +kernel
theorem dX0_guestsBoundTo_42 : decode cX0_guestsBoundTo 42 = .ok (.iload_n 2, 1) := by decide +kernel
theorem dX0_guestsBoundTo_43 : decode cX0_guestsBoundTo 43 = .ok (.iconst 1, 1) := by decide +kernel
theorem dX0_guestsBoundTo_44 : decode cX0_guestsBoundTo 44 = .ok (.iload_n 3, 1) := by decide +kernel
theorem dX0_guestsBoundTo_45 : decode cX0_guestsBoundTo 45 = .ok (.iconst 1, 1) := by decide +kernel
theorem dX0_guestsBoundTo_46 : decode cX0_guestsBoundTo 46 = .ok (.ishr, 1) := by decide +kernel
theorem dX0_guestsBoundTo_47 : decode cX0_guestsBoundTo 47 = .ok (.ishl, 1) := by decide +kernel
theorem dX0_guestsBoundTo_48 : decode cX0_guestsBoundTo 48 = .ok (.ior, 1) := by decide +kernel
theorem dX0_guestsBoundTo_49 : decode cX0_guestsBoundTo 49 = .ok (.istore_n 2, 1) := by decide +kernel
theorem dX0_guestsBoundTo_50 : decode cX0_guestsBoundTo 50 = .ok (.iinc 3 1, 3) := by decide +kernel
theorem dX0_guestsBoundTo_53 : decode cX0_guestsBoundTo 53 = .ok (.goto (-49), 3) := by decide +kernel
theorem dX0_guestsBoundTo_56 : decode cX0_guestsBoundTo 56 = .ok (.iload_n 2, 1) := by decide +kernel
theorem dX0_guestsBoundTo_57 : decode cX0_guestsBoundTo 57 = .ok (.ireturn, 1) := by decide +kernel
set_option maxRecDepth 20000 in
theorem ggX0_guestsComing_X0_has : GoodIn wsX0_guestsComing wsX0_has := goodIn_r _ [5] (by decide +kernel) (by decide +kernel)
set_option maxRecDepth 20000 in
theorem gX0_guestsComing_X0_has : GoodIn wsX0_guestsComing (va_wsS RX0 67 yX0_has wsX0_has) := goodIn_app (goodIn_of _ (by decide +kernel)) ggX0_guestsComing_X0_has
theorem dX0_guestsComing_0 : decode cX0_guestsComing 0 = .ok (.iconst 0, 1) := by decide +kernel
theorem dX0_guestsComing_1 : decode cX0_guestsComing 1 = .ok (.istore_n 2, 1) := by decide +kernel
theorem dX0_guestsComing_2 : decode cX0_guestsComing 2 = .ok (.iconst 0, 1) := by decide +kernel
theorem dX0_guestsComing_3 : decode cX0_guestsComing 3 = .ok (.istore_n 3, 1) := by decide +kernel
theorem dX0_guestsComing_4 : decode cX0_guestsComing 4 = .ok (.iload_n 3, 1) := by decide +kernel
theorem dX0_guestsComing_5 : decode cX0_guestsComing 5 = .ok (.aload_n 0, 1) := by decide +kernel
theorem dX0_guestsComing_6 : decode cX0_guestsComing 6 = .ok (.getfield 31, 3) := by decide +kernel
theorem dX0_guestsComing_9 : decode cX0_guestsComing 9 = .ok (.if_icmp .ge 25, 3) := by decide +kernel
theorem dX0_guestsComing_12 : decode cX0_guestsComing 12 = .ok (.iload_n 1, 1) := by decide +kernel
theorem dX0_guestsComing_13 : decode cX0_guestsComing 13 = .ok (.iconst 2, 1) := by decide +kernel
theorem dX0_guestsComing_14 : decode cX0_guestsComing 14 = .ok (.iload_n 3, 1) := by decide +kernel
theorem dX0_guestsComing_15 : decode cX0_guestsComing 15 = .ok (.imul, 1) := by decide +kernel
theorem dX0_guestsComing_16 : decode cX0_guestsComing 16 = .ok (.invokestatic 67, 3) := by decide +kernel
theorem dX0_guestsComing_19 : decode cX0_guestsComing 19 = .ok (.ifCond .eq 9, 3) := by decide +kernel
theorem dX0_guestsComing_22 : decode cX0_guestsComing 22 = .ok (.iload_n 2, 1) := by decide +kernel
theorem dX0_guestsComing_23 : decode cX0_guestsComing 23 = .ok (.iconst 1, 1) := by decide +kernel
theorem dX0_guestsComing_24 : decode cX0_guestsComing 24 = .ok (.iload_n 3, 1) := by decide +kernel
theorem dX0_guestsComing_25 : decode cX0_guestsComing 25 = .ok (.ishl, 1) := by decide +kernel
theorem dX0_guestsComing_26 : decode cX0_guestsComing 26 = .ok (.ior, 1) := by decide +kernel
theorem dX0_guestsComing_27 : decode cX0_guestsComing 27 = .ok (.istore_n 2, 1) := by decide +kernel
theorem dX0_guestsComing_28 : decode cX0_guestsComing 28 = .ok (.iinc 3 1, 3) := by decide +kernel
theorem dX0_guestsComing_31 : decode cX0_guestsComing 31 = .ok (.goto (-27), 3) := by decide +kernel
theorem dX0_guestsComing_34 : decode cX0_guestsComing 34 = .ok (.iload_n 2, 1) := by decide +kernel
theorem dX0_guestsComing_35 : decode cX0_guestsComing 35 = .ok (.ireturn, 1) := by decide +kernel
set_option maxRecDepth 20000 in
theorem ggX0_countComing_J6_bitCount_0f7a4 : GoodIn wsX0_countComing wsJ6_bitCount_0f7a4 := goodIn_r _ [5, 6, 7, 8] (by decide +kernel) (by decide +kernel)
set_option maxRecDepth 20000 in
theorem gX0_countComing_J6_bitCount_0f7a4 : GoodIn wsX0_countComing (va_wsS RX0 106 yJ6_bitCount_0f7a4 wsJ6_bitCount_0f7a4) := goodIn_app (goodIn_of _ (by decide +kernel)) ggX0_countComing_J6_bitCount_0f7a4
theorem dX0_countComing_0 : decode cX0_countComing 0 = .ok (.iload_n 0, 1) := by decide +kernel
theorem dX0_countComing_1 : decode cX0_countComing 1 = .ok (.ldc 195, 2) := by decide +kernel
theorem dX0_countComing_3 : decode cX0_countComing 3 = .ok (.iand, 1) := by decide +kernel
theorem dX0_countComing_4 : decode cX0_countComing 4 = .ok (.invokestatic 106, 3) := by decide +kernel
theorem dX0_countComing_7 : decode cX0_countComing 7 = .ok (.ireturn, 1) := by decide +kernel
theorem dX0_has_0 : decode cX0_has 0 = .ok (.iload_n 0, 1) := by decide +kernel
theorem dX0_has_1 : decode cX0_has 1 = .ok (.iload_n 1, 1) := by decide +kernel
theorem dX0_has_2 : decode cX0_has 2 = .ok (.ishr, 1) := by decide +kernel
theorem dX0_has_3 : decode cX0_has 3 = .ok (.iconst 1, 1) := by decide +kernel
theorem dX0_has_4 : decode cX0_has 4 = .ok (.iand, 1) := by decide +kernel
theorem dX0_has_5 : decode cX0_has 5 = .ok (.ifCond .eq 7, 3) := by decide +kernel
theorem dX0_has_8 : decode cX0_has 8 = .ok (.iconst 1, 1) := by decide +kernel
theorem dX0_has_9 : decode cX0_has 9 = .ok (.goto 4, 3) := by decide +kernel
theorem dX0_has_12 : decode cX0_has 12 = .ok (.iconst 0, 1) := by decide +kernel
theorem dX0_has_13 : decode cX0_has 13 = .ok (.ireturn, 1) := by decide +kernel
theorem dX0_at_0 : decode cX0_at 0 = .ok (.iload_n 1, 1) := by decide +kernel
theorem dX0_at_1 : decode cX0_at 1 = .ok (.ifCond .lt 15, 3) := by decide +kernel
theorem dX0_at_4 : decode cX0_at 4 = .ok (.iload_n 1, 1) := by decide +kernel
theorem dX0_at_5 : decode cX0_at 5 = .ok (.aload_n 0, 1) := by decide +kernel
theorem dX0_at_6 : decode cX0_at 6 = .ok (.arraylength, 1) := by decide +kernel
theorem dX0_at_7 : decode cX0_at 7 = .ok (.if_icmp .ge 9, 3) := by decide +kernel
theorem dX0_at_10 : decode cX0_at 10 = .ok (.aload_n 0, 1) := by decide +kernel
theorem dX0_at_11 : decode cX0_at 11 = .ok (.iload_n 1, 1) := by decide +kernel
theorem dX0_at_12 : decode cX0_at 12 = .ok (.iaload, 1) := by decide +kernel
theorem dX0_at_13 : decode cX0_at 13 = .ok (.goto 4, 3) := by decide +kernel
theorem dX0_at_16 : decode cX0_at 16 = .ok (.iconst 0, 1) := by decide +kernel
theorem dX0_at_17 : decode cX0_at 17 = .ok (.ireturn, 1) := by decide +kernel
theorem dX0_put_0 : decode cX0_put 0 = .ok (.iload_n 1, 1) := by decide +kernel
theorem dX0_put_1 : decode cX0_put 1 = .ok (.ifCond .lt 13, 3) := by decide +kernel
theorem dX0_put_4 : decode cX0_put 4 = .ok (.iload_n 1, 1) := by decide +kernel
theorem dX0_put_5 : decode cX0_put 5 = .ok (.aload_n 0, 1) := by decide +kernel
theorem dX0_put_6 : decode cX0_put 6 = .ok (.arraylength, 1) := by decide +kernel
theorem dX0_put_7 : decode cX0_put 7 = .ok (.if_icmp .ge 7, 3) := by decide +kernel
theorem dX0_put_10 : decode cX0_put 10 = .ok (.aload_n 0, 1) := by decide +kernel
theorem dX0_put_11 : decode cX0_put 11 = .ok (.iload_n 1, 1) := by decide +kernel
theorem dX0_put_12 : decode cX0_put 12 = .ok (.iload_n 2, 1) := by decide +kernel
theorem dX0_put_13 : decode cX0_put 13 = .ok (.iastore, 1) := by decide +kernel
theorem dX0_put_14 : decode cX0_put 14 = .ok (.return_, 1) := by decide +kernel
theorem dX0_oneIf_0 : decode cX0_oneIf 0 = .ok (.iload_n 0, 1) := by decide +kernel
theorem dX0_oneIf_1 : decode cX0_oneIf 1 = .ok (.ifCond .eq 7, 3) := by decide +kernel
theorem dX0_oneIf_4 : decode cX0_oneIf 4 = .ok (.iconst 1, 1) := by decide +kernel
theorem dX0_oneIf_5 : decode cX0_oneIf 5 = .ok (.goto 4, 3) := by decide +kernel
theorem dX0_oneIf_8 : decode cX0_oneIf 8 = .ok (.iconst 0, 1) := by decide +kernel
theorem dX0_oneIf_9 : decode cX0_oneIf 9 = .ok (.ireturn, 1) := by decide +kernel
theorem dX0_mix_0 : decode cX0_mix 0 = .ok (.lload_n 0, 1) := by decide +kernel
theorem dX0_mix_1 : decode cX0_mix 1 = .ok (.ldc2_w 196, 3) := by decide +kernel
theorem dX0_mix_4 : decode cX0_mix 4 = .ok (.lmul, 1) := by decide +kernel
theorem dX0_mix_5 : decode cX0_mix 5 = .ok (.iload_n 2, 1) := by decide +kernel
theorem dX0_mix_6 : decode cX0_mix 6 = .ok (.i2l, 1) := by decide +kernel
theorem dX0_mix_7 : decode cX0_mix 7 = .ok (.ladd, 1) := by decide +kernel
theorem dX0_mix_8 : decode cX0_mix 8 = .ok (.lreturn, 1) := by decide +kernel
theorem dJ6_bitCount_0f7a4_0 : decode cJ6_bitCount_0f7a4 0 = .ok (.iload_n 0, 1) := by decide +kernel
theorem dJ6_bitCount_0f7a4_1 : decode cJ6_bitCount_0f7a4 1 = .ok (.iload_n 0, 1) := by decide +kernel
theorem dJ6_bitCount_0f7a4_2 : decode cJ6_bitCount_0f7a4 2 = .ok (.iconst 1, 1) := by decide +kernel
theorem dJ6_bitCount_0f7a4_3 : decode cJ6_bitCount_0f7a4 3 = .ok (.iushr, 1) := by decide +kernel
theorem dJ6_bitCount_0f7a4_4 : decode cJ6_bitCount_0f7a4 4 = .ok (.ldc_w 265, 3) := by decide +kernel
theorem dJ6_bitCount_0f7a4_7 : decode cJ6_bitCount_0f7a4 7 = .ok (.iand, 1) := by decide +kernel
theorem dJ6_bitCount_0f7a4_8 : decode cJ6_bitCount_0f7a4 8 = .ok (.isub, 1) := by decide +kernel
theorem dJ6_bitCount_0f7a4_9 : decode cJ6_bitCount_0f7a4 9 = .ok (.istore_n 0, 1) := by decide +kernel
theorem dJ6_bitCount_0f7a4_10 : decode cJ6_bitCount_0f7a4 10 = .ok (.iload_n 0, 1) := by decide +kernel
theorem dJ6_bitCount_0f7a4_11 : decode cJ6_bitCount_0f7a4 11 = .ok (.ldc_w 266, 3) := by decide +kernel
theorem dJ6_bitCount_0f7a4_14 : decode cJ6_bitCount_0f7a4 14 = .ok (.iand, 1) := by decide +kernel
theorem dJ6_bitCount_0f7a4_15 : decode cJ6_bitCount_0f7a4 15 = .ok (.iload_n 0, 1) := by decide +kernel
theorem dJ6_bitCount_0f7a4_16 : decode cJ6_bitCount_0f7a4 16 = .ok (.iconst 2, 1) := by decide +kernel
theorem dJ6_bitCount_0f7a4_17 : decode cJ6_bitCount_0f7a4 17 = .ok (.iushr, 1) := by decide +kernel
theorem dJ6_bitCount_0f7a4_18 : decode cJ6_bitCount_0f7a4 18 = .ok (.ldc_w 266, 3) := by decide +kernel
theorem dJ6_bitCount_0f7a4_21 : decode cJ6_bitCount_0f7a4 21 = .ok (.iand, 1) := by decide +kernel
theorem dJ6_bitCount_0f7a4_22 : decode cJ6_bitCount_0f7a4 22 = .ok (.iadd, 1) := by decide +kernel
theorem dJ6_bitCount_0f7a4_23 : decode cJ6_bitCount_0f7a4 23 = .ok (.istore_n 0, 1) := by decide +kernel
theorem dJ6_bitCount_0f7a4_24 : decode cJ6_bitCount_0f7a4 24 = .ok (.iload_n 0, 1) := by decide +kernel
theorem dJ6_bitCount_0f7a4_25 : decode cJ6_bitCount_0f7a4 25 = .ok (.iload_n 0, 1) := by decide +kernel
theorem dJ6_bitCount_0f7a4_26 : decode cJ6_bitCount_0f7a4 26 = .ok (.iconst 4, 1) := by decide +kernel
theorem dJ6_bitCount_0f7a4_27 : decode cJ6_bitCount_0f7a4 27 = .ok (.iushr, 1) := by decide +kernel
theorem dJ6_bitCount_0f7a4_28 : decode cJ6_bitCount_0f7a4 28 = .ok (.iadd, 1) := by decide +kernel
theorem dJ6_bitCount_0f7a4_29 : decode cJ6_bitCount_0f7a4 29 = .ok (.ldc_w 267, 3) := by decide +kernel
theorem dJ6_bitCount_0f7a4_32 : decode cJ6_bitCount_0f7a4 32 = .ok (.iand, 1) := by decide +kernel
theorem dJ6_bitCount_0f7a4_33 : decode cJ6_bitCount_0f7a4 33 = .ok (.istore_n 0, 1) := by decide +kernel
theorem dJ6_bitCount_0f7a4_34 : decode cJ6_bitCount_0f7a4 34 = .ok (.iload_n 0, 1) := by decide +kernel
theorem dJ6_bitCount_0f7a4_35 : decode cJ6_bitCount_0f7a4 35 = .ok (.iload_n 0, 1) := by decide +kernel
theorem dJ6_bitCount_0f7a4_36 : decode cJ6_bitCount_0f7a4 36 = .ok (.bipush 8, 2) := by decide +kernel
theorem dJ6_bitCount_0f7a4_38 : decode cJ6_bitCount_0f7a4 38 = .ok (.iushr, 1) := by decide +kernel
theorem dJ6_bitCount_0f7a4_39 : decode cJ6_bitCount_0f7a4 39 = .ok (.iadd, 1) := by decide +kernel
theorem dJ6_bitCount_0f7a4_40 : decode cJ6_bitCount_0f7a4 40 = .ok (.istore_n 0, 1) := by decide +kernel
theorem dJ6_bitCount_0f7a4_41 : decode cJ6_bitCount_0f7a4 41 = .ok (.iload_n 0, 1) := by decide +kernel
theorem dJ6_bitCount_0f7a4_42 : decode cJ6_bitCount_0f7a4 42 = .ok (.iload_n 0, 1) := by decide +kernel
theorem dJ6_bitCount_0f7a4_43 : decode cJ6_bitCount_0f7a4 43 = .ok (.bipush 16, 2) := by decide +kernel
theorem dJ6_bitCount_0f7a4_45 : decode cJ6_bitCount_0f7a4 45 = .ok (.iushr, 1) := by decide +kernel
theorem dJ6_bitCount_0f7a4_46 : decode cJ6_bitCount_0f7a4 46 = .ok (.iadd, 1) := by decide +kernel
theorem dJ6_bitCount_0f7a4_47 : decode cJ6_bitCount_0f7a4 47 = .ok (.istore_n 0, 1) := by decide +kernel
theorem dJ6_bitCount_0f7a4_48 : decode cJ6_bitCount_0f7a4 48 = .ok (.iload_n 0, 1) := by decide +kernel
theorem dJ6_bitCount_0f7a4_49 : decode cJ6_bitCount_0f7a4 49 = .ok (.bipush 63, 2) := by decide +kernel
theorem dJ6_bitCount_0f7a4_51 : decode cJ6_bitCount_0f7a4 51 = .ok (.iand, 1) := by decide +kernel
theorem dJ6_bitCount_0f7a4_52 : decode cJ6_bitCount_0f7a4 52 = .ok (.ireturn, 1) := by decide +kernel
theorem dJ9_max_7cf53_0 : decode cJ9_max_7cf53 0 = .ok (.iload_n 0, 1) := by decide +kernel
theorem dJ9_max_7cf53_1 : decode cJ9_max_7cf53 1 = .ok (.iload_n 1, 1) := by decide +kernel
theorem dJ9_max_7cf53_2 : decode cJ9_max_7cf53 2 = .ok (.if_icmp .lt 7, 3) := by decide +kernel
theorem dJ9_max_7cf53_5 : decode cJ9_max_7cf53 5 = .ok (.iload_n 0, 1) := by decide +kernel
theorem dJ9_max_7cf53_6 : decode cJ9_max_7cf53 6 = .ok (.goto 4, 3) := by decide +kernel
theorem dJ9_max_7cf53_9 : decode cJ9_max_7cf53 9 = .ok (.iload_n 1, 1) := by decide +kernel
theorem dJ9_max_7cf53_10 : decode cJ9_max_7cf53 10 = .ok (.ireturn, 1) := by decide +kernel
end
section
theorem dX1_init_0 : decode cX1_init 0 = .ok (.aload_n 0, 1) := by decide +kernel
theorem dX1_init_1 : decode cX1_init 1 = .ok (.invokespecial 1, 3) := by decide +kernel
theorem dX1_init_4 : decode cX1_init 4 = .ok (.aload_n 0, 1) := by decide +kernel
theorem dX1_init_5 : decode cX1_init 5 = .ok (.bipush 30, 2) := by decide +kernel
theorem dX1_init_7 : decode cX1_init 7 = .ok (.newarray .int, 2) := by decide +kernel
theorem dX1_init_9 : decode cX1_init 9 = .ok (.putfield 9, 3) := by decide +kernel
theorem dX1_init_12 : decode cX1_init 12 = .ok (.aload_n 0, 1) := by decide +kernel
theorem dX1_init_13 : decode cX1_init 13 = .ok (.bipush 30, 2) := by decide +kernel
theorem dX1_init_15 : decode cX1_init 15 = .ok (.newarray .int, 2) := by decide +kernel
theorem dX1_init_17 : decode cX1_init 17 = .ok (.putfield 13, 3) := by decide +kernel
theorem dX1_init_20 : decode cX1_init 20 = .ok (.aload_n 0, 1) := by decide +kernel
theorem dX1_init_21 : decode cX1_init 21 = .ok (.bipush 30, 2) := by decide +kernel
theorem dX1_init_23 : decode cX1_init 23 = .ok (.newarray .boolean, 2) := by decide +kernel
theorem dX1_init_25 : decode cX1_init 25 = .ok (.putfield 16, 3) := by decide +kernel
theorem dX1_init_28 : decode cX1_init 28 = .ok (.aload_n 0, 1) := by decide +kernel
theorem dX1_init_29 : decode cX1_init 29 = .ok (.iconst (-1), 1) := by decide +kernel
theorem dX1_init_30 : decode cX1_init 30 = .ok (.putfield 20, 3) := by decide +kernel
theorem dX1_init_33 : decode cX1_init 33 = .ok (.aload_n 0, 1) := by decide +kernel
theorem dX1_init_34 : decode cX1_init 34 = .ok (.iconst (-1), 1) := by decide +kernel
theorem dX1_init_35 : decode cX1_init 35 = .ok (.putfield 24, 3) := by decide +kernel
theorem dX1_init_38 : decode cX1_init 38 = .ok (.aload_n 0, 1) := by decide +kernel
theorem dX1_init_39 : decode cX1_init 39 = .ok (.bipush 20, 2) := by decide +kernel
theorem dX1_init_41 : decode cX1_init 41 = .ok (.newarray .int, 2) := by decide +kernel
theorem dX1_init_43 : decode cX1_init 43 = .ok (.putfield 27, 3) := by decide +kernel
theorem dX1_init_46 : decode cX1_init 46 = .ok (.aload_n 0, 1) := by decide +kernel
theorem dX1_init_47 : decode cX1_init 47 = .ok (.bipush 20, 2) := by decide +kernel
theorem dX1_init_49 : decode cX1_init 49 = .ok (.newarray .int, 2) := by decide +kernel
theorem dX1_init_51 : decode cX1_init 51 = .ok (.putfield 30, 3) := by decide +kernel
theorem dX1_init_54 : decode cX1_init 54 = .ok (.return_, 1) := by decide +kernel
theorem dX1_thrown_0 : decode cX1_thrown 0 = .ok (.aload_n 0, 1) := by decide +kernel
theorem dX1_thrown_1 : decode cX1_thrown 1 = .ok (.getfield 33, 3) := by decide +kernel
theorem dX1_thrown_4 : decode cX1_thrown 4 = .ok (.ireturn, 1) := by decide +kernel
theorem dX1_fail_0 : decode cX1_fail 0 = .ok (.aload_n 0, 1) := by decide +kernel
theorem dX1_fail_1 : decode cX1_fail 1 = .ok (.iload_n 1, 1) := by decide +kernel
theorem dX1_fail_2 : decode cX1_fail 2 = .ok (.putfield 33, 3) := by decide +kernel
theorem dX1_fail_5 : decode cX1_fail 5 = .ok (.iconst 0, 1) := by decide +kernel
theorem dX1_fail_6 : decode cX1_fail 6 = .ok (.ireturn, 1) := by decide +kernel
theorem dX1_isIn_0 : decode cX1_isIn 0 = .ok (.iload_n 0, 1) := by decide +kernel
theorem dX1_isIn_1 : decode cX1_isIn 1 = .ok (.iload_n 1, 1) := by decide +kernel
theorem dX1_isIn_2 : decode cX1_isIn 2 = .ok (.if_icmp .lt 12, 3) := by decide +kernel
theorem dX1_isIn_5 : decode cX1_isIn 5 = .ok (.iload_n 0, 1) := by decide +kernel
theorem dX1_isIn_6 : decode cX1_isIn 6 = .ok (.iload_n 2, 1) := by decide +kernel
theorem dX1_isIn_7 : decode cX1_isIn 7 = .ok (.if_icmp .gt 7, 3) := by decide +kernel
theorem dX1_isIn_10 : decode cX1_isIn 10 = .ok (.iconst 1, 1) := by decide +kernel
theorem dX1_isIn_11 : decode cX1_isIn 11 = .ok (.goto 4, 3) := by decide +kernel
theorem dX1_isIn_14 : decode cX1_isIn 14 = .ok (.iconst 0, 1) := by decide +kernel
theorem dX1_isIn_15 : decode cX1_isIn 15 = .ok (.ireturn, 1) := by decide +kernel
set_option maxRecDepth 20000 in
theorem ggX1_isWish_X1_isIn : GoodIn wsX1_isWish wsX1_isIn := goodIn_r _ [5] (by decide +kernel) (by decide +kernel)
set_option maxRecDepth 20000 in
theorem gX1_isWish_X1_isIn : GoodIn wsX1_isWish (va_wsS RX1 39 yX1_isIn wsX1_isIn) := goodIn_app (goodIn_of _ (by decide +kernel)) ggX1_isWish_X1_isIn
theorem dX1_isWish_0 : decode cX1_isWish 0 = .ok (.iload_n 1, 1) := by decide +kernel
theorem dX1_isWish_1 : decode cX1_isWish 1 = .ok (.iconst 0, 1) := by decide +kernel
theorem dX1_isWish_2 : decode cX1_isWish 2 = .ok (.iconst 2, 1) := by decide +kernel
theorem dX1_isWish_3 : decode cX1_isWish 3 = .ok (.aload_n 0, 1) := by decide +kernel
theorem dX1_isWish_4 : decode cX1_isWish 4 = .ok (.getfield 36, 3) := by decide +kernel
theorem dX1_isWish_7 : decode cX1_isWish 7 = .ok (.imul, 1) := by decide +kernel
theorem dX1_isWish_8 : decode cX1_isWish 8 = .ok (.iconst 1, 1) := by decide +kernel
theorem dX1_isWish_9 : decode cX1_isWish 9 = .ok (.isub, 1) := by decide +kernel
theorem dX1_isWish_10 : decode cX1_isWish 10 = .ok (.invokestatic 39, 3) := by decide +kernel
theorem dX1_isWish_13 : decode cX1_isWish 13 = .ok (.ireturn, 1) := by decide +kernel
theorem dX1_against_0 : decode cX1_against 0 = .ok (.iload_n 0, 1) := by decide +kernel
theorem dX1_against_1 : decode cX1_against 1 = .ok (.iconst 2, 1) := by decide +kernel
theorem dX1_against_2 : decode cX1_against 2 = .ok (.irem, 1) := by decide +kernel
theorem dX1_against_3 : decode cX1_against 3 = .ok (.ifCond .ne 9, 3) := by decide +kernel
theorem dX1_against_6 : decode cX1_against 6 = .ok (.iload_n 0, 1) := by decide +kernel
theorem dX1_against_7 : decode cX1_against 7 = .ok (.iconst 1, 1) := by decide +kernel
theorem dX1_against_8 : decode cX1_against 8 = .ok (.iadd, 1) := by decide +kernel
theorem dX1_against_9 : decode cX1_against 9 = .ok (.goto 6, 3) := by decide +kernel
theorem dX1_against_12 : decode cX1_against 12 = .ok (.iload_n 0, 1) := by decide +kernel
theorem dX1_against_13 : decode cX1_against 13 = .ok (.iconst 1, 1) := by decide +kernel
theorem dX1_against_14 : decode cX1_against 14 = .ok (.isub, 1) := by decide +kernel
theorem dX1_against_15 : decode cX1_against 15 = .ok (.ireturn, 1) := by decide +kernel
set_option maxRecDepth 20000 in
theorem ggX1_invite_X1_fail : GoodIn wsX1_invite wsX1_fail := goodIn_r _ [7, 1, 8, 9, 10, 11, 12, 13, 14, 15, 16, 17] (by decide +kernel) (by decide +kernel)
set_option maxRecDepth 20000 in
theorem gX1_invite_X1_fail : GoodIn wsX1_invite (wsV RX1 43 RX1 yX1_fail wsX1_fail) := goodIn_app (goodIn_of _ (by decide +kernel)) ggX1_invite_X1_fail
theorem dX1_invite_0 : decode cX1_invite 0 = .ok (.aload_n 0, 1) := by decide +kernel
theorem dX1_invite_1 : decode cX1_invite 1 = .ok (.iconst 0, 1) := by decide +kernel
theorem dX1_invite_2 : decode cX1_invite 2 = .ok (.putfield 33, 3) := by decide +kernel
theorem dX1_invite_5 : decode cX1_invite 5 = .ok (.aload_n 0, 1) := by decide +kernel
theorem dX1_invite_6 : decode cX1_invite 6 = .ok (.getfield 36, 3) := by decide +kernel
theorem dX1_invite_9 : decode cX1_invite 9 = .ok (.bipush 10, 2) := by decide +kernel
theorem dX1_invite_11 : decode cX1_invite 11 = .ok (.if_icmp .ne 9, 3) := by decide +kernel
theorem dX1_invite_14 : decode cX1_invite 14 = .ok (.aload_n 0, 1) := by decide +kernel
theorem dX1_invite_15 : decode cX1_invite 15 = .ok (.iconst 1, 1) := by decide +kernel
theorem dX1_invite_16 : decode cX1_invite 16 = .ok (.invokevirtual 43, 3) := by decide +kernel
theorem dX1_invite_19 : decode cX1_invite 19 = .ok (.ireturn, 1) := by decide +kernel
theorem dX1_invite_20 : decode cX1_invite 20 = .ok (.aload_n 0, 1) := by decide +kernel
theorem dX1_invite_21 : decode cX1_invite 21 = .ok (.dup, 1) := by decide +kernel
theorem dX1_invite_22 : decode cX1_invite 22 = .ok (.getfield 36, 3) := by decide +kernel
theorem dX1_invite_25 : decode cX1_invite 25 = .ok (.iconst 1, 1) := by decide +kernel
theorem dX1_invite_26 : decode cX1_invite 26 = .ok (.iadd, 1) := by decide +kernel
theorem dX1_invite_27 : decode cX1_invite 27 = .ok (.putfield 36, 3) := by decide +kernel
theorem dX1_invite_30 : decode cX1_invite 30 = .ok (.aload_n 0, 1) := by decide +kernel
theorem dX1_invite_31 : decode cX1_invite 31 = .ok (.getfield 36, 3) := by decide +kernel
theorem dX1_invite_34 : decode cX1_invite 34 = .ok (.iconst 1, 1) := by decide +kernel
theorem dX1_invite_35 : decode cX1_invite 35 = .ok (.isub, 1) := by decide +kernel
theorem dX1_invite_36 : decode cX1_invite 36 = .ok (.ireturn, 1) := by decide +kernel
set_option maxRecDepth 20000 in
theorem ggX1_rule_X1_isWish : GoodIn wsX1_rule wsX1_isWish := goodIn_r _ [9, 10, 11, 12, 8, 13, 18, 19, 20, 21, 22, 23, 24, 25, 26, 27] (by decide +kernel) (by decide +kernel)
set_option maxRecDepth 20000 in
theorem gX1_rule_X1_isWish : GoodIn wsX1_rule (wsV RX1 47 RX1 yX1_isWish wsX1_isWish) := goodIn_app (goodIn_of _ (by decide +kernel)) ggX1_rule_X1_isWish
set_option maxRecDepth 20000 in
theorem ggX1_rule_X1_fail : GoodIn wsX1_rule wsX1_fail := goodIn_r _ [17, 1, 18, 19, 20, 21, 22, 23, 24, 25, 26, 27] (by decide +kernel) (by decide +kernel)
set_option maxRecDepth 20000 in
theorem gX1_rule_X1_fail : GoodIn wsX1_rule (wsV RX1 43 RX1 yX1_fail wsX1_fail) := goodIn_app (goodIn_of _ (by decide +kernel)) ggX1_rule_X1_fail
theorem dX1_rule_0 : decode cX1_rule 0 = .ok (.aload_n 0, 1) := by decide +kernel
theorem dX1_rule_1 : decode cX1_rule 1 = .ok (.iconst 0, 1) := by decide +kernel
theorem dX1_rule_2 : decode cX1_rule 2 = .ok (.putfield 33, 3) := by decide +kernel
theorem dX1_rule_5 : decode cX1_rule 5 = .ok (.aload_n 0, 1) := by decide +kernel
theorem dX1_rule_6 : decode cX1_rule 6 = .ok (.iload_n 1, 1) := by decide +kernel
theorem dX1_rule_7 : decode cX1_rule 7 = .ok (.invokevirtual 47, 3) := by decide +kernel
theorem dX1_rule_10 : decode cX1_rule 10 = .ok (.ifCond .eq 11, 3) := by decide +kernel
theorem dX1_rule_13 : decode cX1_rule 13 = .ok (.aload_n 0, 1) := by decide +kernel
theorem dX1_rule_14 : decode cX1_rule 14 = .ok (.iload_n 2, 1) := by decide +kernel
theorem dX1_rule_15 : decode cX1_rule 15 = .ok (.invokevirtual 47, 3) := by decide +kernel
theorem dX1_rule_18 : decode cX1_rule 18 = .ok (.ifCond .ne 9, 3) := by decide +kernel
theorem dX1_rule_21 : decode cX1_rule 21 = .ok (.aload_n 0, 1) := by decide +kernel
theorem dX1_rule_22 : decode cX1_rule 22 = .ok (.iconst 1, 1) := by decide +kernel
theorem dX1_rule_23 : decode cX1_rule 23 = .ok (.invokevirtual 43, 3) := by decide +kernel
theorem dX1_rule_26 : decode cX1_rule 26 = .ok (.ireturn, 1) := by decide +kernel
theorem dX1_rule_27 : decode cX1_rule 27 = .ok (.iload_n 1, 1) := by decide +kernel
theorem dX1_rule_28 : decode cX1_rule 28 = .ok (.iload_n 2, 1) := by decide +kernel
theorem dX1_rule_29 : decode cX1_rule 29 = .ok (.if_icmp .ne 9, 3) := by decide +kernel
theorem dX1_rule_32 : decode cX1_rule 32 = .ok (.aload_n 0, 1) := by decide +kernel
theorem dX1_rule_33 : decode cX1_rule 33 = .ok (.iconst 2, 1) := by decide +kernel
theorem dX1_rule_34 : decode cX1_rule 34 = .ok (.invokevirtual 43, 3) := by decide +kernel
theorem dX1_rule_37 : decode cX1_rule 37 = .ok (.ireturn, 1) := by decide +kernel
theorem dX1_rule_38 : decode cX1_rule 38 = .ok (.aload_n 0, 1) := by decide +kernel
theorem dX1_rule_39 : decode cX1_rule 39 = .ok (.getfield 51, 3) := by decide +kernel
theorem dX1_rule_42 : decode cX1_rule 42 = .ok (.bipush 30, 2) := by decide +kernel
theorem dX1_rule_44 : decode cX1_rule 44 = .ok (.if_icmp .ne 9, 3) := by decide +kernel
theorem dX1_rule_47 : decode cX1_rule 47 = .ok (.aload_n 0, 1) := by decide +kernel
theorem dX1_rule_48 : decode cX1_rule 48 = .ok (.iconst 3, 1) := by decide +kernel
theorem dX1_rule_49 : decode cX1_rule 49 = .ok (.invokevirtual 43, 3) := by decide +kernel
theorem dX1_rule_52 : decode cX1_rule 52 = .ok (.ireturn, 1) := by decide +kernel
theorem dX1_rule_53 : decode cX1_rule 53 = .ok (.aload_n 0, 1) := by decide +kernel
theorem dX1_rule_54 : decode cX1_rule 54 = .ok (.getfield 9, 3) := by decide +kernel
theorem dX1_rule_57 : decode cX1_rule 57 = .ok (.aload_n 0, 1) := by decide +kernel
theorem dX1_rule_58 : decode cX1_rule 58 = .ok (.getfield 51, 3) := by decide +kernel
theorem dX1_rule_61 : decode cX1_rule 61 = .ok (.iload_n 1, 1) := by decide +kernel
theorem dX1_rule_62 : decode cX1_rule 62 = .ok (.iastore, 1) := by decide +kernel
theorem dX1_rule_63 : decode cX1_rule 63 = .ok (.aload_n 0, 1) := by decide +kernel
theorem dX1_rule_64 : decode cX1_rule 64 = .ok (.getfield 13, 3) := by decide +kernel
theorem dX1_rule_67 : decode cX1_rule 67 = .ok (.aload_n 0, 1) := by decide +kernel
theorem dX1_rule_68 : decode cX1_rule 68 = .ok (.getfield 51, 3) := by decide +kernel
theorem dX1_rule_71 : decode cX1_rule 71 = .ok (.iload_n 2, 1) := by decide +kernel
theorem dX1_rule_72 : decode cX1_rule 72 = .ok (.iastore, 1) := by decide +kernel
theorem dX1_rule_73 : decode cX1_rule 73 = .ok (.aload_n 0, 1) := by decide +kernel
theorem dX1_rule_74 : decode cX1_rule 74 = .ok (.dup, 1) := by decide +kernel
theorem dX1_rule_75 : decode cX1_rule 75 = .ok (.getfield 51, 3) := by decide +kernel
theorem dX1_rule_78 : decode cX1_rule 78 = .ok (.iconst 1, 1) := by decide +kernel
theorem dX1_rule_79 : decode cX1_rule 79 = .ok (.iadd, 1) := by decide +kernel
theorem dX1_rule_80 : decode cX1_rule 80 = .ok (.putfield 51, 3) := by decide +kernel
theorem dX1_rule_83 : decode cX1_rule 83 = .ok (.aload_n 0, 1) := by decide +kernel
theorem dX1_rule_84 : decode cX1_rule 84 = .ok (.getfield 51, 3) := by decide +kernel
theorem dX1_rule_87 : decode cX1_rule 87 = .ok (.iconst 1, 1) := by decide +kernel
theorem dX1_rule_88 : decode cX1_rule 88 = .ok (.isub, 1) := by decide +kernel
theorem dX1_rule_89 : decode cX1_rule 89 = .ok (.ireturn, 1) := by decide +kernel
set_option maxRecDepth 20000 in
theorem ggX1_turn_X1_isIn : GoodIn wsX1_turn wsX1_isIn := goodIn_r _ [7] (by decide +kernel) (by decide +kernel)
set_option maxRecDepth 20000 in
theorem gX1_turn_X1_isIn : GoodIn wsX1_turn (va_wsS RX1 39 yX1_isIn wsX1_isIn) := goodIn_app (goodIn_of _ (by decide +kernel)) ggX1_turn_X1_isIn
theorem dX1_turn_0 : decode cX1_turn 0 = .ok (.aload_n 0, 1) := by decide +kernel
theorem dX1_turn_1 : decode cX1_turn 1 = .ok (.iload_n 1, 1) := by decide +kernel
theorem dX1_turn_2 : decode cX1_turn 2 = .ok (.iconst 0, 1) := by decide +kernel
theorem dX1_turn_3 : decode cX1_turn 3 = .ok (.aload_n 0, 1) := by decide +kernel
theorem dX1_turn_4 : decode cX1_turn 4 = .ok (.getfield 51, 3) := by decide +kernel
theorem dX1_turn_7 : decode cX1_turn 7 = .ok (.iconst 1, 1) := by decide +kernel
theorem dX1_turn_8 : decode cX1_turn 8 = .ok (.isub, 1) := by decide +kernel
theorem dX1_turn_9 : decode cX1_turn 9 = .ok (.invokestatic 39, 3) := by decide +kernel
theorem dX1_turn_12 : decode cX1_turn 12 = .ok (.ifCond .eq 7, 3) := by decide +kernel
theorem dX1_turn_15 : decode cX1_turn 15 = .ok (.iconst 0, 1) := by decide +kernel
theorem dX1_turn_16 : decode cX1_turn 16 = .ok (.goto 4, 3) := by decide +kernel
theorem dX1_turn_19 : decode cX1_turn 19 = .ok (.iconst 1, 1) := by decide +kernel
theorem dX1_turn_20 : decode cX1_turn 20 = .ok (.putfield 33, 3) := by decide +kernel
theorem dX1_turn_23 : decode cX1_turn 23 = .ok (.aload_n 0, 1) := by decide +kernel
theorem dX1_turn_24 : decode cX1_turn 24 = .ok (.getfield 33, 3) := by decide +kernel
theorem dX1_turn_27 : decode cX1_turn 27 = .ok (.ifCond .eq 5, 3) := by decide +kernel
theorem dX1_turn_30 : decode cX1_turn 30 = .ok (.iconst 0, 1) := by decide +kernel
theorem dX1_turn_31 : decode cX1_turn 31 = .ok (.ireturn, 1) := by decide +kernel
theorem dX1_turn_32 : decode cX1_turn 32 = .ok (.aload_n 0, 1) := by decide +kernel
theorem dX1_turn_33 : decode cX1_turn 33 = .ok (.getfield 16, 3) := by decide +kernel
theorem dX1_turn_36 : decode cX1_turn 36 = .ok (.iload_n 1, 1) := by decide +kernel
theorem dX1_turn_37 : decode cX1_turn 37 = .ok (.aload_n 0, 1) := by decide +kernel
theorem dX1_turn_38 : decode cX1_turn 38 = .ok (.getfield 16, 3) := by decide +kernel
theorem dX1_turn_41 : decode cX1_turn 41 = .ok (.iload_n 1, 1) := by decide +kernel
theorem dX1_turn_42 : decode cX1_turn 42 = .ok (.baload, 1) := by decide +kernel
theorem dX1_turn_43 : decode cX1_turn 43 = .ok (.ifCond .ne 7, 3) := by decide +kernel
theorem dX1_turn_46 : decode cX1_turn 46 = .ok (.iconst 1, 1) := by decide +kernel
theorem dX1_turn_47 : decode cX1_turn 47 = .ok (.goto 4, 3) := by decide +kernel
theorem dX1_turn_50 : decode cX1_turn 50 = .ok (.iconst 0, 1) := by decide +kernel
theorem dX1_turn_51 : decode cX1_turn 51 = .ok (.bastore, 1) := by decide +kernel
theorem dX1_turn_52 : decode cX1_turn 52 = .ok (.aload_n 0, 1) := by decide +kernel
theorem dX1_turn_53 : decode cX1_turn 53 = .ok (.getfield 16, 3) := by decide +kernel
theorem dX1_turn_56 : decode cX1_turn 56 = .ok (.iload_n 1, 1) := by decide +kernel
theorem dX1_turn_57 : decode cX1_turn 57 = .ok (.baload, 1) := by decide +kernel
theorem dX1_turn_58 : decode cX1_turn 58 = .ok (.ifCond .ne 7, 3) := by decide +kernel
theorem dX1_turn_61 : decode cX1_turn 61 = .ok (.iconst 1, 1) := by decide +kernel
theorem dX1_turn_62 : decode cX1_turn 62 = .ok (.goto 4, 3) := by decide +kernel
theorem dX1_turn_65 : decode cX1_turn 65 = .ok (.iconst 0, 1) := by decide +kernel
theorem dX1_turn_66 : decode cX1_turn 66 = .ok (.ireturn, 1) := by decide +kernel
theorem dX1_ruleTold_0 : decode cX1_ruleTold 0 = .ok (.iload_n 2, 1) := by decide +kernel
theorem dX1_ruleTold_1 : decode cX1_ruleTold 1 = .ok (.ifCond .ne 12, 3) := by decide +kernel
theorem dX1_ruleTold_4 : decode cX1_ruleTold 4 = .ok (.aload_n 0, 1) := by decide +kernel
theorem dX1_ruleTold_5 : decode cX1_ruleTold 5 = .ok (.getfield 9, 3) := by decide +kernel
theorem dX1_ruleTold_8 : decode cX1_ruleTold 8 = .ok (.iload_n 1, 1) := by decide +kernel
theorem dX1_ruleTold_9 : decode cX1_ruleTold 9 = .ok (.iaload, 1) := by decide +kernel
theorem dX1_ruleTold_10 : decode cX1_ruleTold 10 = .ok (.goto 31, 3) := by decide +kernel
theorem dX1_ruleTold_13 : decode cX1_ruleTold 13 = .ok (.iload_n 2, 1) := by decide +kernel
theorem dX1_ruleTold_14 : decode cX1_ruleTold 14 = .ok (.iconst 1, 1) := by decide +kernel
theorem dX1_ruleTold_15 : decode cX1_ruleTold 15 = .ok (.if_icmp .ne 12, 3) := by decide +kernel
theorem dX1_ruleTold_18 : decode cX1_ruleTold 18 = .ok (.aload_n 0, 1) := by decide +kernel
theorem dX1_ruleTold_19 : decode cX1_ruleTold 19 = .ok (.getfield 13, 3) := by decide +kernel
theorem dX1_ruleTold_22 : decode cX1_ruleTold 22 = .ok (.iload_n 1, 1) := by decide +kernel
theorem dX1_ruleTold_23 : decode cX1_ruleTold 23 = .ok (.iaload, 1) := by decide +kernel
theorem dX1_ruleTold_24 : decode cX1_ruleTold 24 = .ok (.goto 17, 3) := by decide +kernel
theorem dX1_ruleTold_27 : decode cX1_ruleTold 27 = .ok (.aload_n 0, 1) := by decide +kernel
theorem dX1_ruleTold_28 : decode cX1_ruleTold 28 = .ok (.getfield 16, 3) := by decide +kernel
theorem dX1_ruleTold_31 : decode cX1_ruleTold 31 = .ok (.iload_n 1, 1) := by decide +kernel
theorem dX1_ruleTold_32 : decode cX1_ruleTold 32 = .ok (.baload, 1) := by decide +kernel
theorem dX1_ruleTold_33 : decode cX1_ruleTold 33 = .ok (.ifCond .eq 7, 3) := by decide +kernel
theorem dX1_ruleTold_36 : decode cX1_ruleTold 36 = .ok (.iconst 0, 1) := by decide +kernel
theorem dX1_ruleTold_37 : decode cX1_ruleTold 37 = .ok (.goto 4, 3) := by decide +kernel
theorem dX1_ruleTold_40 : decode cX1_ruleTold 40 = .ok (.iconst 1, 1) := by decide +kernel
theorem dX1_ruleTold_41 : decode cX1_ruleTold 41 = .ok (.ireturn, 1) := by decide +kernel
set_option maxRecDepth 20000 in
theorem ggX1_told_X1_isIn : GoodIn wsX1_told wsX1_isIn := goodIn_r _ [6] (by decide +kernel) (by decide +kernel)
set_option maxRecDepth 20000 in
theorem gX1_told_X1_isIn : GoodIn wsX1_told (va_wsS RX1 39 yX1_isIn wsX1_isIn) := goodIn_app (goodIn_of _ (by decide +kernel)) ggX1_told_X1_isIn
set_option maxRecDepth 20000 in
theorem ggX1_told_X1_ruleTold : GoodIn wsX1_told wsX1_ruleTold := goodIn_r _ [10, 11, 12, 13, 18, 19, 20, 21, 22, 23, 24, 25, 26, 27] (by decide +kernel) (by decide +kernel)
set_option maxRecDepth 20000 in
theorem gX1_told_X1_ruleTold : GoodIn wsX1_told (wsV RX1 54 RX1 yX1_ruleTold wsX1_ruleTold) := goodIn_app (goodIn_of _ (by decide +kernel)) ggX1_told_X1_ruleTold
set_option maxRecDepth 20000 in
theorem ggX1_told_X1_fail : GoodIn wsX1_told wsX1_fail := goodIn_r _ [17, 1, 18, 19, 20, 21, 22, 23, 24, 25, 26, 27] (by decide +kernel) (by decide +kernel)
set_option maxRecDepth 20000 in
theorem gX1_told_X1_fail : GoodIn wsX1_told (wsV RX1 43 RX1 yX1_fail wsX1_fail) := goodIn_app (goodIn_of _ (by decide +kernel)) ggX1_told_X1_fail
theorem dX1_told_0 : decode cX1_told 0 = .ok (.aload_n 0, 1) := by decide +kernel
theorem dX1_told_1 : decode cX1_told 1 = .ok (.iconst 0, 1) := by decide +kernel
theorem dX1_told_2 : decode cX1_told 2 = .ok (.putfield 33, 3) := by decide +kernel
theorem dX1_told_5 : decode cX1_told 5 = .ok (.iload_n 1, 1) := by decide +kernel
theorem dX1_told_6 : decode cX1_told 6 = .ok (.iconst 0, 1) := by decide +kernel
theorem dX1_told_7 : decode cX1_told 7 = .ok (.aload_n 0, 1) := by decide +kernel
theorem dX1_told_8 : decode cX1_told 8 = .ok (.getfield 51, 3) := by decide +kernel
theorem dX1_told_11 : decode cX1_told 11 = .ok (.iconst 1, 1) := by decide +kernel
theorem dX1_told_12 : decode cX1_told 12 = .ok (.isub, 1) := by decide +kernel
theorem dX1_told_13 : decode cX1_told 13 = .ok (.invokestatic 39, 3) := by decide +kernel
theorem dX1_told_16 : decode cX1_told 16 = .ok (.ifCond .eq 21, 3) := by decide +kernel
theorem dX1_told_19 : decode cX1_told 19 = .ok (.iload_n 2, 1) := by decide +kernel
theorem dX1_told_20 : decode cX1_told 20 = .ok (.iconst 0, 1) := by decide +kernel
theorem dX1_told_21 : decode cX1_told 21 = .ok (.iconst 2, 1) := by decide +kernel
theorem dX1_told_22 : decode cX1_told 22 = .ok (.invokestatic 39, 3) := by decide +kernel
theorem dX1_told_25 : decode cX1_told 25 = .ok (.ifCond .eq 12, 3) := by decide +kernel
theorem dX1_told_28 : decode cX1_told 28 = .ok (.aload_n 0, 1) := by decide +kernel
theorem dX1_told_29 : decode cX1_told 29 = .ok (.iload_n 1, 1) := by decide +kernel
theorem dX1_told_30 : decode cX1_told 30 = .ok (.iload_n 2, 1) := by decide +kernel
theorem dX1_told_31 : decode cX1_told 31 = .ok (.invokevirtual 54, 3) := by decide +kernel
theorem dX1_told_34 : decode cX1_told 34 = .ok (.goto 8, 3) := by decide +kernel
theorem dX1_told_37 : decode cX1_told 37 = .ok (.aload_n 0, 1) := by decide +kernel
theorem dX1_told_38 : decode cX1_told 38 = .ok (.iconst 1, 1) := by decide +kernel
theorem dX1_told_39 : decode cX1_told 39 = .ok (.invokevirtual 43, 3) := by decide +kernel
theorem dX1_told_42 : decode cX1_told 42 = .ok (.ireturn, 1) := by decide +kernel
theorem dX1_put_0 : decode cX1_put 0 = .ok (.aload_n 0, 1) := by decide +kernel
theorem dX1_put_1 : decode cX1_put 1 = .ok (.getfield 30, 3) := by decide +kernel
theorem dX1_put_4 : decode cX1_put 4 = .ok (.iload_n 2, 1) := by decide +kernel
theorem dX1_put_5 : decode cX1_put 5 = .ok (.iaload, 1) := by decide +kernel
theorem dX1_put_6 : decode cX1_put 6 = .ok (.iconst (-1), 1) := by decide +kernel
theorem dX1_put_7 : decode cX1_put 7 = .ok (.if_icmp .eq 5, 3) := by decide +kernel
theorem dX1_put_10 : decode cX1_put 10 = .ok (.iload_n 1, 1) := by decide +kernel
theorem dX1_put_11 : decode cX1_put 11 = .ok (.ireturn, 1) := by decide +kernel
theorem dX1_put_12 : decode cX1_put 12 = .ok (.aload_n 0, 1) := by decide +kernel
theorem dX1_put_13 : decode cX1_put 13 = .ok (.getfield 30, 3) := by decide +kernel
theorem dX1_put_16 : decode cX1_put 16 = .ok (.iload_n 2, 1) := by decide +kernel
theorem dX1_put_17 : decode cX1_put 17 = .ok (.iload_n 3, 1) := by decide +kernel
theorem dX1_put_18 : decode cX1_put 18 = .ok (.iastore, 1) := by decide +kernel
theorem dX1_put_19 : decode cX1_put 19 = .ok (.aload_n 0, 1) := by decide +kernel
theorem dX1_put_20 : decode cX1_put 20 = .ok (.getfield 27, 3) := by decide +kernel
theorem dX1_put_23 : decode cX1_put 23 = .ok (.iload_n 1, 1) := by decide +kernel
theorem dX1_put_24 : decode cX1_put 24 = .ok (.iload_n 2, 1) := by decide +kernel
theorem dX1_put_25 : decode cX1_put 25 = .ok (.iastore, 1) := by decide +kernel
theorem dX1_put_26 : decode cX1_put 26 = .ok (.iload_n 1, 1) := by decide +kernel
theorem dX1_put_27 : decode cX1_put 27 = .ok (.iconst 1, 1) := by decide +kernel
theorem dX1_put_28 : decode cX1_put 28 = .ok (.iadd, 1) := by decide +kernel
theorem dX1_put_29 : decode cX1_put 29 = .ok (.ireturn, 1) := by decide +kernel
set_option maxRecDepth 20000 in
theorem ggX1_spread_X1_put : GoodIn wsX1_spread wsX1_put := goodIn_r _ [11, 1, 2, 15, 16, 17, 18, 19, 20, 21, 22, 23, 24] (by decide +kernel) (by decide +kernel)
set_option maxRecDepth 20000 in
theorem gX1_spread_X1_put : GoodIn wsX1_spread (wsV RX1 58 RX1 yX1_put wsX1_put) := goodIn_app (goodIn_of _ (by decide +kernel)) ggX1_spread_X1_put
set_option maxRecDepth 20000 in
theorem ggX1_spread_X1_against : GoodIn wsX1_spread wsX1_against := goodIn_r _ [14] (by decide +kernel) (by decide +kernel)
set_option maxRecDepth 20000 in
theorem gX1_spread_X1_against : GoodIn wsX1_spread (va_wsS RX1 62 yX1_against wsX1_against) := goodIn_app (goodIn_of _ (by decide +kernel)) ggX1_spread_X1_against
theorem dX1_spread_0 : decode cX1_spread 0 = .ok (.iconst 0, 1) := by decide +kernel
theorem dX1_spread_1 : decode cX1_spread 1 = .ok (.istore_n 2, 1) := by decide +kernel
theorem dX1_spread_2 : decode cX1_spread 2 = .ok (.iload_n 2, 1) := by decide +kernel
theorem dX1_spread_3 : decode cX1_spread 3 = .ok (.bipush 20, 2) := by decide +kernel
theorem dX1_spread_5 : decode cX1_spread 5 = .ok (.if_icmp .ge 16, 3) := by decide +kernel
theorem dX1_spread_8 : decode cX1_spread 8 = .ok (.aload_n 0, 1) := by decide +kernel
theorem dX1_spread_9 : decode cX1_spread 9 = .ok (.getfield 30, 3) := by decide +kernel
theorem dX1_spread_12 : decode cX1_spread 12 = .ok (.iload_n 2, 1) := by decide +kernel
theorem dX1_spread_13 : decode cX1_spread 13 = .ok (.iconst (-1), 1) := by decide +kernel
theorem dX1_spread_14 : decode cX1_spread 14 = .ok (.iastore, 1) := by decide +kernel
theorem dX1_spread_15 : decode cX1_spread 15 = .ok (.iinc 2 1, 3) := by decide +kernel
theorem dX1_spread_18 : decode cX1_spread 18 = .ok (.goto (-16), 3) := by decide +kernel
theorem dX1_spread_21 : decode cX1_spread 21 = .ok (.aload_n 0, 1) := by decide +kernel
theorem dX1_spread_22 : decode cX1_spread 22 = .ok (.iconst 0, 1) := by decide +kernel
theorem dX1_spread_23 : decode cX1_spread 23 = .ok (.iload_n 1, 1) := by decide +kernel
theorem dX1_spread_24 : decode cX1_spread 24 = .ok (.iconst 0, 1) := by decide +kernel
theorem dX1_spread_25 : decode cX1_spread 25 = .ok (.invokevirtual 58, 3) := by decide +kernel
theorem dX1_spread_28 : decode cX1_spread 28 = .ok (.istore_n 2, 1) := by decide +kernel
theorem dX1_spread_29 : decode cX1_spread 29 = .ok (.iconst 0, 1) := by decide +kernel
theorem dX1_spread_30 : decode cX1_spread 30 = .ok (.istore_n 3, 1) := by decide +kernel
theorem dX1_spread_31 : decode cX1_spread 31 = .ok (.iload_n 3, 1) := by decide +kernel
theorem dX1_spread_32 : decode cX1_spread 32 = .ok (.iload_n 2, 1) := by decide +kernel
theorem dX1_spread_33 : decode cX1_spread 33 = .ok (.if_icmp .ge 122, 3) := by decide +kernel
theorem dX1_spread_36 : decode cX1_spread 36 = .ok (.aload_n 0, 1) := by decide +kernel
theorem dX1_spread_37 : decode cX1_spread 37 = .ok (.getfield 27, 3) := by decide +kernel
theorem dX1_spread_40 : decode cX1_spread 40 = .ok (.iload_n 3, 1) := by decide +kernel
theorem dX1_spread_41 : decode cX1_spread 41 = .ok (.iaload, 1) := by decide +kernel
theorem dX1_spread_42 : decode cX1_spread 42 = .ok (.istore 4, 2) := by decide +kernel
theorem dX1_spread_44 : decode cX1_spread 44 = .ok (.iconst 0, 1) := by decide +kernel
theorem dX1_spread_45 : decode cX1_spread 45 = .ok (.istore 5, 2) := by decide +kernel
theorem dX1_spread_47 : decode cX1_spread 47 = .ok (.iload 5, 2) := by decide +kernel
theorem dX1_spread_49 : decode cX1_spread 49 = .ok (.aload_n 0, 1) := by decide +kernel
theorem dX1_spread_50 : decode cX1_spread 50 = .ok (.getfield 51, 3) := by decide +kernel
theorem dX1_spread_53 : decode cX1_spread 53 = .ok (.if_icmp .ge 96, 3) := by decide +kernel
theorem dX1_spread_56 : decode cX1_spread 56 = .ok (.aload_n 0, 1) := by decide +kernel
theorem dX1_spread_57 : decode cX1_spread 57 = .ok (.getfield 16, 3) := by decide +kernel
theorem dX1_spread_60 : decode cX1_spread 60 = .ok (.iload 5, 2) := by decide +kernel
theorem dX1_spread_62 : decode cX1_spread 62 = .ok (.baload, 1) := by decide +kernel
theorem dX1_spread_63 : decode cX1_spread 63 = .ok (.ifCond .eq 6, 3) := by decide +kernel
theorem dX1_spread_66 : decode cX1_spread 66 = .ok (.goto 77, 3) := by decide +kernel
theorem dX1_spread_69 : decode cX1_spread 69 = .ok (.aload_n 0, 1) := by decide +kernel
theorem dX1_spread_70 : decode cX1_spread 70 = .ok (.getfield 9, 3) := by decide +kernel
theorem dX1_spread_73 : decode cX1_spread 73 = .ok (.iload 5, 2) := by decide +kernel
theorem dX1_spread_75 : decode cX1_spread 75 = .ok (.iaload, 1) := by decide +kernel
theorem dX1_spread_76 : decode cX1_spread 76 = .ok (.iload 4, 2) := by decide +kernel
theorem dX1_spread_78 : decode cX1_spread 78 = .ok (.if_icmp .ne 25, 3) := by decide +kernel
theorem dX1_spread_81 : decode cX1_spread 81 = .ok (.aload_n 0, 1) := by decide +kernel
theorem dX1_spread_82 : decode cX1_spread 82 = .ok (.iload_n 2, 1) := by decide +kernel
theorem dX1_spread_83 : decode cX1_spread 83 = .ok (.aload_n 0, 1) := by decide +kernel
theorem dX1_spread_84 : decode cX1_spread 84 = .ok (.getfield 13, 3) := by decide +kernel
theorem dX1_spread_87 : decode cX1_spread 87 = .ok (.iload 5, 2) := by decide +kernel
theorem dX1_spread_89 : decode cX1_spread 89 = .ok (.iaload, 1) := by decide +kernel
theorem dX1_spread_90 : decode cX1_spread 90 = .ok (.aload_n 0, 1) := by decide +kernel
theorem dX1_spread_91 : decode cX1_spread 91 = .ok (.getfield 30, 3) := by decide +kernel
theorem dX1_spread_94 : decode cX1_spread 94 = .ok (.iload 4, 2) := by decide +kernel
theorem dX1_spread_96 : decode cX1_spread 96 = .ok (.iaload, 1) := by decide +kernel
theorem dX1_spread_97 : decode cX1_spread 97 = .ok (.iconst 1, 1) := by decide +kernel
theorem dX1_spread_98 : decode cX1_spread 98 = .ok (.iadd, 1) := by decide +kernel
theorem dX1_spread_99 : decode cX1_spread 99 = .ok (.invokevirtual 58, 3) := by decide +kernel
theorem dX1_spread_102 : decode cX1_spread 102 = .ok (.istore_n 2, 1) := by decide +kernel
theorem dX1_spread_103 : decode cX1_spread 103 = .ok (.aload_n 0, 1) := by decide +kernel
theorem dX1_spread_104 : decode cX1_spread 104 = .ok (.getfield 13, 3) := by decide +kernel
theorem dX1_spread_107 : decode cX1_spread 107 = .ok (.iload 5, 2) := by decide +kernel
theorem dX1_spread_109 : decode cX1_spread 109 = .ok (.iaload, 1) := by decide +kernel
theorem dX1_spread_110 : decode cX1_spread 110 = .ok (.invokestatic 62, 3) := by decide +kernel
theorem dX1_spread_113 : decode cX1_spread 113 = .ok (.iload 4, 2) := by decide +kernel
theorem dX1_spread_115 : decode cX1_spread 115 = .ok (.if_icmp .ne 28, 3) := by decide +kernel
theorem dX1_spread_118 : decode cX1_spread 118 = .ok (.aload_n 0, 1) := by decide +kernel
theorem dX1_spread_119 : decode cX1_spread 119 = .ok (.iload_n 2, 1) := by decide +kernel
theorem dX1_spread_120 : decode cX1_spread 120 = .ok (.aload_n 0, 1) := by decide +kernel
theorem dX1_spread_121 : decode cX1_spread 121 = .ok (.getfield 9, 3) := by decide +kernel
theorem dX1_spread_124 : decode cX1_spread 124 = .ok (.iload 5, 2) := by decide +kernel
theorem dX1_spread_126 : decode cX1_spread 126 = .ok (.iaload, 1) := by decide +kernel
theorem dX1_spread_127 : decode cX1_spread 127 = .ok (.invokestatic 62, 3) := by decide +kernel
theorem dX1_spread_130 : decode cX1_spread 130 = .ok (.aload_n 0, 1) := by decide +kernel
theorem dX1_spread_131 : decode cX1_spread 131 = .ok (.getfield 30, 3) := by decide +kernel
theorem dX1_spread_134 : decode cX1_spread 134 = .ok (.iload 4, 2) := by decide +kernel
theorem dX1_spread_136 : decode cX1_spread 136 = .ok (.iaload, 1) := by decide +kernel
theorem dX1_spread_137 : decode cX1_spread 137 = .ok (.iconst 1, 1) := by decide +kernel
theorem dX1_spread_138 : decode cX1_spread 138 = .ok (.iadd, 1) := by decide +kernel
theorem dX1_spread_139 : decode cX1_spread 139 = .ok (.invokevirtual 58, 3) := by decide +kernel
theorem dX1_spread_142 : decode cX1_spread 142 = .ok (.istore_n 2, 1) := by decide +kernel
theorem dX1_spread_143 : decode cX1_spread 143 = .ok (.iinc 5 1, 3) := by decide +kernel
theorem dX1_spread_146 : decode cX1_spread 146 = .ok (.goto (-99), 3) := by decide +kernel
theorem dX1_spread_149 : decode cX1_spread 149 = .ok (.iinc 3 1, 3) := by decide +kernel
theorem dX1_spread_152 : decode cX1_spread 152 = .ok (.goto (-121), 3) := by decide +kernel
theorem dX1_spread_155 : decode cX1_spread 155 = .ok (.iload_n 2, 1) := by decide +kernel
theorem dX1_spread_156 : decode cX1_spread 156 = .ok (.ireturn, 1) := by decide +kernel
set_option maxRecDepth 20000 in
theorem ggX1_leads_X1_spread : GoodIn wsX1_leads wsX1_spread := goodIn_r _ [6, 1, 7, 8, 9, 10, 11, 12, 13, 14, 5, 15, 16, 17, 18, 19, 20, 21, 22, 23, 24, 25, 26, 27, 28] (by decide +kernel) (by decide +kernel)
set_option maxRecDepth 20000 in
theorem gX1_leads_X1_spread : GoodIn wsX1_leads (wsV RX1 65 RX1 yX1_spread wsX1_spread) := goodIn_app (goodIn_of _ (by decide +kernel)) ggX1_leads_X1_spread
theorem dX1_leads_0 : decode cX1_leads 0 = .ok (.aload_n 0, 1) := by decide +kernel
theorem dX1_leads_1 : decode cX1_leads 1 = .ok (.iload_n 1, 1) := by decide +kernel
theorem dX1_leads_2 : decode cX1_leads 2 = .ok (.invokevirtual 65, 3) := by decide +kernel
theorem dX1_leads_5 : decode cX1_leads 5 = .ok (.pop, 1) := by decide +kernel
theorem dX1_leads_6 : decode cX1_leads 6 = .ok (.aload_n 0, 1) := by decide +kernel
theorem dX1_leads_7 : decode cX1_leads 7 = .ok (.getfield 30, 3) := by decide +kernel
theorem dX1_leads_10 : decode cX1_leads 10 = .ok (.iload_n 2, 1) := by decide +kernel
theorem dX1_leads_11 : decode cX1_leads 11 = .ok (.iaload, 1) := by decide +kernel
theorem dX1_leads_12 : decode cX1_leads 12 = .ok (.iconst (-1), 1) := by decide +kernel
theorem dX1_leads_13 : decode cX1_leads 13 = .ok (.if_icmp .eq 7, 3) := by decide +kernel
theorem dX1_leads_16 : decode cX1_leads 16 = .ok (.iconst 1, 1) := by decide +kernel
theorem dX1_leads_17 : decode cX1_leads 17 = .ok (.goto 4, 3) := by decide +kernel
theorem dX1_leads_20 : decode cX1_leads 20 = .ok (.iconst 0, 1) := by decide +kernel
theorem dX1_leads_21 : decode cX1_leads 21 = .ok (.ireturn, 1) := by decide +kernel
set_option maxRecDepth 20000 in
theorem ggX1_follows_X1_isWish : GoodIn wsX1_follows wsX1_isWish := goodIn_r _ [6, 7, 8, 9, 5, 10, 32, 33, 34, 35, 36, 37, 38, 39, 40, 41] (by decide +kernel) (by decide +kernel)
set_option maxRecDepth 20000 in
theorem gX1_follows_X1_isWish : GoodIn wsX1_follows (wsV RX1 47 RX1 yX1_isWish wsX1_isWish) := goodIn_app (goodIn_of _ (by decide +kernel)) ggX1_follows_X1_isWish
set_option maxRecDepth 20000 in
theorem ggX1_follows_X1_leads : GoodIn wsX1_follows wsX1_leads := goodIn_r _ [14, 15, 16, 17, 18, 5, 19, 20, 21, 22, 23, 24, 25, 26, 27, 28, 29, 30, 31, 32, 33, 34, 35, 36, 37, 38, 39, 40, 41] (by decide +kernel) (by decide +kernel)
set_option maxRecDepth 20000 in
theorem gX1_follows_X1_leads : GoodIn wsX1_follows (wsV RX1 68 RX1 yX1_leads wsX1_leads) := goodIn_app (goodIn_of _ (by decide +kernel)) ggX1_follows_X1_leads
theorem dX1_follows_0 : decode cX1_follows 0 = .ok (.aload_n 0, 1) := by decide +kernel
theorem dX1_follows_1 : decode cX1_follows 1 = .ok (.aload_n 0, 1) := by decide +kernel
theorem dX1_follows_2 : decode cX1_follows 2 = .ok (.iload_n 1, 1) := by decide +kernel
theorem dX1_follows_3 : decode cX1_follows 3 = .ok (.invokevirtual 47, 3) := by decide +kernel
theorem dX1_follows_6 : decode cX1_follows 6 = .ok (.ifCond .eq 15, 3) := by decide +kernel
theorem dX1_follows_9 : decode cX1_follows 9 = .ok (.aload_n 0, 1) := by decide +kernel
theorem dX1_follows_10 : decode cX1_follows 10 = .ok (.iload_n 2, 1) := by decide +kernel
theorem dX1_follows_11 : decode cX1_follows 11 = .ok (.invokevirtual 47, 3) := by decide +kernel
theorem dX1_follows_14 : decode cX1_follows 14 = .ok (.ifCond .eq 7, 3) := by decide +kernel
theorem dX1_follows_17 : decode cX1_follows 17 = .ok (.iconst 0, 1) := by decide +kernel
theorem dX1_follows_18 : decode cX1_follows 18 = .ok (.goto 4, 3) := by decide +kernel
theorem dX1_follows_21 : decode cX1_follows 21 = .ok (.iconst 1, 1) := by decide +kernel
theorem dX1_follows_22 : decode cX1_follows 22 = .ok (.putfield 33, 3) := by decide +kernel
theorem dX1_follows_25 : decode cX1_follows 25 = .ok (.aload_n 0, 1) := by decide +kernel
theorem dX1_follows_26 : decode cX1_follows 26 = .ok (.getfield 33, 3) := by decide +kernel
theorem dX1_follows_29 : decode cX1_follows 29 = .ok (.ifCond .ne 16, 3) := by decide +kernel
theorem dX1_follows_32 : decode cX1_follows 32 = .ok (.aload_n 0, 1) := by decide +kernel
theorem dX1_follows_33 : decode cX1_follows 33 = .ok (.iload_n 1, 1) := by decide +kernel
theorem dX1_follows_34 : decode cX1_follows 34 = .ok (.iload_n 2, 1) := by decide +kernel
theorem dX1_follows_35 : decode cX1_follows 35 = .ok (.invokevirtual 68, 3) := by decide +kernel
theorem dX1_follows_38 : decode cX1_follows 38 = .ok (.ifCond .eq 7, 3) := by decide +kernel
theorem dX1_follows_41 : decode cX1_follows 41 = .ok (.iconst 1, 1) := by decide +kernel
theorem dX1_follows_42 : decode cX1_follows 42 = .ok (.goto 4, 3) := by decide +kernel
theorem dX1_follows_45 : decode cX1_follows 45 = .ok (.iconst 0, 1) := by decide +kernel
theorem dX1_follows_46 : decode cX1_follows 46 = .ok (.ireturn, 1) := by decide +kernel
set_option maxRecDepth 20000 in
theorem ggX1_reachOf_X1_spread : GoodIn wsX1_reachOf wsX1_spread := goodIn_r _ [7, 2, 8, 9, 10, 11, 12, 13, 14, 15, 6, 16, 17, 18, 19, 20, 21, 22, 23, 24, 25, 26, 27, 28, 29] (by decide +kernel) (by decide +kernel)
set_option maxRecDepth 20000 in
theorem gX1_reachOf_X1_spread : GoodIn wsX1_reachOf (wsV RX1 65 RX1 yX1_spread wsX1_spread) := goodIn_app (goodIn_of _ (by decide +kernel)) ggX1_reachOf_X1_spread
theorem dX1_reachOf_0 : decode cX1_reachOf 0 = .ok (.aload_n 0, 1) := by decide +kernel
theorem dX1_reachOf_1 : decode cX1_reachOf 1 = .ok (.iload_n 1, 1) := by decide +kernel
theorem dX1_reachOf_2 : decode cX1_reachOf 2 = .ok (.invokevirtual 65, 3) := by decide +kernel
theorem dX1_reachOf_5 : decode cX1_reachOf 5 = .ok (.pop, 1) := by decide +kernel
theorem dX1_reachOf_6 : decode cX1_reachOf 6 = .ok (.iconst 0, 1) := by decide +kernel
theorem dX1_reachOf_7 : decode cX1_reachOf 7 = .ok (.istore_n 2, 1) := by decide +kernel
theorem dX1_reachOf_8 : decode cX1_reachOf 8 = .ok (.iconst 0, 1) := by decide +kernel
theorem dX1_reachOf_9 : decode cX1_reachOf 9 = .ok (.istore_n 3, 1) := by decide +kernel
theorem dX1_reachOf_10 : decode cX1_reachOf 10 = .ok (.iload_n 3, 1) := by decide +kernel
theorem dX1_reachOf_11 : decode cX1_reachOf 11 = .ok (.iconst 2, 1) := by decide +kernel
theorem dX1_reachOf_12 : decode cX1_reachOf 12 = .ok (.aload_n 0, 1) := by decide +kernel
theorem dX1_reachOf_13 : decode cX1_reachOf 13 = .ok (.getfield 36, 3) := by decide +kernel
theorem dX1_reachOf_16 : decode cX1_reachOf 16 = .ok (.imul, 1) := by decide +kernel
theorem dX1_reachOf_17 : decode cX1_reachOf 17 = .ok (.if_icmp .ge 29, 3) := by decide +kernel
theorem dX1_reachOf_20 : decode cX1_reachOf 20 = .ok (.iload_n 2, 1) := by decide +kernel
theorem dX1_reachOf_21 : decode cX1_reachOf 21 = .ok (.aload_n 0, 1) := by decide +kernel
theorem dX1_reachOf_22 : decode cX1_reachOf 22 = .ok (.getfield 30, 3) := by decide +kernel
theorem dX1_reachOf_25 : decode cX1_reachOf 25 = .ok (.iload_n 3, 1) := by decide +kernel
theorem dX1_reachOf_26 : decode cX1_reachOf 26 = .ok (.iaload, 1) := by decide +kernel
theorem dX1_reachOf_27 : decode cX1_reachOf 27 = .ok (.iconst (-1), 1) := by decide +kernel
theorem dX1_reachOf_28 : decode cX1_reachOf 28 = .ok (.if_icmp .ne 7, 3) := by decide +kernel
theorem dX1_reachOf_31 : decode cX1_reachOf 31 = .ok (.iconst 0, 1) := by decide +kernel
theorem dX1_reachOf_32 : decode cX1_reachOf 32 = .ok (.goto 6, 3) := by decide +kernel
theorem dX1_reachOf_35 : decode cX1_reachOf 35 = .ok (.iconst 1, 1) := by decide +kernel
theorem dX1_reachOf_36 : decode cX1_reachOf 36 = .ok (.iload_n 3, 1) := by decide +kernel
theorem dX1_reachOf_37 : decode cX1_reachOf 37 = .ok (.ishl, 1) := by decide +kernel
theorem dX1_reachOf_38 : decode cX1_reachOf 38 = .ok (.ior, 1) := by decide +kernel
theorem dX1_reachOf_39 : decode cX1_reachOf 39 = .ok (.istore_n 2, 1) := by decide +kernel
theorem dX1_reachOf_40 : decode cX1_reachOf 40 = .ok (.iinc 3 1, 3) := by decide +kernel
theorem dX1_reachOf_43 : decode cX1_reachOf 43 = .ok (.goto (-33), 3) := by decide +kernel
theorem dX1_reachOf_46 : decode cX1_reachOf 46 = .ok (.iload_n 2, 1) := by decide +kernel
theorem dX1_reachOf_47 : decode cX1_reachOf 47 = .ok (.ireturn, 1) := by decide +kernel
set_option maxRecDepth 20000 in
theorem ggX1_reach_X1_isWish : GoodIn wsX1_reach wsX1_isWish := goodIn_r _ [6, 7, 8, 9, 5, 10, 36, 37, 38, 39, 40, 41, 42, 43, 44, 45] (by decide +kernel) (by decide +kernel)
set_option maxRecDepth 20000 in
theorem gX1_reach_X1_isWish : GoodIn wsX1_reach (wsV RX1 47 RX1 yX1_isWish wsX1_isWish) := goodIn_app (goodIn_of _ (by decide +kernel)) ggX1_reach_X1_isWish
set_option maxRecDepth 20000 in
theorem ggX1_reach_X1_reachOf : GoodIn wsX1_reach wsX1_reachOf := goodIn_r _ [14, 7, 15, 16, 17, 18, 5, 19, 20, 21, 22, 23, 24, 25, 26, 27, 28, 29, 30, 31, 36, 37, 38, 39, 40, 41, 42, 43, 44, 45] (by decide +kernel) (by decide +kernel)
set_option maxRecDepth 20000 in
theorem gX1_reach_X1_reachOf : GoodIn wsX1_reach (wsV RX1 72 RX1 yX1_reachOf wsX1_reachOf) := goodIn_app (goodIn_of _ (by decide +kernel)) ggX1_reach_X1_reachOf
set_option maxRecDepth 20000 in
theorem ggX1_reach_X1_fail : GoodIn wsX1_reach wsX1_fail := goodIn_r _ [35, 1, 36, 37, 38, 39, 40, 41, 42, 43, 44, 45] (by decide +kernel) (by decide +kernel)
set_option maxRecDepth 20000 in
theorem gX1_reach_X1_fail : GoodIn wsX1_reach (wsV RX1 43 RX1 yX1_fail wsX1_fail) := goodIn_app (goodIn_of _ (by decide +kernel)) ggX1_reach_X1_fail
theorem dX1_reach_0 : decode cX1_reach 0 = .ok (.aload_n 0, 1) := by decide +kernel
theorem dX1_reach_1 : decode cX1_reach 1 = .ok (.iconst 0, 1) := by decide +kernel
theorem dX1_reach_2 : decode cX1_reach 2 = .ok (.putfield 33, 3) := by decide +kernel
theorem dX1_reach_5 : decode cX1_reach 5 = .ok (.aload_n 0, 1) := by decide +kernel
theorem dX1_reach_6 : decode cX1_reach 6 = .ok (.iload_n 1, 1) := by decide +kernel
theorem dX1_reach_7 : decode cX1_reach 7 = .ok (.invokevirtual 47, 3) := by decide +kernel
theorem dX1_reach_10 : decode cX1_reach 10 = .ok (.ifCond .eq 11, 3) := by decide +kernel
theorem dX1_reach_13 : decode cX1_reach 13 = .ok (.aload_n 0, 1) := by decide +kernel
theorem dX1_reach_14 : decode cX1_reach 14 = .ok (.iload_n 1, 1) := by decide +kernel
theorem dX1_reach_15 : decode cX1_reach 15 = .ok (.invokevirtual 72, 3) := by decide +kernel
theorem dX1_reach_18 : decode cX1_reach 18 = .ok (.goto 8, 3) := by decide +kernel
theorem dX1_reach_21 : decode cX1_reach 21 = .ok (.aload_n 0, 1) := by decide +kernel
theorem dX1_reach_22 : decode cX1_reach 22 = .ok (.iconst 1, 1) := by decide +kernel
theorem dX1_reach_23 : decode cX1_reach 23 = .ok (.invokevirtual 43, 3) := by decide +kernel
theorem dX1_reach_26 : decode cX1_reach 26 = .ok (.ireturn, 1) := by decide +kernel
set_option maxRecDepth 20000 in
theorem ggX1_steps_X1_isWish : GoodIn wsX1_steps wsX1_isWish := goodIn_r _ [7, 8, 9, 10, 6, 11, 32, 33, 34, 35, 36, 37, 38, 39, 40, 41] (by decide +kernel) (by decide +kernel)
set_option maxRecDepth 20000 in
theorem gX1_steps_X1_isWish : GoodIn wsX1_steps (wsV RX1 47 RX1 yX1_isWish wsX1_isWish) := goodIn_app (goodIn_of _ (by decide +kernel)) ggX1_steps_X1_isWish
set_option maxRecDepth 20000 in
theorem ggX1_steps_X1_fail : GoodIn wsX1_steps wsX1_fail := goodIn_r _ [15, 1, 32, 33, 34, 35, 36, 37, 38, 39, 40, 41] (by decide +kernel) (by decide +kernel)
set_option maxRecDepth 20000 in
theorem gX1_steps_X1_fail : GoodIn wsX1_steps (wsV RX1 43 RX1 yX1_fail wsX1_fail) := goodIn_app (goodIn_of _ (by decide +kernel)) ggX1_steps_X1_fail
set_option maxRecDepth 20000 in
theorem ggX1_steps_X1_spread : GoodIn wsX1_steps wsX1_spread := goodIn_r _ [19, 2, 20, 21, 22, 23, 24, 25, 26, 27, 6, 28, 29, 30, 31, 32, 33, 34, 35, 36, 37, 38, 39, 40, 41] (by decide +kernel) (by decide +kernel)
set_option maxRecDepth 20000 in
theorem gX1_steps_X1_spread : GoodIn wsX1_steps (wsV RX1 65 RX1 yX1_spread wsX1_spread) := goodIn_app (goodIn_of _ (by decide +kernel)) ggX1_steps_X1_spread
theorem dX1_steps_0 : decode cX1_steps 0 = .ok (.aload_n 0, 1) := by decide +kernel
theorem dX1_steps_1 : decode cX1_steps 1 = .ok (.iconst 0, 1) := by decide +kernel
theorem dX1_steps_2 : decode cX1_steps 2 = .ok (.putfield 33, 3) := by decide +kernel
theorem dX1_steps_5 : decode cX1_steps 5 = .ok (.aload_n 0, 1) := by decide +kernel
theorem dX1_steps_6 : decode cX1_steps 6 = .ok (.iload_n 1, 1) := by decide +kernel
theorem dX1_steps_7 : decode cX1_steps 7 = .ok (.invokevirtual 47, 3) := by decide +kernel
theorem dX1_steps_10 : decode cX1_steps 10 = .ok (.ifCond .eq 11, 3) := by decide +kernel
theorem dX1_steps_13 : decode cX1_steps 13 = .ok (.aload_n 0, 1) := by decide +kernel
theorem dX1_steps_14 : decode cX1_steps 14 = .ok (.iload_n 2, 1) := by decide +kernel
theorem dX1_steps_15 : decode cX1_steps 15 = .ok (.invokevirtual 47, 3) := by decide +kernel
theorem dX1_steps_18 : decode cX1_steps 18 = .ok (.ifCond .ne 9, 3) := by decide +kernel
theorem dX1_steps_21 : decode cX1_steps 21 = .ok (.aload_n 0, 1) := by decide +kernel
theorem dX1_steps_22 : decode cX1_steps 22 = .ok (.iconst 1, 1) := by decide +kernel
theorem dX1_steps_23 : decode cX1_steps 23 = .ok (.invokevirtual 43, 3) := by decide +kernel
theorem dX1_steps_26 : decode cX1_steps 26 = .ok (.ireturn, 1) := by decide +kernel
theorem dX1_steps_27 : decode cX1_steps 27 = .ok (.aload_n 0, 1) := by decide +kernel
theorem dX1_steps_28 : decode cX1_steps 28 = .ok (.iload_n 1, 1) := by decide +kernel
theorem dX1_steps_29 : decode cX1_steps 29 = .ok (.invokevirtual 65, 3) := by decide +kernel
theorem dX1_steps_32 : decode cX1_steps 32 = .ok (.pop, 1) := by decide +kernel
theorem dX1_steps_33 : decode cX1_steps 33 = .ok (.aload_n 0, 1) := by decide +kernel
theorem dX1_steps_34 : decode cX1_steps 34 = .ok (.getfield 30, 3) := by decide +kernel
theorem dX1_steps_37 : decode cX1_steps 37 = .ok (.iload_n 2, 1) := by decide +kernel
theorem dX1_steps_38 : decode cX1_steps 38 = .ok (.iaload, 1) := by decide +kernel
theorem dX1_steps_39 : decode cX1_steps 39 = .ok (.ireturn, 1) := by decide +kernel
set_option maxRecDepth 20000 in
theorem ggX1_isVain_X1_against : GoodIn wsX1_isVain wsX1_against := goodIn_r _ [4] (by decide +kernel) (by decide +kernel)
set_option maxRecDepth 20000 in
theorem gX1_isVain_X1_against : GoodIn wsX1_isVain (va_wsS RX1 62 yX1_against wsX1_against) := goodIn_app (goodIn_of _ (by decide +kernel)) ggX1_isVain_X1_against
set_option maxRecDepth 20000 in
theorem ggX1_isVain_X1_leads : GoodIn wsX1_isVain wsX1_leads := goodIn_r _ [8, 9, 10, 11, 12, 3, 13, 14, 15, 16, 17, 18, 19, 20, 21, 22, 1, 2, 4, 23, 24, 25, 26, 27, 28, 29, 30, 31, 32] (by decide +kernel) (by decide +kernel)
set_option maxRecDepth 20000 in
theorem gX1_isVain_X1_leads : GoodIn wsX1_isVain (wsV RX1 68 RX1 yX1_leads wsX1_leads) := goodIn_app (goodIn_of _ (by decide +kernel)) ggX1_isVain_X1_leads
theorem dX1_isVain_0 : decode cX1_isVain 0 = .ok (.aload_n 0, 1) := by decide +kernel
theorem dX1_isVain_1 : decode cX1_isVain 1 = .ok (.iload_n 1, 1) := by decide +kernel
theorem dX1_isVain_2 : decode cX1_isVain 2 = .ok (.iload_n 1, 1) := by decide +kernel
theorem dX1_isVain_3 : decode cX1_isVain 3 = .ok (.invokestatic 62, 3) := by decide +kernel
theorem dX1_isVain_6 : decode cX1_isVain 6 = .ok (.invokevirtual 68, 3) := by decide +kernel
theorem dX1_isVain_9 : decode cX1_isVain 9 = .ok (.ireturn, 1) := by decide +kernel
set_option maxRecDepth 20000 in
theorem ggX1_isTorn_X1_isVain : GoodIn wsX1_isTorn wsX1_isVain := goodIn_r _ [5, 6, 7, 4, 8, 9, 10, 11, 12, 13, 14, 15, 16, 17, 18, 19, 20, 21, 22, 23, 24, 25, 26, 27, 28, 29, 30, 31, 32, 33, 34, 35, 36] (by decide +kernel) (by decide +kernel)
set_option maxRecDepth 20000 in
theorem gX1_isTorn_X1_isVain : GoodIn wsX1_isTorn (wsV RX1 75 RX1 yX1_isVain wsX1_isVain) := goodIn_app (goodIn_of _ (by decide +kernel)) ggX1_isTorn_X1_isVain
theorem dX1_isTorn_0 : decode cX1_isTorn 0 = .ok (.aload_n 0, 1) := by decide +kernel
theorem dX1_isTorn_1 : decode cX1_isTorn 1 = .ok (.iconst 2, 1) := by decide +kernel
theorem dX1_isTorn_2 : decode cX1_isTorn 2 = .ok (.iload_n 1, 1) := by decide +kernel
theorem dX1_isTorn_3 : decode cX1_isTorn 3 = .ok (.imul, 1) := by decide +kernel
theorem dX1_isTorn_4 : decode cX1_isTorn 4 = .ok (.invokevirtual 75, 3) := by decide +kernel
theorem dX1_isTorn_7 : decode cX1_isTorn 7 = .ok (.ifCond .eq 19, 3) := by decide +kernel
theorem dX1_isTorn_10 : decode cX1_isTorn 10 = .ok (.aload_n 0, 1) := by decide +kernel
theorem dX1_isTorn_11 : decode cX1_isTorn 11 = .ok (.iconst 2, 1) := by decide +kernel
theorem dX1_isTorn_12 : decode cX1_isTorn 12 = .ok (.iload_n 1, 1) := by decide +kernel
theorem dX1_isTorn_13 : decode cX1_isTorn 13 = .ok (.imul, 1) := by decide +kernel
theorem dX1_isTorn_14 : decode cX1_isTorn 14 = .ok (.iconst 1, 1) := by decide +kernel
theorem dX1_isTorn_15 : decode cX1_isTorn 15 = .ok (.iadd, 1) := by decide +kernel
theorem dX1_isTorn_16 : decode cX1_isTorn 16 = .ok (.invokevirtual 75, 3) := by decide +kernel
theorem dX1_isTorn_19 : decode cX1_isTorn 19 = .ok (.ifCond .eq 7, 3) := by decide +kernel
theorem dX1_isTorn_22 : decode cX1_isTorn 22 = .ok (.iconst 1, 1) := by decide +kernel
theorem dX1_isTorn_23 : decode cX1_isTorn 23 = .ok (.goto 4, 3) := by decide +kernel
theorem dX1_isTorn_26 : decode cX1_isTorn 26 = .ok (.iconst 0, 1) := by decide +kernel
theorem dX1_isTorn_27 : decode cX1_isTorn 27 = .ok (.ireturn, 1) := by decide +kernel
theorem dX1_holds_0 : decode cX1_holds 0 = .ok (.iload_n 1, 1) := by decide +kernel
theorem dX1_holds_1 : decode cX1_holds 1 = .ok (.iload_n 0, 1) := by decide +kernel
theorem dX1_holds_2 : decode cX1_holds 2 = .ok (.iconst 2, 1) := by decide +kernel
theorem dX1_holds_3 : decode cX1_holds 3 = .ok (.idiv, 1) := by decide +kernel
theorem dX1_holds_4 : decode cX1_holds 4 = .ok (.ishr, 1) := by decide +kernel
theorem dX1_holds_5 : decode cX1_holds 5 = .ok (.iconst 1, 1) := by decide +kernel
theorem dX1_holds_6 : decode cX1_holds 6 = .ok (.iand, 1) := by decide +kernel
theorem dX1_holds_7 : decode cX1_holds 7 = .ok (.iconst 1, 1) := by decide +kernel
theorem dX1_holds_8 : decode cX1_holds 8 = .ok (.iload_n 0, 1) := by decide +kernel
theorem dX1_holds_9 : decode cX1_holds 9 = .ok (.iconst 2, 1) := by decide +kernel
theorem dX1_holds_10 : decode cX1_holds 10 = .ok (.irem, 1) := by decide +kernel
theorem dX1_holds_11 : decode cX1_holds 11 = .ok (.isub, 1) := by decide +kernel
theorem dX1_holds_12 : decode cX1_holds 12 = .ok (.if_icmp .ne 7, 3) := by decide +kernel
theorem dX1_holds_15 : decode cX1_holds 15 = .ok (.iconst 1, 1) := by decide +kernel
theorem dX1_holds_16 : decode cX1_holds 16 = .ok (.goto 4, 3) := by decide +kernel
theorem dX1_holds_19 : decode cX1_holds 19 = .ok (.iconst 0, 1) := by decide +kernel
theorem dX1_holds_20 : decode cX1_holds 20 = .ok (.ireturn, 1) := by decide +kernel
set_option maxRecDepth 20000 in
theorem ggX1_brokenBy_X1_holds : GoodIn wsX1_brokenBy wsX1_holds := goodIn_r _ [10] (by decide +kernel) (by decide +kernel)
set_option maxRecDepth 20000 in
theorem gX1_brokenBy_X1_holds : GoodIn wsX1_brokenBy (va_wsS RX1 78 yX1_holds wsX1_holds) := goodIn_app (goodIn_of _ (by decide +kernel)) ggX1_brokenBy_X1_holds
theorem dX1_brokenBy_0 : decode cX1_brokenBy 0 = .ok (.iconst 0, 1) := by decide +kernel
theorem dX1_brokenBy_1 : decode cX1_brokenBy 1 = .ok (.istore_n 2, 1) := by decide +kernel
theorem dX1_brokenBy_2 : decode cX1_brokenBy 2 = .ok (.iload_n 2, 1) := by decide +kernel
theorem dX1_brokenBy_3 : decode cX1_brokenBy 3 = .ok (.aload_n 0, 1) := by decide +kernel
theorem dX1_brokenBy_4 : decode cX1_brokenBy 4 = .ok (.getfield 51, 3) := by decide +kernel
theorem dX1_brokenBy_7 : decode cX1_brokenBy 7 = .ok (.if_icmp .ge 46, 3) := by decide +kernel
theorem dX1_brokenBy_10 : decode cX1_brokenBy 10 = .ok (.aload_n 0, 1) := by decide +kernel
theorem dX1_brokenBy_11 : decode cX1_brokenBy 11 = .ok (.getfield 16, 3) := by decide +kernel
theorem dX1_brokenBy_14 : decode cX1_brokenBy 14 = .ok (.iload_n 2, 1) := by decide +kernel
theorem dX1_brokenBy_15 : decode cX1_brokenBy 15 = .ok (.baload, 1) := by decide +kernel
theorem dX1_brokenBy_16 : decode cX1_brokenBy 16 = .ok (.ifCond .ne 31, 3) := by decide +kernel
theorem dX1_brokenBy_19 : decode cX1_brokenBy 19 = .ok (.aload_n 0, 1) := by decide +kernel
theorem dX1_brokenBy_20 : decode cX1_brokenBy 20 = .ok (.getfield 9, 3) := by decide +kernel
theorem dX1_brokenBy_23 : decode cX1_brokenBy 23 = .ok (.iload_n 2, 1) := by decide +kernel
theorem dX1_brokenBy_24 : decode cX1_brokenBy 24 = .ok (.iaload, 1) := by decide +kernel
theorem dX1_brokenBy_25 : decode cX1_brokenBy 25 = .ok (.iload_n 1, 1) := by decide +kernel
theorem dX1_brokenBy_26 : decode cX1_brokenBy 26 = .ok (.invokestatic 78, 3) := by decide +kernel
theorem dX1_brokenBy_29 : decode cX1_brokenBy 29 = .ok (.ifCond .eq 18, 3) := by decide +kernel
theorem dX1_brokenBy_32 : decode cX1_brokenBy 32 = .ok (.aload_n 0, 1) := by decide +kernel
theorem dX1_brokenBy_33 : decode cX1_brokenBy 33 = .ok (.getfield 13, 3) := by decide +kernel
theorem dX1_brokenBy_36 : decode cX1_brokenBy 36 = .ok (.iload_n 2, 1) := by decide +kernel
theorem dX1_brokenBy_37 : decode cX1_brokenBy 37 = .ok (.iaload, 1) := by decide +kernel
theorem dX1_brokenBy_38 : decode cX1_brokenBy 38 = .ok (.iload_n 1, 1) := by decide +kernel
theorem dX1_brokenBy_39 : decode cX1_brokenBy 39 = .ok (.invokestatic 78, 3) := by decide +kernel
theorem dX1_brokenBy_42 : decode cX1_brokenBy 42 = .ok (.ifCond .ne 5, 3) := by decide +kernel
theorem dX1_brokenBy_45 : decode cX1_brokenBy 45 = .ok (.iload_n 2, 1) := by decide +kernel
theorem dX1_brokenBy_46 : decode cX1_brokenBy 46 = .ok (.ireturn, 1) := by decide +kernel
theorem dX1_brokenBy_47 : decode cX1_brokenBy 47 = .ok (.iinc 2 1, 3) := by decide +kernel
theorem dX1_brokenBy_50 : decode cX1_brokenBy 50 = .ok (.goto (-48), 3) := by decide +kernel
theorem dX1_brokenBy_53 : decode cX1_brokenBy 53 = .ok (.aload_n 0, 1) := by decide +kernel
theorem dX1_brokenBy_54 : decode cX1_brokenBy 54 = .ok (.getfield 20, 3) := by decide +kernel
theorem dX1_brokenBy_57 : decode cX1_brokenBy 57 = .ok (.iconst (-1), 1) := by decide +kernel
theorem dX1_brokenBy_58 : decode cX1_brokenBy 58 = .ok (.if_icmp .eq 30, 3) := by decide +kernel
theorem dX1_brokenBy_61 : decode cX1_brokenBy 61 = .ok (.aload_n 0, 1) := by decide +kernel
theorem dX1_brokenBy_62 : decode cX1_brokenBy 62 = .ok (.getfield 20, 3) := by decide +kernel
theorem dX1_brokenBy_65 : decode cX1_brokenBy 65 = .ok (.iload_n 1, 1) := by decide +kernel
theorem dX1_brokenBy_66 : decode cX1_brokenBy 66 = .ok (.invokestatic 78, 3) := by decide +kernel
theorem dX1_brokenBy_69 : decode cX1_brokenBy 69 = .ok (.ifCond .eq 19, 3) := by decide +kernel
theorem dX1_brokenBy_72 : decode cX1_brokenBy 72 = .ok (.aload_n 0, 1) := by decide +kernel
theorem dX1_brokenBy_73 : decode cX1_brokenBy 73 = .ok (.getfield 24, 3) := by decide +kernel
theorem dX1_brokenBy_76 : decode cX1_brokenBy 76 = .ok (.iload_n 1, 1) := by decide +kernel
theorem dX1_brokenBy_77 : decode cX1_brokenBy 77 = .ok (.invokestatic 78, 3) := by decide +kernel
theorem dX1_brokenBy_80 : decode cX1_brokenBy 80 = .ok (.ifCond .ne 8, 3) := by decide +kernel
theorem dX1_brokenBy_83 : decode cX1_brokenBy 83 = .ok (.bipush 30, 2) := by decide +kernel
theorem dX1_brokenBy_85 : decode cX1_brokenBy 85 = .ok (.goto 4, 3) := by decide +kernel
theorem dX1_brokenBy_88 : decode cX1_brokenBy 88 = .ok (.iconst (-1), 1) := by decide +kernel
theorem dX1_brokenBy_89 : decode cX1_brokenBy 89 = .ok (.ireturn, 1) := by decide +kernel
set_option maxRecDepth 20000 in
theorem ggX1_seatingsWith_X1_brokenBy : GoodIn wsX1_seatingsWith wsX1_brokenBy := goodIn_r _ [6, 7, 8, 9, 10, 11, 12, 13, 14, 5, 15, 16, 17, 18, 19, 20, 21, 22, 23, 24, 25] (by decide +kernel) (by decide +kernel)
set_option maxRecDepth 20000 in
theorem gX1_seatingsWith_X1_brokenBy : GoodIn wsX1_seatingsWith (wsV RX1 81 RX1 yX1_brokenBy wsX1_brokenBy) := goodIn_app (goodIn_of _ (by decide +kernel)) ggX1_seatingsWith_X1_brokenBy
theorem dX1_seatingsWith_0 : decode cX1_seatingsWith 0 = .ok (.iconst 0, 1) := by decide +kernel
theorem dX1_seatingsWith_1 : decode cX1_seatingsWith 1 = .ok (.istore_n 3, 1) := by decide +kernel
theorem dX1_seatingsWith_2 : decode cX1_seatingsWith 2 = .ok (.iconst 0, 1) := by decide +kernel
theorem dX1_seatingsWith_3 : decode cX1_seatingsWith 3 = .ok (.istore 4, 2) := by decide +kernel
theorem dX1_seatingsWith_5 : decode cX1_seatingsWith 5 = .ok (.iload 4, 2) := by decide +kernel
theorem dX1_seatingsWith_7 : decode cX1_seatingsWith 7 = .ok (.iconst 1, 1) := by decide +kernel
theorem dX1_seatingsWith_8 : decode cX1_seatingsWith 8 = .ok (.aload_n 0, 1) := by decide +kernel
theorem dX1_seatingsWith_9 : decode cX1_seatingsWith 9 = .ok (.getfield 36, 3) := by decide +kernel
theorem dX1_seatingsWith_12 : decode cX1_seatingsWith 12 = .ok (.ishl, 1) := by decide +kernel
theorem dX1_seatingsWith_13 : decode cX1_seatingsWith 13 = .ok (.if_icmp .ge 39, 3) := by decide +kernel
theorem dX1_seatingsWith_16 : decode cX1_seatingsWith 16 = .ok (.iload_n 3, 1) := by decide +kernel
theorem dX1_seatingsWith_17 : decode cX1_seatingsWith 17 = .ok (.iload 4, 2) := by decide +kernel
theorem dX1_seatingsWith_19 : decode cX1_seatingsWith 19 = .ok (.iconst 1, 1) := by decide +kernel
theorem dX1_seatingsWith_20 : decode cX1_seatingsWith 20 = .ok (.iload_n 2, 1) := by decide +kernel
theorem dX1_seatingsWith_21 : decode cX1_seatingsWith 21 = .ok (.ishl, 1) := by decide +kernel
theorem dX1_seatingsWith_22 : decode cX1_seatingsWith 22 = .ok (.iconst 1, 1) := by decide +kernel
theorem dX1_seatingsWith_23 : decode cX1_seatingsWith 23 = .ok (.isub, 1) := by decide +kernel
theorem dX1_seatingsWith_24 : decode cX1_seatingsWith 24 = .ok (.iand, 1) := by decide +kernel
theorem dX1_seatingsWith_25 : decode cX1_seatingsWith 25 = .ok (.iload_n 1, 1) := by decide +kernel
theorem dX1_seatingsWith_26 : decode cX1_seatingsWith 26 = .ok (.if_icmp .ne 17, 3) := by decide +kernel
theorem dX1_seatingsWith_29 : decode cX1_seatingsWith 29 = .ok (.aload_n 0, 1) := by decide +kernel
theorem dX1_seatingsWith_30 : decode cX1_seatingsWith 30 = .ok (.iload 4, 2) := by decide +kernel
theorem dX1_seatingsWith_32 : decode cX1_seatingsWith 32 = .ok (.invokevirtual 81, 3) := by decide +kernel
theorem dX1_seatingsWith_35 : decode cX1_seatingsWith 35 = .ok (.iconst (-1), 1) := by decide +kernel
theorem dX1_seatingsWith_36 : decode cX1_seatingsWith 36 = .ok (.if_icmp .ne 7, 3) := by decide +kernel
theorem dX1_seatingsWith_39 : decode cX1_seatingsWith 39 = .ok (.iconst 1, 1) := by decide +kernel
theorem dX1_seatingsWith_40 : decode cX1_seatingsWith 40 = .ok (.goto 4, 3) := by decide +kernel
theorem dX1_seatingsWith_43 : decode cX1_seatingsWith 43 = .ok (.iconst 0, 1) := by decide +kernel
theorem dX1_seatingsWith_44 : decode cX1_seatingsWith 44 = .ok (.iadd, 1) := by decide +kernel
theorem dX1_seatingsWith_45 : decode cX1_seatingsWith 45 = .ok (.istore_n 3, 1) := by decide +kernel
theorem dX1_seatingsWith_46 : decode cX1_seatingsWith 46 = .ok (.iinc 4 1, 3) := by decide +kernel
theorem dX1_seatingsWith_49 : decode cX1_seatingsWith 49 = .ok (.goto (-44), 3) := by decide +kernel
theorem dX1_seatingsWith_52 : decode cX1_seatingsWith 52 = .ok (.iload_n 3, 1) := by decide +kernel
theorem dX1_seatingsWith_53 : decode cX1_seatingsWith 53 = .ok (.ireturn, 1) := by decide +kernel
set_option maxRecDepth 20000 in
theorem ggX1_all_X1_seatingsWith : GoodIn wsX1_all wsX1_seatingsWith := goodIn_r _ [5, 6, 7, 8, 9, 4, 10, 11, 12, 13, 14, 15, 16, 17, 18, 19, 20, 21, 22, 23, 24, 25, 26, 27, 28, 29] (by decide +kernel) (by decide +kernel)
set_option maxRecDepth 20000 in
theorem gX1_all_X1_seatingsWith : GoodIn wsX1_all (wsV RX1 84 RX1 yX1_seatingsWith wsX1_seatingsWith) := goodIn_app (goodIn_of _ (by decide +kernel)) ggX1_all_X1_seatingsWith
theorem dX1_all_0 : decode cX1_all 0 = .ok (.aload_n 0, 1) := by decide +kernel
theorem dX1_all_1 : decode cX1_all 1 = .ok (.iconst 0, 1) := by decide +kernel
theorem dX1_all_2 : decode cX1_all 2 = .ok (.iconst 0, 1) := by decide +kernel
theorem dX1_all_3 : decode cX1_all 3 = .ok (.invokevirtual 84, 3) := by decide +kernel
theorem dX1_all_6 : decode cX1_all 6 = .ok (.ireturn, 1) := by decide +kernel
set_option maxRecDepth 20000 in
theorem ggX1_isForced_X1_all : GoodIn wsX1_isForced wsX1_all := goodIn_r _ [6, 7, 8, 9, 5, 10, 1, 11, 12, 13, 14, 15, 16, 17, 18, 19, 20, 21, 22, 23, 24, 25, 26, 27, 28, 29, 30, 31, 32, 33] (by decide +kernel) (by decide +kernel)
set_option maxRecDepth 20000 in
theorem gX1_isForced_X1_all : GoodIn wsX1_isForced (wsV RX1 87 RX1 yX1_all wsX1_all) := goodIn_app (goodIn_of _ (by decide +kernel)) ggX1_isForced_X1_all
set_option maxRecDepth 20000 in
theorem ggX1_isForced_X1_brokenBy : GoodIn wsX1_isForced wsX1_brokenBy := goodIn_r _ [14, 15, 16, 17, 18, 19, 20, 21, 22, 5, 23, 24, 25, 26, 27, 28, 29, 30, 31, 32, 33] (by decide +kernel) (by decide +kernel)
set_option maxRecDepth 20000 in
theorem gX1_isForced_X1_brokenBy : GoodIn wsX1_isForced (wsV RX1 81 RX1 yX1_brokenBy wsX1_brokenBy) := goodIn_app (goodIn_of _ (by decide +kernel)) ggX1_isForced_X1_brokenBy
set_option maxRecDepth 20000 in
theorem ggX1_isForced_X1_holds : GoodIn wsX1_isForced wsX1_holds := goodIn_r _ [23] (by decide +kernel) (by decide +kernel)
set_option maxRecDepth 20000 in
theorem gX1_isForced_X1_holds : GoodIn wsX1_isForced (va_wsS RX1 78 yX1_holds wsX1_holds) := goodIn_app (goodIn_of _ (by decide +kernel)) ggX1_isForced_X1_holds
theorem dX1_isForced_0 : decode cX1_isForced 0 = .ok (.aload_n 0, 1) := by decide +kernel
theorem dX1_isForced_1 : decode cX1_isForced 1 = .ok (.invokevirtual 87, 3) := by decide +kernel
theorem dX1_isForced_4 : decode cX1_isForced 4 = .ok (.ifCond .le 7, 3) := by decide +kernel
theorem dX1_isForced_7 : decode cX1_isForced 7 = .ok (.iconst 1, 1) := by decide +kernel
theorem dX1_isForced_8 : decode cX1_isForced 8 = .ok (.goto 4, 3) := by decide +kernel
theorem dX1_isForced_11 : decode cX1_isForced 11 = .ok (.iconst 0, 1) := by decide +kernel
theorem dX1_isForced_12 : decode cX1_isForced 12 = .ok (.istore_n 2, 1) := by decide +kernel
theorem dX1_isForced_13 : decode cX1_isForced 13 = .ok (.iconst 0, 1) := by decide +kernel
theorem dX1_isForced_14 : decode cX1_isForced 14 = .ok (.istore_n 3, 1) := by decide +kernel
theorem dX1_isForced_15 : decode cX1_isForced 15 = .ok (.iload_n 3, 1) := by decide +kernel
theorem dX1_isForced_16 : decode cX1_isForced 16 = .ok (.iconst 1, 1) := by decide +kernel
theorem dX1_isForced_17 : decode cX1_isForced 17 = .ok (.aload_n 0, 1) := by decide +kernel
theorem dX1_isForced_18 : decode cX1_isForced 18 = .ok (.getfield 36, 3) := by decide +kernel
theorem dX1_isForced_21 : decode cX1_isForced 21 = .ok (.ishl, 1) := by decide +kernel
theorem dX1_isForced_22 : decode cX1_isForced 22 = .ok (.if_icmp .ge 36, 3) := by decide +kernel
theorem dX1_isForced_25 : decode cX1_isForced 25 = .ok (.iload_n 2, 1) := by decide +kernel
theorem dX1_isForced_26 : decode cX1_isForced 26 = .ok (.ifCond .eq 32, 3) := by decide +kernel
theorem dX1_isForced_29 : decode cX1_isForced 29 = .ok (.aload_n 0, 1) := by decide +kernel
theorem dX1_isForced_30 : decode cX1_isForced 30 = .ok (.iload_n 3, 1) := by decide +kernel
theorem dX1_isForced_31 : decode cX1_isForced 31 = .ok (.invokevirtual 81, 3) := by decide +kernel
theorem dX1_isForced_34 : decode cX1_isForced 34 = .ok (.iconst (-1), 1) := by decide +kernel
theorem dX1_isForced_35 : decode cX1_isForced 35 = .ok (.if_icmp .ne 11, 3) := by decide +kernel
theorem dX1_isForced_38 : decode cX1_isForced 38 = .ok (.iload_n 1, 1) := by decide +kernel
theorem dX1_isForced_39 : decode cX1_isForced 39 = .ok (.iload_n 3, 1) := by decide +kernel
theorem dX1_isForced_40 : decode cX1_isForced 40 = .ok (.invokestatic 78, 3) := by decide +kernel
theorem dX1_isForced_43 : decode cX1_isForced 43 = .ok (.ifCond .eq 7, 3) := by decide +kernel
theorem dX1_isForced_46 : decode cX1_isForced 46 = .ok (.iconst 1, 1) := by decide +kernel
theorem dX1_isForced_47 : decode cX1_isForced 47 = .ok (.goto 4, 3) := by decide +kernel
theorem dX1_isForced_50 : decode cX1_isForced 50 = .ok (.iconst 0, 1) := by decide +kernel
theorem dX1_isForced_51 : decode cX1_isForced 51 = .ok (.istore_n 2, 1) := by decide +kernel
theorem dX1_isForced_52 : decode cX1_isForced 52 = .ok (.iinc 3 1, 3) := by decide +kernel
theorem dX1_isForced_55 : decode cX1_isForced 55 = .ok (.goto (-40), 3) := by decide +kernel
theorem dX1_isForced_58 : decode cX1_isForced 58 = .ok (.iload_n 2, 1) := by decide +kernel
theorem dX1_isForced_59 : decode cX1_isForced 59 = .ok (.ireturn, 1) := by decide +kernel
set_option maxRecDepth 20000 in
theorem ggX1_guestTold_X1_isForced : GoodIn wsX1_guestTold wsX1_isForced := goodIn_r _ [6, 1, 7, 8, 9, 5, 10, 11, 12, 13, 14, 15, 16, 17, 18, 19, 20, 21, 22, 23, 24, 25, 26, 27, 53, 54, 55, 56, 57, 58, 59, 60, 61, 62] (by decide +kernel) (by decide +kernel)
set_option maxRecDepth 20000 in
theorem gX1_guestTold_X1_isForced : GoodIn wsX1_guestTold (wsV RX1 91 RX1 yX1_isForced wsX1_isForced) := goodIn_app (goodIn_of _ (by decide +kernel)) ggX1_guestTold_X1_isForced
set_option maxRecDepth 20000 in
theorem ggX1_guestTold_X1_isTorn : GoodIn wsX1_guestTold wsX1_isTorn := goodIn_r _ [31, 32, 33, 34, 5, 35, 36, 37, 38, 39, 40, 41, 42, 43, 44, 45, 46, 47, 48, 19, 20, 21, 22, 49, 50, 51, 52, 53, 54, 55, 56, 57, 58, 59, 60, 61, 62] (by decide +kernel) (by decide +kernel)
set_option maxRecDepth 20000 in
theorem gX1_guestTold_X1_isTorn : GoodIn wsX1_guestTold (wsV RX1 94 RX1 yX1_isTorn wsX1_isTorn) := goodIn_app (goodIn_of _ (by decide +kernel)) ggX1_guestTold_X1_isTorn
set_option maxRecDepth 20000 in
theorem ggX1_guestTold_X1_leads : GoodIn wsX1_guestTold wsX1_leads := goodIn_r _ [42, 43, 44, 45, 46, 5, 47, 48, 19, 20, 21, 22, 49, 50, 51, 52, 36, 37, 38, 53, 54, 55, 56, 57, 58, 59, 60, 61, 62] (by decide +kernel) (by decide +kernel)
set_option maxRecDepth 20000 in
theorem gX1_guestTold_X1_leads : GoodIn wsX1_guestTold (wsV RX1 68 RX1 yX1_leads wsX1_leads) := goodIn_app (goodIn_of _ (by decide +kernel)) ggX1_guestTold_X1_leads
theorem dX1_guestTold_0 : decode cX1_guestTold 0 = .ok (.iload_n 2, 1) := by decide +kernel
theorem dX1_guestTold_1 : decode cX1_guestTold 1 = .ok (.iconst 2, 1) := by decide +kernel
theorem dX1_guestTold_2 : decode cX1_guestTold 2 = .ok (.if_icmp .ge 21, 3) := by decide +kernel
theorem dX1_guestTold_5 : decode cX1_guestTold 5 = .ok (.aload_n 0, 1) := by decide +kernel
theorem dX1_guestTold_6 : decode cX1_guestTold 6 = .ok (.iconst 2, 1) := by decide +kernel
theorem dX1_guestTold_7 : decode cX1_guestTold 7 = .ok (.iload_n 1, 1) := by decide +kernel
theorem dX1_guestTold_8 : decode cX1_guestTold 8 = .ok (.imul, 1) := by decide +kernel
theorem dX1_guestTold_9 : decode cX1_guestTold 9 = .ok (.iload_n 2, 1) := by decide +kernel
theorem dX1_guestTold_10 : decode cX1_guestTold 10 = .ok (.iadd, 1) := by decide +kernel
theorem dX1_guestTold_11 : decode cX1_guestTold 11 = .ok (.invokevirtual 91, 3) := by decide +kernel
theorem dX1_guestTold_14 : decode cX1_guestTold 14 = .ok (.ifCond .eq 7, 3) := by decide +kernel
theorem dX1_guestTold_17 : decode cX1_guestTold 17 = .ok (.iconst 1, 1) := by decide +kernel
theorem dX1_guestTold_18 : decode cX1_guestTold 18 = .ok (.goto 4, 3) := by decide +kernel
theorem dX1_guestTold_21 : decode cX1_guestTold 21 = .ok (.iconst 0, 1) := by decide +kernel
theorem dX1_guestTold_22 : decode cX1_guestTold 22 = .ok (.ireturn, 1) := by decide +kernel
theorem dX1_guestTold_23 : decode cX1_guestTold 23 = .ok (.iload_n 2, 1) := by decide +kernel
theorem dX1_guestTold_24 : decode cX1_guestTold 24 = .ok (.iconst 2, 1) := by decide +kernel
theorem dX1_guestTold_25 : decode cX1_guestTold 25 = .ok (.if_icmp .ne 17, 3) := by decide +kernel
theorem dX1_guestTold_28 : decode cX1_guestTold 28 = .ok (.aload_n 0, 1) := by decide +kernel
theorem dX1_guestTold_29 : decode cX1_guestTold 29 = .ok (.iload_n 1, 1) := by decide +kernel
theorem dX1_guestTold_30 : decode cX1_guestTold 30 = .ok (.invokevirtual 94, 3) := by decide +kernel
theorem dX1_guestTold_33 : decode cX1_guestTold 33 = .ok (.ifCond .eq 7, 3) := by decide +kernel
theorem dX1_guestTold_36 : decode cX1_guestTold 36 = .ok (.iconst 1, 1) := by decide +kernel
theorem dX1_guestTold_37 : decode cX1_guestTold 37 = .ok (.goto 4, 3) := by decide +kernel
theorem dX1_guestTold_40 : decode cX1_guestTold 40 = .ok (.iconst 0, 1) := by decide +kernel
theorem dX1_guestTold_41 : decode cX1_guestTold 41 = .ok (.ireturn, 1) := by decide +kernel
theorem dX1_guestTold_42 : decode cX1_guestTold 42 = .ok (.iconst 0, 1) := by decide +kernel
theorem dX1_guestTold_43 : decode cX1_guestTold 43 = .ok (.istore_n 3, 1) := by decide +kernel
theorem dX1_guestTold_44 : decode cX1_guestTold 44 = .ok (.iconst 0, 1) := by decide +kernel
theorem dX1_guestTold_45 : decode cX1_guestTold 45 = .ok (.istore 4, 2) := by decide +kernel
theorem dX1_guestTold_47 : decode cX1_guestTold 47 = .ok (.iload 4, 2) := by decide +kernel
theorem dX1_guestTold_49 : decode cX1_guestTold 49 = .ok (.aload_n 0, 1) := by decide +kernel
theorem dX1_guestTold_50 : decode cX1_guestTold 50 = .ok (.getfield 36, 3) := by decide +kernel
theorem dX1_guestTold_53 : decode cX1_guestTold 53 = .ok (.if_icmp .ge 100, 3) := by decide +kernel
theorem dX1_guestTold_56 : decode cX1_guestTold 56 = .ok (.iconst 0, 1) := by decide +kernel
theorem dX1_guestTold_57 : decode cX1_guestTold 57 = .ok (.istore 5, 2) := by decide +kernel
theorem dX1_guestTold_59 : decode cX1_guestTold 59 = .ok (.iconst 0, 1) := by decide +kernel
theorem dX1_guestTold_60 : decode cX1_guestTold 60 = .ok (.istore 6, 2) := by decide +kernel
theorem dX1_guestTold_62 : decode cX1_guestTold 62 = .ok (.iload 6, 2) := by decide +kernel
theorem dX1_guestTold_64 : decode cX1_guestTold 64 = .ok (.iconst 4, 1) := by decide +kernel
theorem dX1_guestTold_65 : decode cX1_guestTold 65 = .ok (.if_icmp .ge 69, 3) := by decide +kernel
theorem dX1_guestTold_68 : decode cX1_guestTold 68 = .ok (.iload 5, 2) := by decide +kernel
theorem dX1_guestTold_70 : decode cX1_guestTold 70 = .ok (.ifCond .ne 51, 3) := by decide +kernel
theorem dX1_guestTold_73 : decode cX1_guestTold 73 = .ok (.aload_n 0, 1) := by decide +kernel
theorem dX1_guestTold_74 : decode cX1_guestTold 74 = .ok (.iconst 2, 1) := by decide +kernel
theorem dX1_guestTold_75 : decode cX1_guestTold 75 = .ok (.iload_n 1, 1) := by decide +kernel
theorem dX1_guestTold_76 : decode cX1_guestTold 76 = .ok (.imul, 1) := by decide +kernel
theorem dX1_guestTold_77 : decode cX1_guestTold 77 = .ok (.iload 6, 2) := by decide +kernel
theorem dX1_guestTold_79 : decode cX1_guestTold 79 = .ok (.iconst 2, 1) := by decide +kernel
theorem dX1_guestTold_80 : decode cX1_guestTold 80 = .ok (.idiv, 1) := by decide +kernel
theorem dX1_guestTold_81 : decode cX1_guestTold 81 = .ok (.iadd, 1) := by decide +kernel
theorem dX1_guestTold_82 : decode cX1_guestTold 82 = .ok (.iconst 2, 1) := by decide +kernel
theorem dX1_guestTold_83 : decode cX1_guestTold 83 = .ok (.iload 4, 2) := by decide +kernel
theorem dX1_guestTold_85 : decode cX1_guestTold 85 = .ok (.imul, 1) := by decide +kernel
theorem dX1_guestTold_86 : decode cX1_guestTold 86 = .ok (.iload 6, 2) := by decide +kernel
theorem dX1_guestTold_88 : decode cX1_guestTold 88 = .ok (.iconst 2, 1) := by decide +kernel
theorem dX1_guestTold_89 : decode cX1_guestTold 89 = .ok (.irem, 1) := by decide +kernel
theorem dX1_guestTold_90 : decode cX1_guestTold 90 = .ok (.iadd, 1) := by decide +kernel
theorem dX1_guestTold_91 : decode cX1_guestTold 91 = .ok (.invokevirtual 68, 3) := by decide +kernel
theorem dX1_guestTold_94 : decode cX1_guestTold 94 = .ok (.ifCond .eq 31, 3) := by decide +kernel
theorem dX1_guestTold_97 : decode cX1_guestTold 97 = .ok (.aload_n 0, 1) := by decide +kernel
theorem dX1_guestTold_98 : decode cX1_guestTold 98 = .ok (.iconst 2, 1) := by decide +kernel
theorem dX1_guestTold_99 : decode cX1_guestTold 99 = .ok (.iload 4, 2) := by decide +kernel
theorem dX1_guestTold_101 : decode cX1_guestTold 101 = .ok (.imul, 1) := by decide +kernel
theorem dX1_guestTold_102 : decode cX1_guestTold 102 = .ok (.iload 6, 2) := by decide +kernel
theorem dX1_guestTold_104 : decode cX1_guestTold 104 = .ok (.iconst 2, 1) := by decide +kernel
theorem dX1_guestTold_105 : decode cX1_guestTold 105 = .ok (.irem, 1) := by decide +kernel
theorem dX1_guestTold_106 : decode cX1_guestTold 106 = .ok (.iadd, 1) := by decide +kernel
theorem dX1_guestTold_107 : decode cX1_guestTold 107 = .ok (.iconst 2, 1) := by decide +kernel
theorem dX1_guestTold_108 : decode cX1_guestTold 108 = .ok (.iload_n 1, 1) := by decide +kernel
theorem dX1_guestTold_109 : decode cX1_guestTold 109 = .ok (.imul, 1) := by decide +kernel
theorem dX1_guestTold_110 : decode cX1_guestTold 110 = .ok (.iload 6, 2) := by decide +kernel
theorem dX1_guestTold_112 : decode cX1_guestTold 112 = .ok (.iconst 2, 1) := by decide +kernel
theorem dX1_guestTold_113 : decode cX1_guestTold 113 = .ok (.idiv, 1) := by decide +kernel
theorem dX1_guestTold_114 : decode cX1_guestTold 114 = .ok (.iadd, 1) := by decide +kernel
theorem dX1_guestTold_115 : decode cX1_guestTold 115 = .ok (.invokevirtual 68, 3) := by decide +kernel
theorem dX1_guestTold_118 : decode cX1_guestTold 118 = .ok (.ifCond .eq 7, 3) := by decide +kernel
theorem dX1_guestTold_121 : decode cX1_guestTold 121 = .ok (.iconst 1, 1) := by decide +kernel
theorem dX1_guestTold_122 : decode cX1_guestTold 122 = .ok (.goto 4, 3) := by decide +kernel
theorem dX1_guestTold_125 : decode cX1_guestTold 125 = .ok (.iconst 0, 1) := by decide +kernel
theorem dX1_guestTold_126 : decode cX1_guestTold 126 = .ok (.istore 5, 2) := by decide +kernel
theorem dX1_guestTold_128 : decode cX1_guestTold 128 = .ok (.iinc 6 1, 3) := by decide +kernel
theorem dX1_guestTold_131 : decode cX1_guestTold 131 = .ok (.goto (-69), 3) := by decide +kernel
theorem dX1_guestTold_134 : decode cX1_guestTold 134 = .ok (.iload_n 3, 1) := by decide +kernel
theorem dX1_guestTold_135 : decode cX1_guestTold 135 = .ok (.iload 5, 2) := by decide +kernel
theorem dX1_guestTold_137 : decode cX1_guestTold 137 = .ok (.ifCond .eq 7, 3) := by decide +kernel
theorem dX1_guestTold_140 : decode cX1_guestTold 140 = .ok (.iconst 1, 1) := by decide +kernel
theorem dX1_guestTold_141 : decode cX1_guestTold 141 = .ok (.goto 4, 3) := by decide +kernel
theorem dX1_guestTold_144 : decode cX1_guestTold 144 = .ok (.iconst 0, 1) := by decide +kernel
theorem dX1_guestTold_145 : decode cX1_guestTold 145 = .ok (.iadd, 1) := by decide +kernel
theorem dX1_guestTold_146 : decode cX1_guestTold 146 = .ok (.istore_n 3, 1) := by decide +kernel
theorem dX1_guestTold_147 : decode cX1_guestTold 147 = .ok (.iinc 4 1, 3) := by decide +kernel
theorem dX1_guestTold_150 : decode cX1_guestTold 150 = .ok (.goto (-103), 3) := by decide +kernel
theorem dX1_guestTold_153 : decode cX1_guestTold 153 = .ok (.iload_n 3, 1) := by decide +kernel
theorem dX1_guestTold_154 : decode cX1_guestTold 154 = .ok (.ireturn, 1) := by decide +kernel
set_option maxRecDepth 20000 in
theorem ggX1_guest_X1_isIn : GoodIn wsX1_guest wsX1_isIn := goodIn_r _ [6] (by decide +kernel) (by decide +kernel)
set_option maxRecDepth 20000 in
theorem gX1_guest_X1_isIn : GoodIn wsX1_guest (va_wsS RX1 39 yX1_isIn wsX1_isIn) := goodIn_app (goodIn_of _ (by decide +kernel)) ggX1_guest_X1_isIn
set_option maxRecDepth 20000 in
theorem ggX1_guest_X1_guestTold : GoodIn wsX1_guest wsX1_guestTold := goodIn_r _ [10, 2, 11, 12, 13, 5, 14, 15, 16, 17, 18, 19, 20, 21, 22, 23, 24, 25, 26, 27, 28, 29, 30, 31, 32, 33, 34, 35, 36, 37, 38, 39, 40, 41, 42, 43, 44, 45, 46, 47, 48, 49, 50, 51, 52, 53, 54, 55, 56, 57, 58, 59, 60, 65, 66, 67, 68, 69, 70, 71, 72, 73, 74] (by decide +kernel) (by decide +kernel)
set_option maxRecDepth 20000 in
theorem gX1_guest_X1_guestTold : GoodIn wsX1_guest (wsV RX1 97 RX1 yX1_guestTold wsX1_guestTold) := goodIn_app (goodIn_of _ (by decide +kernel)) ggX1_guest_X1_guestTold
set_option maxRecDepth 20000 in
theorem ggX1_guest_X1_fail : GoodIn wsX1_guest wsX1_fail := goodIn_r _ [64, 1, 65, 66, 67, 68, 69, 70, 71, 72, 73, 74] (by decide +kernel) (by decide +kernel)
set_option maxRecDepth 20000 in
theorem gX1_guest_X1_fail : GoodIn wsX1_guest (wsV RX1 43 RX1 yX1_fail wsX1_fail) := goodIn_app (goodIn_of _ (by decide +kernel)) ggX1_guest_X1_fail
theorem dX1_guest_0 : decode cX1_guest 0 = .ok (.aload_n 0, 1) := by decide +kernel
theorem dX1_guest_1 : decode cX1_guest 1 = .ok (.iconst 0, 1) := by decide +kernel
theorem dX1_guest_2 : decode cX1_guest 2 = .ok (.putfield 33, 3) := by decide +kernel
theorem dX1_guest_5 : decode cX1_guest 5 = .ok (.iload_n 1, 1) := by decide +kernel
theorem dX1_guest_6 : decode cX1_guest 6 = .ok (.iconst 0, 1) := by decide +kernel
theorem dX1_guest_7 : decode cX1_guest 7 = .ok (.aload_n 0, 1) := by decide +kernel
theorem dX1_guest_8 : decode cX1_guest 8 = .ok (.getfield 36, 3) := by decide +kernel
theorem dX1_guest_11 : decode cX1_guest 11 = .ok (.iconst 1, 1) := by decide +kernel
theorem dX1_guest_12 : decode cX1_guest 12 = .ok (.isub, 1) := by decide +kernel
theorem dX1_guest_13 : decode cX1_guest 13 = .ok (.invokestatic 39, 3) := by decide +kernel
theorem dX1_guest_16 : decode cX1_guest 16 = .ok (.ifCond .eq 21, 3) := by decide +kernel
theorem dX1_guest_19 : decode cX1_guest 19 = .ok (.iload_n 2, 1) := by decide +kernel
theorem dX1_guest_20 : decode cX1_guest 20 = .ok (.iconst 0, 1) := by decide +kernel
theorem dX1_guest_21 : decode cX1_guest 21 = .ok (.iconst 3, 1) := by decide +kernel
theorem dX1_guest_22 : decode cX1_guest 22 = .ok (.invokestatic 39, 3) := by decide +kernel
theorem dX1_guest_25 : decode cX1_guest 25 = .ok (.ifCond .eq 12, 3) := by decide +kernel
theorem dX1_guest_28 : decode cX1_guest 28 = .ok (.aload_n 0, 1) := by decide +kernel
theorem dX1_guest_29 : decode cX1_guest 29 = .ok (.iload_n 1, 1) := by decide +kernel
theorem dX1_guest_30 : decode cX1_guest 30 = .ok (.iload_n 2, 1) := by decide +kernel
theorem dX1_guest_31 : decode cX1_guest 31 = .ok (.invokevirtual 97, 3) := by decide +kernel
theorem dX1_guest_34 : decode cX1_guest 34 = .ok (.goto 8, 3) := by decide +kernel
theorem dX1_guest_37 : decode cX1_guest 37 = .ok (.aload_n 0, 1) := by decide +kernel
theorem dX1_guest_38 : decode cX1_guest 38 = .ok (.iconst 1, 1) := by decide +kernel
theorem dX1_guest_39 : decode cX1_guest 39 = .ok (.invokevirtual 43, 3) := by decide +kernel
theorem dX1_guest_42 : decode cX1_guest 42 = .ok (.ireturn, 1) := by decide +kernel
set_option maxRecDepth 20000 in
theorem ggX1_fits_X1_all : GoodIn wsX1_fits wsX1_all := goodIn_r _ [6, 7, 8, 9, 5, 10, 11, 12, 13, 14, 15, 16, 17, 18, 19, 20, 21, 22, 23, 24, 25, 26, 27, 28, 29, 30, 31, 32, 33, 34] (by decide +kernel) (by decide +kernel)
set_option maxRecDepth 20000 in
theorem gX1_fits_X1_all : GoodIn wsX1_fits (wsV RX1 87 RX1 yX1_all wsX1_all) := goodIn_app (goodIn_of _ (by decide +kernel)) ggX1_fits_X1_all
theorem dX1_fits_0 : decode cX1_fits 0 = .ok (.aload_n 0, 1) := by decide +kernel
theorem dX1_fits_1 : decode cX1_fits 1 = .ok (.iconst 0, 1) := by decide +kernel
theorem dX1_fits_2 : decode cX1_fits 2 = .ok (.putfield 33, 3) := by decide +kernel
theorem dX1_fits_5 : decode cX1_fits 5 = .ok (.aload_n 0, 1) := by decide +kernel
theorem dX1_fits_6 : decode cX1_fits 6 = .ok (.invokevirtual 87, 3) := by decide +kernel
theorem dX1_fits_9 : decode cX1_fits 9 = .ok (.ifCond .le 7, 3) := by decide +kernel
theorem dX1_fits_12 : decode cX1_fits 12 = .ok (.iconst 1, 1) := by decide +kernel
theorem dX1_fits_13 : decode cX1_fits 13 = .ok (.goto 4, 3) := by decide +kernel
theorem dX1_fits_16 : decode cX1_fits 16 = .ok (.iconst 0, 1) := by decide +kernel
theorem dX1_fits_17 : decode cX1_fits 17 = .ok (.ireturn, 1) := by decide +kernel
set_option maxRecDepth 20000 in
theorem ggX1_seated_X1_all : GoodIn wsX1_seated wsX1_all := goodIn_r _ [6, 7, 8, 9, 5, 10, 1, 11, 12, 13, 14, 15, 16, 17, 18, 19, 20, 21, 22, 23, 24, 25, 26, 27, 28, 29, 30, 31, 32, 33] (by decide +kernel) (by decide +kernel)
set_option maxRecDepth 20000 in
theorem gX1_seated_X1_all : GoodIn wsX1_seated (wsV RX1 87 RX1 yX1_all wsX1_all) := goodIn_app (goodIn_of _ (by decide +kernel)) ggX1_seated_X1_all
set_option maxRecDepth 20000 in
theorem ggX1_seated_X1_seatingsWith : GoodIn wsX1_seated wsX1_seatingsWith := goodIn_r _ [10, 1, 11, 12, 13, 5, 14, 15, 16, 17, 18, 19, 20, 21, 22, 23, 24, 25, 26, 27, 28, 29, 30, 31, 32, 33] (by decide +kernel) (by decide +kernel)
set_option maxRecDepth 20000 in
theorem gX1_seated_X1_seatingsWith : GoodIn wsX1_seated (wsV RX1 84 RX1 yX1_seatingsWith wsX1_seatingsWith) := goodIn_app (goodIn_of _ (by decide +kernel)) ggX1_seated_X1_seatingsWith
theorem dX1_seated_0 : decode cX1_seated 0 = .ok (.aload_n 0, 1) := by decide +kernel
theorem dX1_seated_1 : decode cX1_seated 1 = .ok (.invokevirtual 87, 3) := by decide +kernel
theorem dX1_seated_4 : decode cX1_seated 4 = .ok (.ifCond .ne 5, 3) := by decide +kernel
theorem dX1_seated_7 : decode cX1_seated 7 = .ok (.iconst (-1), 1) := by decide +kernel
theorem dX1_seated_8 : decode cX1_seated 8 = .ok (.ireturn, 1) := by decide +kernel
theorem dX1_seated_9 : decode cX1_seated 9 = .ok (.iconst 0, 1) := by decide +kernel
theorem dX1_seated_10 : decode cX1_seated 10 = .ok (.istore_n 1, 1) := by decide +kernel
theorem dX1_seated_11 : decode cX1_seated 11 = .ok (.iconst 0, 1) := by decide +kernel
theorem dX1_seated_12 : decode cX1_seated 12 = .ok (.istore_n 2, 1) := by decide +kernel
theorem dX1_seated_13 : decode cX1_seated 13 = .ok (.iload_n 2, 1) := by decide +kernel
theorem dX1_seated_14 : decode cX1_seated 14 = .ok (.aload_n 0, 1) := by decide +kernel
theorem dX1_seated_15 : decode cX1_seated 15 = .ok (.getfield 36, 3) := by decide +kernel
theorem dX1_seated_18 : decode cX1_seated 18 = .ok (.if_icmp .ge 30, 3) := by decide +kernel
theorem dX1_seated_21 : decode cX1_seated 21 = .ok (.aload_n 0, 1) := by decide +kernel
theorem dX1_seated_22 : decode cX1_seated 22 = .ok (.iload_n 1, 1) := by decide +kernel
theorem dX1_seated_23 : decode cX1_seated 23 = .ok (.iconst 1, 1) := by decide +kernel
theorem dX1_seated_24 : decode cX1_seated 24 = .ok (.iload_n 2, 1) := by decide +kernel
theorem dX1_seated_25 : decode cX1_seated 25 = .ok (.ishl, 1) := by decide +kernel
theorem dX1_seated_26 : decode cX1_seated 26 = .ok (.ior, 1) := by decide +kernel
theorem dX1_seated_27 : decode cX1_seated 27 = .ok (.iload_n 2, 1) := by decide +kernel
theorem dX1_seated_28 : decode cX1_seated 28 = .ok (.iconst 1, 1) := by decide +kernel
theorem dX1_seated_29 : decode cX1_seated 29 = .ok (.iadd, 1) := by decide +kernel
theorem dX1_seated_30 : decode cX1_seated 30 = .ok (.invokevirtual 84, 3) := by decide +kernel
theorem dX1_seated_33 : decode cX1_seated 33 = .ok (.ifCond .le 9, 3) := by decide +kernel
theorem dX1_seated_36 : decode cX1_seated 36 = .ok (.iload_n 1, 1) := by decide +kernel
theorem dX1_seated_37 : decode cX1_seated 37 = .ok (.iconst 1, 1) := by decide +kernel
theorem dX1_seated_38 : decode cX1_seated 38 = .ok (.iload_n 2, 1) := by decide +kernel
theorem dX1_seated_39 : decode cX1_seated 39 = .ok (.ishl, 1) := by decide +kernel
theorem dX1_seated_40 : decode cX1_seated 40 = .ok (.ior, 1) := by decide +kernel
theorem dX1_seated_41 : decode cX1_seated 41 = .ok (.istore_n 1, 1) := by decide +kernel
theorem dX1_seated_42 : decode cX1_seated 42 = .ok (.iinc 2 1, 3) := by decide +kernel
theorem dX1_seated_45 : decode cX1_seated 45 = .ok (.goto (-32), 3) := by decide +kernel
theorem dX1_seated_48 : decode cX1_seated 48 = .ok (.iload_n 1, 1) := by decide +kernel
theorem dX1_seated_49 : decode cX1_seated 49 = .ok (.ireturn, 1) := by decide +kernel
set_option maxRecDepth 20000 in
theorem ggX1_seat_X1_seated : GoodIn wsX1_seat wsX1_seated := goodIn_r _ [6, 7, 8, 9, 10, 5, 11, 12, 13, 14, 15, 16, 17, 18, 19, 20, 21, 22, 23, 24, 25, 26, 27, 28, 29, 30, 31, 32, 33, 34, 35, 36, 37, 38] (by decide +kernel) (by decide +kernel)
set_option maxRecDepth 20000 in
theorem gX1_seat_X1_seated : GoodIn wsX1_seat (wsV RX1 100 RX1 yX1_seated wsX1_seated) := goodIn_app (goodIn_of _ (by decide +kernel)) ggX1_seat_X1_seated
theorem dX1_seat_0 : decode cX1_seat 0 = .ok (.aload_n 0, 1) := by decide +kernel
theorem dX1_seat_1 : decode cX1_seat 1 = .ok (.iconst 0, 1) := by decide +kernel
theorem dX1_seat_2 : decode cX1_seat 2 = .ok (.putfield 33, 3) := by decide +kernel
theorem dX1_seat_5 : decode cX1_seat 5 = .ok (.aload_n 0, 1) := by decide +kernel
theorem dX1_seat_6 : decode cX1_seat 6 = .ok (.invokevirtual 100, 3) := by decide +kernel
theorem dX1_seat_9 : decode cX1_seat 9 = .ok (.ireturn, 1) := by decide +kernel
set_option maxRecDepth 20000 in
theorem ggX1_seatings_X1_all : GoodIn wsX1_seatings wsX1_all := goodIn_r _ [6, 7, 8, 9, 5, 10, 11, 12, 13, 14, 15, 16, 17, 18, 19, 20, 21, 22, 23, 24, 25, 26, 27, 28, 29, 30, 31, 32, 33, 34] (by decide +kernel) (by decide +kernel)
set_option maxRecDepth 20000 in
theorem gX1_seatings_X1_all : GoodIn wsX1_seatings (wsV RX1 87 RX1 yX1_all wsX1_all) := goodIn_app (goodIn_of _ (by decide +kernel)) ggX1_seatings_X1_all
theorem dX1_seatings_0 : decode cX1_seatings 0 = .ok (.aload_n 0, 1) := by decide +kernel
theorem dX1_seatings_1 : decode cX1_seatings 1 = .ok (.iconst 0, 1) := by decide +kernel
theorem dX1_seatings_2 : decode cX1_seatings 2 = .ok (.putfield 33, 3) := by decide +kernel
theorem dX1_seatings_5 : decode cX1_seatings 5 = .ok (.aload_n 0, 1) := by decide +kernel
theorem dX1_seatings_6 : decode cX1_seatings 6 = .ok (.invokevirtual 87, 3) := by decide +kernel
theorem dX1_seatings_9 : decode cX1_seatings 9 = .ok (.ireturn, 1) := by decide +kernel
theorem dX1_size_0 : decode cX1_size 0 = .ok (.iconst 0, 1) := by decide +kernel
theorem dX1_size_1 : decode cX1_size 1 = .ok (.istore_n 1, 1) := by decide +kernel
theorem dX1_size_2 : decode cX1_size 2 = .ok (.iconst 0, 1) := by decide +kernel
theorem dX1_size_3 : decode cX1_size 3 = .ok (.istore_n 2, 1) := by decide +kernel
theorem dX1_size_4 : decode cX1_size 4 = .ok (.iload_n 2, 1) := by decide +kernel
theorem dX1_size_5 : decode cX1_size 5 = .ok (.bipush 10, 2) := by decide +kernel
theorem dX1_size_7 : decode cX1_size 7 = .ok (.if_icmp .ge 17, 3) := by decide +kernel
theorem dX1_size_10 : decode cX1_size 10 = .ok (.iload_n 1, 1) := by decide +kernel
theorem dX1_size_11 : decode cX1_size 11 = .ok (.iload_n 0, 1) := by decide +kernel
theorem dX1_size_12 : decode cX1_size 12 = .ok (.iload_n 2, 1) := by decide +kernel
theorem dX1_size_13 : decode cX1_size 13 = .ok (.ishr, 1) := by decide +kernel
theorem dX1_size_14 : decode cX1_size 14 = .ok (.iconst 1, 1) := by decide +kernel
theorem dX1_size_15 : decode cX1_size 15 = .ok (.iand, 1) := by decide +kernel
theorem dX1_size_16 : decode cX1_size 16 = .ok (.iadd, 1) := by decide +kernel
theorem dX1_size_17 : decode cX1_size 17 = .ok (.istore_n 1, 1) := by decide +kernel
theorem dX1_size_18 : decode cX1_size 18 = .ok (.iinc 2 1, 3) := by decide +kernel
theorem dX1_size_21 : decode cX1_size 21 = .ok (.goto (-17), 3) := by decide +kernel
theorem dX1_size_24 : decode cX1_size 24 = .ok (.iload_n 1, 1) := by decide +kernel
theorem dX1_size_25 : decode cX1_size 25 = .ok (.ireturn, 1) := by decide +kernel
set_option maxRecDepth 20000 in
theorem ggX1_fewest_X1_brokenBy : GoodIn wsX1_fewest wsX1_brokenBy := goodIn_r _ [7, 8, 9, 10, 11, 12, 13, 14, 15, 6, 16, 20, 21, 22, 23, 24, 25, 26, 27, 28, 29] (by decide +kernel) (by decide +kernel)
set_option maxRecDepth 20000 in
theorem gX1_fewest_X1_brokenBy : GoodIn wsX1_fewest (wsV RX1 81 RX1 yX1_brokenBy wsX1_brokenBy) := goodIn_app (goodIn_of _ (by decide +kernel)) ggX1_fewest_X1_brokenBy
set_option maxRecDepth 20000 in
theorem ggX1_fewest_X1_size : GoodIn wsX1_fewest wsX1_size := goodIn_r _ [19] (by decide +kernel) (by decide +kernel)
set_option maxRecDepth 20000 in
theorem gX1_fewest_X1_size : GoodIn wsX1_fewest (va_wsS RX1 103 yX1_size wsX1_size) := goodIn_app (goodIn_of _ (by decide +kernel)) ggX1_fewest_X1_size
theorem dX1_fewest_0 : decode cX1_fewest 0 = .ok (.aload_n 0, 1) := by decide +kernel
theorem dX1_fewest_1 : decode cX1_fewest 1 = .ok (.iconst 0, 1) := by decide +kernel
theorem dX1_fewest_2 : decode cX1_fewest 2 = .ok (.putfield 33, 3) := by decide +kernel
theorem dX1_fewest_5 : decode cX1_fewest 5 = .ok (.iconst (-1), 1) := by decide +kernel
theorem dX1_fewest_6 : decode cX1_fewest 6 = .ok (.istore_n 1, 1) := by decide +kernel
theorem dX1_fewest_7 : decode cX1_fewest 7 = .ok (.iconst 0, 1) := by decide +kernel
theorem dX1_fewest_8 : decode cX1_fewest 8 = .ok (.istore_n 2, 1) := by decide +kernel
theorem dX1_fewest_9 : decode cX1_fewest 9 = .ok (.iload_n 2, 1) := by decide +kernel
theorem dX1_fewest_10 : decode cX1_fewest 10 = .ok (.iconst 1, 1) := by decide +kernel
theorem dX1_fewest_11 : decode cX1_fewest 11 = .ok (.aload_n 0, 1) := by decide +kernel
theorem dX1_fewest_12 : decode cX1_fewest 12 = .ok (.getfield 36, 3) := by decide +kernel
theorem dX1_fewest_15 : decode cX1_fewest 15 = .ok (.ishl, 1) := by decide +kernel
theorem dX1_fewest_16 : decode cX1_fewest 16 = .ok (.if_icmp .ge 36, 3) := by decide +kernel
theorem dX1_fewest_19 : decode cX1_fewest 19 = .ok (.aload_n 0, 1) := by decide +kernel
theorem dX1_fewest_20 : decode cX1_fewest 20 = .ok (.iload_n 2, 1) := by decide +kernel
theorem dX1_fewest_21 : decode cX1_fewest 21 = .ok (.invokevirtual 81, 3) := by decide +kernel
theorem dX1_fewest_24 : decode cX1_fewest 24 = .ok (.iconst (-1), 1) := by decide +kernel
theorem dX1_fewest_25 : decode cX1_fewest 25 = .ok (.if_icmp .ne 21, 3) := by decide +kernel
theorem dX1_fewest_28 : decode cX1_fewest 28 = .ok (.iload_n 1, 1) := by decide +kernel
theorem dX1_fewest_29 : decode cX1_fewest 29 = .ok (.iconst (-1), 1) := by decide +kernel
theorem dX1_fewest_30 : decode cX1_fewest 30 = .ok (.if_icmp .eq 11, 3) := by decide +kernel
theorem dX1_fewest_33 : decode cX1_fewest 33 = .ok (.iload_n 2, 1) := by decide +kernel
theorem dX1_fewest_34 : decode cX1_fewest 34 = .ok (.invokestatic 103, 3) := by decide +kernel
theorem dX1_fewest_37 : decode cX1_fewest 37 = .ok (.iload_n 1, 1) := by decide +kernel
theorem dX1_fewest_38 : decode cX1_fewest 38 = .ok (.if_icmp .ge 8, 3) := by decide +kernel
theorem dX1_fewest_41 : decode cX1_fewest 41 = .ok (.iload_n 2, 1) := by decide +kernel
theorem dX1_fewest_42 : decode cX1_fewest 42 = .ok (.invokestatic 103, 3) := by decide +kernel
theorem dX1_fewest_45 : decode cX1_fewest 45 = .ok (.istore_n 1, 1) := by decide +kernel
theorem dX1_fewest_46 : decode cX1_fewest 46 = .ok (.iinc 2 1, 3) := by decide +kernel
theorem dX1_fewest_49 : decode cX1_fewest 49 = .ok (.goto (-40), 3) := by decide +kernel
theorem dX1_fewest_52 : decode cX1_fewest 52 = .ok (.iload_n 1, 1) := by decide +kernel
theorem dX1_fewest_53 : decode cX1_fewest 53 = .ok (.ireturn, 1) := by decide +kernel
set_option maxRecDepth 20000 in
theorem ggX1_most_X1_brokenBy : GoodIn wsX1_most wsX1_brokenBy := goodIn_r _ [11, 12, 13, 14, 15, 16, 17, 18, 19, 10, 20, 24, 25, 26, 27, 28, 29, 30, 31, 32, 33] (by decide +kernel) (by decide +kernel)
set_option maxRecDepth 20000 in
theorem gX1_most_X1_brokenBy : GoodIn wsX1_most (wsV RX1 81 RX1 yX1_brokenBy wsX1_brokenBy) := goodIn_app (goodIn_of _ (by decide +kernel)) ggX1_most_X1_brokenBy
set_option maxRecDepth 20000 in
theorem ggX1_most_X1_size : GoodIn wsX1_most wsX1_size := goodIn_r _ [23] (by decide +kernel) (by decide +kernel)
set_option maxRecDepth 20000 in
theorem gX1_most_X1_size : GoodIn wsX1_most (va_wsS RX1 103 yX1_size wsX1_size) := goodIn_app (goodIn_of _ (by decide +kernel)) ggX1_most_X1_size
theorem dX1_most_0 : decode cX1_most 0 = .ok (.aload_n 0, 1) := by decide +kernel
theorem dX1_most_1 : decode cX1_most 1 = .ok (.iconst 0, 1) := by decide +kernel
theorem dX1_most_2 : decode cX1_most 2 = .ok (.putfield 33, 3) := by decide +kernel
theorem dX1_most_5 : decode cX1_most 5 = .ok (.iconst (-1), 1) := by decide +kernel
theorem dX1_most_6 : decode cX1_most 6 = .ok (.istore_n 1, 1) := by decide +kernel
theorem dX1_most_7 : decode cX1_most 7 = .ok (.iconst 0, 1) := by decide +kernel
theorem dX1_most_8 : decode cX1_most 8 = .ok (.istore_n 2, 1) := by decide +kernel
theorem dX1_most_9 : decode cX1_most 9 = .ok (.iload_n 2, 1) := by decide +kernel
theorem dX1_most_10 : decode cX1_most 10 = .ok (.iconst 1, 1) := by decide +kernel
theorem dX1_most_11 : decode cX1_most 11 = .ok (.aload_n 0, 1) := by decide +kernel
theorem dX1_most_12 : decode cX1_most 12 = .ok (.getfield 36, 3) := by decide +kernel
theorem dX1_most_15 : decode cX1_most 15 = .ok (.ishl, 1) := by decide +kernel
theorem dX1_most_16 : decode cX1_most 16 = .ok (.if_icmp .ge 27, 3) := by decide +kernel
theorem dX1_most_19 : decode cX1_most 19 = .ok (.aload_n 0, 1) := by decide +kernel
theorem dX1_most_20 : decode cX1_most 20 = .ok (.iload_n 2, 1) := by decide +kernel
theorem dX1_most_21 : decode cX1_most 21 = .ok (.invokevirtual 81, 3) := by decide +kernel
theorem dX1_most_24 : decode cX1_most 24 = .ok (.iconst (-1), 1) := by decide +kernel
theorem dX1_most_25 : decode cX1_most 25 = .ok (.if_icmp .ne 12, 3) := by decide +kernel
theorem dX1_most_28 : decode cX1_most 28 = .ok (.iload_n 1, 1) := by decide +kernel
theorem dX1_most_29 : decode cX1_most 29 = .ok (.iload_n 2, 1) := by decide +kernel
theorem dX1_most_30 : decode cX1_most 30 = .ok (.invokestatic 103, 3) := by decide +kernel
theorem dX1_most_33 : decode cX1_most 33 = .ok (.invokestatic 106, 3) := by decide +kernel
theorem dX1_most_36 : decode cX1_most 36 = .ok (.istore_n 1, 1) := by decide +kernel
theorem dX1_most_37 : decode cX1_most 37 = .ok (.iinc 2 1, 3) := by decide +kernel
theorem dX1_most_40 : decode cX1_most 40 = .ok (.goto (-31), 3) := by decide +kernel
theorem dX1_most_43 : decode cX1_most 43 = .ok (.iload_n 1, 1) := by decide +kernel
theorem dX1_most_44 : decode cX1_most 44 = .ok (.ireturn, 1) := by decide +kernel
set_option maxRecDepth 20000 in
theorem ggX1_broken_X1_isIn : GoodIn wsX1_broken wsX1_isIn := goodIn_r _ [6] (by decide +kernel) (by decide +kernel)
set_option maxRecDepth 20000 in
theorem gX1_broken_X1_isIn : GoodIn wsX1_broken (va_wsS RX1 39 yX1_isIn wsX1_isIn) := goodIn_app (goodIn_of _ (by decide +kernel)) ggX1_broken_X1_isIn
set_option maxRecDepth 20000 in
theorem ggX1_broken_X1_brokenBy : GoodIn wsX1_broken wsX1_brokenBy := goodIn_r _ [10, 11, 12, 13, 14, 15, 16, 17, 18, 5, 19, 24, 25, 26, 27, 28, 29, 30, 31, 32, 33] (by decide +kernel) (by decide +kernel)
set_option maxRecDepth 20000 in
theorem gX1_broken_X1_brokenBy : GoodIn wsX1_broken (wsV RX1 81 RX1 yX1_brokenBy wsX1_brokenBy) := goodIn_app (goodIn_of _ (by decide +kernel)) ggX1_broken_X1_brokenBy
set_option maxRecDepth 20000 in
theorem ggX1_broken_X1_fail : GoodIn wsX1_broken wsX1_fail := goodIn_r _ [23, 1, 24, 25, 26, 27, 28, 29, 30, 31, 32, 33] (by decide +kernel) (by decide +kernel)
set_option maxRecDepth 20000 in
theorem gX1_broken_X1_fail : GoodIn wsX1_broken (wsV RX1 43 RX1 yX1_fail wsX1_fail) := goodIn_app (goodIn_of _ (by decide +kernel)) ggX1_broken_X1_fail
theorem dX1_broken_0 : decode cX1_broken 0 = .ok (.aload_n 0, 1) := by decide +kernel
theorem dX1_broken_1 : decode cX1_broken 1 = .ok (.iconst 0, 1) := by decide +kernel
theorem dX1_broken_2 : decode cX1_broken 2 = .ok (.putfield 33, 3) := by decide +kernel
theorem dX1_broken_5 : decode cX1_broken 5 = .ok (.iload_n 1, 1) := by decide +kernel
theorem dX1_broken_6 : decode cX1_broken 6 = .ok (.iconst 0, 1) := by decide +kernel
theorem dX1_broken_7 : decode cX1_broken 7 = .ok (.iconst 1, 1) := by decide +kernel
theorem dX1_broken_8 : decode cX1_broken 8 = .ok (.aload_n 0, 1) := by decide +kernel
theorem dX1_broken_9 : decode cX1_broken 9 = .ok (.getfield 36, 3) := by decide +kernel
theorem dX1_broken_12 : decode cX1_broken 12 = .ok (.ishl, 1) := by decide +kernel
theorem dX1_broken_13 : decode cX1_broken 13 = .ok (.iconst 1, 1) := by decide +kernel
theorem dX1_broken_14 : decode cX1_broken 14 = .ok (.isub, 1) := by decide +kernel
theorem dX1_broken_15 : decode cX1_broken 15 = .ok (.invokestatic 39, 3) := by decide +kernel
theorem dX1_broken_18 : decode cX1_broken 18 = .ok (.ifCond .eq 11, 3) := by decide +kernel
theorem dX1_broken_21 : decode cX1_broken 21 = .ok (.aload_n 0, 1) := by decide +kernel
theorem dX1_broken_22 : decode cX1_broken 22 = .ok (.iload_n 1, 1) := by decide +kernel
theorem dX1_broken_23 : decode cX1_broken 23 = .ok (.invokevirtual 81, 3) := by decide +kernel
theorem dX1_broken_26 : decode cX1_broken 26 = .ok (.goto 8, 3) := by decide +kernel
theorem dX1_broken_29 : decode cX1_broken 29 = .ok (.aload_n 0, 1) := by decide +kernel
theorem dX1_broken_30 : decode cX1_broken 30 = .ok (.iconst 1, 1) := by decide +kernel
theorem dX1_broken_31 : decode cX1_broken 31 = .ok (.invokevirtual 43, 3) := by decide +kernel
theorem dX1_broken_34 : decode cX1_broken 34 = .ok (.ireturn, 1) := by decide +kernel
set_option maxRecDepth 20000 in
theorem ggX1_blame_X1_all : GoodIn wsX1_blame wsX1_all := goodIn_r _ [8, 9, 10, 11, 7, 12, 13, 14, 15, 16, 17, 2, 3, 18, 19, 20, 21, 22, 23, 24, 25, 26, 27, 28, 29, 30, 31, 32, 33, 34] (by decide +kernel) (by decide +kernel)
set_option maxRecDepth 20000 in
theorem gX1_blame_X1_all : GoodIn wsX1_blame (wsV RX1 87 RX1 yX1_all wsX1_all) := goodIn_app (goodIn_of _ (by decide +kernel)) ggX1_blame_X1_all
theorem dX1_blame_0 : decode cX1_blame 0 = .ok (.aload_n 0, 1) := by decide +kernel
theorem dX1_blame_1 : decode cX1_blame 1 = .ok (.iconst 0, 1) := by decide +kernel
theorem dX1_blame_2 : decode cX1_blame 2 = .ok (.putfield 33, 3) := by decide +kernel
theorem dX1_blame_5 : decode cX1_blame 5 = .ok (.aload_n 0, 1) := by decide +kernel
theorem dX1_blame_6 : decode cX1_blame 6 = .ok (.invokevirtual 87, 3) := by decide +kernel
theorem dX1_blame_9 : decode cX1_blame 9 = .ok (.ifCond .le 5, 3) := by decide +kernel
theorem dX1_blame_12 : decode cX1_blame 12 = .ok (.iconst (-1), 1) := by decide +kernel
theorem dX1_blame_13 : decode cX1_blame 13 = .ok (.ireturn, 1) := by decide +kernel
theorem dX1_blame_14 : decode cX1_blame 14 = .ok (.iconst 0, 1) := by decide +kernel
theorem dX1_blame_15 : decode cX1_blame 15 = .ok (.istore_n 1, 1) := by decide +kernel
theorem dX1_blame_16 : decode cX1_blame 16 = .ok (.iload_n 1, 1) := by decide +kernel
theorem dX1_blame_17 : decode cX1_blame 17 = .ok (.aload_n 0, 1) := by decide +kernel
theorem dX1_blame_18 : decode cX1_blame 18 = .ok (.getfield 51, 3) := by decide +kernel
theorem dX1_blame_21 : decode cX1_blame 21 = .ok (.if_icmp .ge 46, 3) := by decide +kernel
theorem dX1_blame_24 : decode cX1_blame 24 = .ok (.aload_n 0, 1) := by decide +kernel
theorem dX1_blame_25 : decode cX1_blame 25 = .ok (.getfield 16, 3) := by decide +kernel
theorem dX1_blame_28 : decode cX1_blame 28 = .ok (.iload_n 1, 1) := by decide +kernel
theorem dX1_blame_29 : decode cX1_blame 29 = .ok (.baload, 1) := by decide +kernel
theorem dX1_blame_30 : decode cX1_blame 30 = .ok (.ifCond .eq 6, 3) := by decide +kernel
theorem dX1_blame_33 : decode cX1_blame 33 = .ok (.goto 28, 3) := by decide +kernel
theorem dX1_blame_36 : decode cX1_blame 36 = .ok (.aload_n 0, 1) := by decide +kernel
theorem dX1_blame_37 : decode cX1_blame 37 = .ok (.getfield 16, 3) := by decide +kernel
theorem dX1_blame_40 : decode cX1_blame 40 = .ok (.iload_n 1, 1) := by decide +kernel
theorem dX1_blame_41 : decode cX1_blame 41 = .ok (.iconst 1, 1) := by decide +kernel
theorem dX1_blame_42 : decode cX1_blame 42 = .ok (.bastore, 1) := by decide +kernel
theorem dX1_blame_43 : decode cX1_blame 43 = .ok (.aload_n 0, 1) := by decide +kernel
theorem dX1_blame_44 : decode cX1_blame 44 = .ok (.invokevirtual 87, 3) := by decide +kernel
theorem dX1_blame_47 : decode cX1_blame 47 = .ok (.istore_n 2, 1) := by decide +kernel
theorem dX1_blame_48 : decode cX1_blame 48 = .ok (.aload_n 0, 1) := by decide +kernel
theorem dX1_blame_49 : decode cX1_blame 49 = .ok (.getfield 16, 3) := by decide +kernel
theorem dX1_blame_52 : decode cX1_blame 52 = .ok (.iload_n 1, 1) := by decide +kernel
theorem dX1_blame_53 : decode cX1_blame 53 = .ok (.iconst 0, 1) := by decide +kernel
theorem dX1_blame_54 : decode cX1_blame 54 = .ok (.bastore, 1) := by decide +kernel
theorem dX1_blame_55 : decode cX1_blame 55 = .ok (.iload_n 2, 1) := by decide +kernel
theorem dX1_blame_56 : decode cX1_blame 56 = .ok (.ifCond .le 5, 3) := by decide +kernel
theorem dX1_blame_59 : decode cX1_blame 59 = .ok (.iload_n 1, 1) := by decide +kernel
theorem dX1_blame_60 : decode cX1_blame 60 = .ok (.ireturn, 1) := by decide +kernel
theorem dX1_blame_61 : decode cX1_blame 61 = .ok (.iinc 1 1, 3) := by decide +kernel
theorem dX1_blame_64 : decode cX1_blame 64 = .ok (.goto (-48), 3) := by decide +kernel
theorem dX1_blame_67 : decode cX1_blame 67 = .ok (.iconst (-1), 1) := by decide +kernel
theorem dX1_blame_68 : decode cX1_blame 68 = .ok (.ireturn, 1) := by decide +kernel
set_option maxRecDepth 20000 in
theorem ggX1_tightens_X1_isWish : GoodIn wsX1_tightens wsX1_isWish := goodIn_r _ [8, 9, 10, 11, 7, 12, 36, 37, 38, 39, 40, 41, 42, 43, 44, 45] (by decide +kernel) (by decide +kernel)
set_option maxRecDepth 20000 in
theorem gX1_tightens_X1_isWish : GoodIn wsX1_tightens (wsV RX1 47 RX1 yX1_isWish wsX1_isWish) := goodIn_app (goodIn_of _ (by decide +kernel)) ggX1_tightens_X1_isWish
set_option maxRecDepth 20000 in
theorem ggX1_tightens_X1_fail : GoodIn wsX1_tightens wsX1_fail := goodIn_r _ [16, 1, 36, 37, 38, 39, 40, 41, 42, 43, 44, 45] (by decide +kernel) (by decide +kernel)
set_option maxRecDepth 20000 in
theorem gX1_tightens_X1_fail : GoodIn wsX1_tightens (wsV RX1 43 RX1 yX1_fail wsX1_fail) := goodIn_app (goodIn_of _ (by decide +kernel)) ggX1_tightens_X1_fail
set_option maxRecDepth 20000 in
theorem ggX1_tightens_X1_all : GoodIn wsX1_tightens wsX1_all := goodIn_r _ [20, 21, 22, 23, 7, 24, 9, 25, 26, 27, 28, 29, 30, 31, 32, 2, 3, 33, 34, 35, 36, 37, 38, 39, 40, 41, 42, 43, 44, 45] (by decide +kernel) (by decide +kernel)
set_option maxRecDepth 20000 in
theorem gX1_tightens_X1_all : GoodIn wsX1_tightens (wsV RX1 87 RX1 yX1_all wsX1_all) := goodIn_app (goodIn_of _ (by decide +kernel)) ggX1_tightens_X1_all
theorem dX1_tightens_0 : decode cX1_tightens 0 = .ok (.aload_n 0, 1) := by decide +kernel
theorem dX1_tightens_1 : decode cX1_tightens 1 = .ok (.iconst 0, 1) := by decide +kernel
theorem dX1_tightens_2 : decode cX1_tightens 2 = .ok (.putfield 33, 3) := by decide +kernel
theorem dX1_tightens_5 : decode cX1_tightens 5 = .ok (.aload_n 0, 1) := by decide +kernel
theorem dX1_tightens_6 : decode cX1_tightens 6 = .ok (.iload_n 1, 1) := by decide +kernel
theorem dX1_tightens_7 : decode cX1_tightens 7 = .ok (.invokevirtual 47, 3) := by decide +kernel
theorem dX1_tightens_10 : decode cX1_tightens 10 = .ok (.ifCond .eq 11, 3) := by decide +kernel
theorem dX1_tightens_13 : decode cX1_tightens 13 = .ok (.aload_n 0, 1) := by decide +kernel
theorem dX1_tightens_14 : decode cX1_tightens 14 = .ok (.iload_n 2, 1) := by decide +kernel
theorem dX1_tightens_15 : decode cX1_tightens 15 = .ok (.invokevirtual 47, 3) := by decide +kernel
theorem dX1_tightens_18 : decode cX1_tightens 18 = .ok (.ifCond .ne 9, 3) := by decide +kernel
theorem dX1_tightens_21 : decode cX1_tightens 21 = .ok (.aload_n 0, 1) := by decide +kernel
theorem dX1_tightens_22 : decode cX1_tightens 22 = .ok (.iconst 1, 1) := by decide +kernel
theorem dX1_tightens_23 : decode cX1_tightens 23 = .ok (.invokevirtual 43, 3) := by decide +kernel
theorem dX1_tightens_26 : decode cX1_tightens 26 = .ok (.ireturn, 1) := by decide +kernel
theorem dX1_tightens_27 : decode cX1_tightens 27 = .ok (.aload_n 0, 1) := by decide +kernel
theorem dX1_tightens_28 : decode cX1_tightens 28 = .ok (.invokevirtual 87, 3) := by decide +kernel
theorem dX1_tightens_31 : decode cX1_tightens 31 = .ok (.istore_n 3, 1) := by decide +kernel
theorem dX1_tightens_32 : decode cX1_tightens 32 = .ok (.aload_n 0, 1) := by decide +kernel
theorem dX1_tightens_33 : decode cX1_tightens 33 = .ok (.iload_n 1, 1) := by decide +kernel
theorem dX1_tightens_34 : decode cX1_tightens 34 = .ok (.putfield 20, 3) := by decide +kernel
theorem dX1_tightens_37 : decode cX1_tightens 37 = .ok (.aload_n 0, 1) := by decide +kernel
theorem dX1_tightens_38 : decode cX1_tightens 38 = .ok (.iload_n 2, 1) := by decide +kernel
theorem dX1_tightens_39 : decode cX1_tightens 39 = .ok (.putfield 24, 3) := by decide +kernel
theorem dX1_tightens_42 : decode cX1_tightens 42 = .ok (.aload_n 0, 1) := by decide +kernel
theorem dX1_tightens_43 : decode cX1_tightens 43 = .ok (.invokevirtual 87, 3) := by decide +kernel
theorem dX1_tightens_46 : decode cX1_tightens 46 = .ok (.istore 4, 2) := by decide +kernel
theorem dX1_tightens_48 : decode cX1_tightens 48 = .ok (.aload_n 0, 1) := by decide +kernel
theorem dX1_tightens_49 : decode cX1_tightens 49 = .ok (.iconst (-1), 1) := by decide +kernel
theorem dX1_tightens_50 : decode cX1_tightens 50 = .ok (.putfield 20, 3) := by decide +kernel
theorem dX1_tightens_53 : decode cX1_tightens 53 = .ok (.aload_n 0, 1) := by decide +kernel
theorem dX1_tightens_54 : decode cX1_tightens 54 = .ok (.iconst (-1), 1) := by decide +kernel
theorem dX1_tightens_55 : decode cX1_tightens 55 = .ok (.putfield 24, 3) := by decide +kernel
theorem dX1_tightens_58 : decode cX1_tightens 58 = .ok (.iload_n 3, 1) := by decide +kernel
theorem dX1_tightens_59 : decode cX1_tightens 59 = .ok (.iload 4, 2) := by decide +kernel
theorem dX1_tightens_61 : decode cX1_tightens 61 = .ok (.isub, 1) := by decide +kernel
theorem dX1_tightens_62 : decode cX1_tightens 62 = .ok (.ireturn, 1) := by decide +kernel
set_option maxRecDepth 20000 in
theorem ggX1_counted_X1_isTorn : GoodIn wsX1_counted wsX1_isTorn := goodIn_r _ [8, 9, 10, 11, 7, 12, 13, 14, 15, 16, 17, 18, 19, 20, 21, 22, 23, 24, 25, 2, 3, 26, 27, 28, 29, 30, 31, 32, 33, 34, 35, 36, 37, 38, 39, 40, 41] (by decide +kernel) (by decide +kernel)
set_option maxRecDepth 20000 in
theorem gX1_counted_X1_isTorn : GoodIn wsX1_counted (wsV RX1 94 RX1 yX1_isTorn wsX1_isTorn) := goodIn_app (goodIn_of _ (by decide +kernel)) ggX1_counted_X1_isTorn
set_option maxRecDepth 20000 in
theorem ggX1_counted_X1_isVain : GoodIn wsX1_counted wsX1_isVain := goodIn_r _ [12, 13, 14, 7, 15, 16, 17, 18, 19, 20, 21, 22, 23, 24, 25, 2, 3, 26, 27, 28, 29, 30, 31, 32, 33, 34, 35, 36, 37, 38, 39, 40, 41] (by decide +kernel) (by decide +kernel)
set_option maxRecDepth 20000 in
theorem gX1_counted_X1_isVain : GoodIn wsX1_counted (wsV RX1 75 RX1 yX1_isVain wsX1_isVain) := goodIn_app (goodIn_of _ (by decide +kernel)) ggX1_counted_X1_isVain
set_option maxRecDepth 20000 in
theorem ggX1_counted_X1_spread : GoodIn wsX1_counted wsX1_spread := goodIn_r _ [24, 20, 25, 2, 3, 26, 27, 28, 29, 30, 7, 31, 13, 14, 15, 32, 33, 34, 35, 36, 37, 38, 39, 40, 41] (by decide +kernel) (by decide +kernel)
set_option maxRecDepth 20000 in
theorem gX1_counted_X1_spread : GoodIn wsX1_counted (wsV RX1 65 RX1 yX1_spread wsX1_spread) := goodIn_app (goodIn_of _ (by decide +kernel)) ggX1_counted_X1_spread
theorem dX1_counted_0 : decode cX1_counted 0 = .ok (.iconst 0, 1) := by decide +kernel
theorem dX1_counted_1 : decode cX1_counted 1 = .ok (.istore_n 2, 1) := by decide +kernel
theorem dX1_counted_2 : decode cX1_counted 2 = .ok (.iload_n 1, 1) := by decide +kernel
theorem dX1_counted_3 : decode cX1_counted 3 = .ok (.tableswitch 148 0 4 #[33, 38, 43, 78, 112], 33) := by decide +kernel
theorem dX1_counted_36 : decode cX1_counted 36 = .ok (.aload_n 0, 1) := by decide +kernel
theorem dX1_counted_37 : decode cX1_counted 37 = .ok (.getfield 36, 3) := by decide +kernel
theorem dX1_counted_40 : decode cX1_counted 40 = .ok (.ireturn, 1) := by decide +kernel
theorem dX1_counted_41 : decode cX1_counted 41 = .ok (.aload_n 0, 1) := by decide +kernel
theorem dX1_counted_42 : decode cX1_counted 42 = .ok (.getfield 51, 3) := by decide +kernel
theorem dX1_counted_45 : decode cX1_counted 45 = .ok (.ireturn, 1) := by decide +kernel
theorem dX1_counted_46 : decode cX1_counted 46 = .ok (.iconst 0, 1) := by decide +kernel
theorem dX1_counted_47 : decode cX1_counted 47 = .ok (.istore_n 3, 1) := by decide +kernel
theorem dX1_counted_48 : decode cX1_counted 48 = .ok (.iload_n 3, 1) := by decide +kernel
theorem dX1_counted_49 : decode cX1_counted 49 = .ok (.aload_n 0, 1) := by decide +kernel
theorem dX1_counted_50 : decode cX1_counted 50 = .ok (.getfield 51, 3) := by decide +kernel
theorem dX1_counted_53 : decode cX1_counted 53 = .ok (.if_icmp .ge 26, 3) := by decide +kernel
theorem dX1_counted_56 : decode cX1_counted 56 = .ok (.iload_n 2, 1) := by decide +kernel
theorem dX1_counted_57 : decode cX1_counted 57 = .ok (.aload_n 0, 1) := by decide +kernel
theorem dX1_counted_58 : decode cX1_counted 58 = .ok (.getfield 16, 3) := by decide +kernel
theorem dX1_counted_61 : decode cX1_counted 61 = .ok (.iload_n 3, 1) := by decide +kernel
theorem dX1_counted_62 : decode cX1_counted 62 = .ok (.baload, 1) := by decide +kernel
theorem dX1_counted_63 : decode cX1_counted 63 = .ok (.ifCond .eq 7, 3) := by decide +kernel
theorem dX1_counted_66 : decode cX1_counted 66 = .ok (.iconst 0, 1) := by decide +kernel
theorem dX1_counted_67 : decode cX1_counted 67 = .ok (.goto 4, 3) := by decide +kernel
theorem dX1_counted_70 : decode cX1_counted 70 = .ok (.iconst 1, 1) := by decide +kernel
theorem dX1_counted_71 : decode cX1_counted 71 = .ok (.iadd, 1) := by decide +kernel
theorem dX1_counted_72 : decode cX1_counted 72 = .ok (.istore_n 2, 1) := by decide +kernel
theorem dX1_counted_73 : decode cX1_counted 73 = .ok (.iinc 3 1, 3) := by decide +kernel
theorem dX1_counted_76 : decode cX1_counted 76 = .ok (.goto (-28), 3) := by decide +kernel
theorem dX1_counted_79 : decode cX1_counted 79 = .ok (.iload_n 2, 1) := by decide +kernel
theorem dX1_counted_80 : decode cX1_counted 80 = .ok (.ireturn, 1) := by decide +kernel
theorem dX1_counted_81 : decode cX1_counted 81 = .ok (.iconst 0, 1) := by decide +kernel
theorem dX1_counted_82 : decode cX1_counted 82 = .ok (.istore_n 3, 1) := by decide +kernel
theorem dX1_counted_83 : decode cX1_counted 83 = .ok (.iload_n 3, 1) := by decide +kernel
theorem dX1_counted_84 : decode cX1_counted 84 = .ok (.aload_n 0, 1) := by decide +kernel
theorem dX1_counted_85 : decode cX1_counted 85 = .ok (.getfield 36, 3) := by decide +kernel
theorem dX1_counted_88 : decode cX1_counted 88 = .ok (.if_icmp .ge 25, 3) := by decide +kernel
theorem dX1_counted_91 : decode cX1_counted 91 = .ok (.iload_n 2, 1) := by decide +kernel
theorem dX1_counted_92 : decode cX1_counted 92 = .ok (.aload_n 0, 1) := by decide +kernel
theorem dX1_counted_93 : decode cX1_counted 93 = .ok (.iload_n 3, 1) := by decide +kernel
theorem dX1_counted_94 : decode cX1_counted 94 = .ok (.invokevirtual 94, 3) := by decide +kernel
theorem dX1_counted_97 : decode cX1_counted 97 = .ok (.ifCond .eq 7, 3) := by decide +kernel
theorem dX1_counted_100 : decode cX1_counted 100 = .ok (.iconst 1, 1) := by decide +kernel
theorem dX1_counted_101 : decode cX1_counted 101 = .ok (.goto 4, 3) := by decide +kernel
theorem dX1_counted_104 : decode cX1_counted 104 = .ok (.iconst 0, 1) := by decide +kernel
theorem dX1_counted_105 : decode cX1_counted 105 = .ok (.iadd, 1) := by decide +kernel
theorem dX1_counted_106 : decode cX1_counted 106 = .ok (.istore_n 2, 1) := by decide +kernel
theorem dX1_counted_107 : decode cX1_counted 107 = .ok (.iinc 3 1, 3) := by decide +kernel
theorem dX1_counted_110 : decode cX1_counted 110 = .ok (.goto (-27), 3) := by decide +kernel
theorem dX1_counted_113 : decode cX1_counted 113 = .ok (.iload_n 2, 1) := by decide +kernel
theorem dX1_counted_114 : decode cX1_counted 114 = .ok (.ireturn, 1) := by decide +kernel
theorem dX1_counted_115 : decode cX1_counted 115 = .ok (.iconst 0, 1) := by decide +kernel
theorem dX1_counted_116 : decode cX1_counted 116 = .ok (.istore_n 3, 1) := by decide +kernel
theorem dX1_counted_117 : decode cX1_counted 117 = .ok (.iload_n 3, 1) := by decide +kernel
theorem dX1_counted_118 : decode cX1_counted 118 = .ok (.iconst 2, 1) := by decide +kernel
theorem dX1_counted_119 : decode cX1_counted 119 = .ok (.aload_n 0, 1) := by decide +kernel
theorem dX1_counted_120 : decode cX1_counted 120 = .ok (.getfield 36, 3) := by decide +kernel
theorem dX1_counted_123 : decode cX1_counted 123 = .ok (.imul, 1) := by decide +kernel
theorem dX1_counted_124 : decode cX1_counted 124 = .ok (.if_icmp .ge 25, 3) := by decide +kernel
theorem dX1_counted_127 : decode cX1_counted 127 = .ok (.iload_n 2, 1) := by decide +kernel
theorem dX1_counted_128 : decode cX1_counted 128 = .ok (.aload_n 0, 1) := by decide +kernel
theorem dX1_counted_129 : decode cX1_counted 129 = .ok (.iload_n 3, 1) := by decide +kernel
theorem dX1_counted_130 : decode cX1_counted 130 = .ok (.invokevirtual 75, 3) := by decide +kernel
theorem dX1_counted_133 : decode cX1_counted 133 = .ok (.ifCond .eq 7, 3) := by decide +kernel
theorem dX1_counted_136 : decode cX1_counted 136 = .ok (.iconst 1, 1) := by decide +kernel
theorem dX1_counted_137 : decode cX1_counted 137 = .ok (.goto 4, 3) := by decide +kernel
theorem dX1_counted_140 : decode cX1_counted 140 = .ok (.iconst 0, 1) := by decide +kernel
theorem dX1_counted_141 : decode cX1_counted 141 = .ok (.iadd, 1) := by decide +kernel
theorem dX1_counted_142 : decode cX1_counted 142 = .ok (.istore_n 2, 1) := by decide +kernel
theorem dX1_counted_143 : decode cX1_counted 143 = .ok (.iinc 3 1, 3) := by decide +kernel
theorem dX1_counted_146 : decode cX1_counted 146 = .ok (.goto (-29), 3) := by decide +kernel
theorem dX1_counted_149 : decode cX1_counted 149 = .ok (.iload_n 2, 1) := by decide +kernel
theorem dX1_counted_150 : decode cX1_counted 150 = .ok (.ireturn, 1) := by decide +kernel
theorem dX1_counted_151 : decode cX1_counted 151 = .ok (.iconst 0, 1) := by decide +kernel
theorem dX1_counted_152 : decode cX1_counted 152 = .ok (.istore_n 3, 1) := by decide +kernel
theorem dX1_counted_153 : decode cX1_counted 153 = .ok (.iload_n 3, 1) := by decide +kernel
theorem dX1_counted_154 : decode cX1_counted 154 = .ok (.iconst 2, 1) := by decide +kernel
theorem dX1_counted_155 : decode cX1_counted 155 = .ok (.aload_n 0, 1) := by decide +kernel
theorem dX1_counted_156 : decode cX1_counted 156 = .ok (.getfield 36, 3) := by decide +kernel
theorem dX1_counted_159 : decode cX1_counted 159 = .ok (.imul, 1) := by decide +kernel
theorem dX1_counted_160 : decode cX1_counted 160 = .ok (.if_icmp .ge 19, 3) := by decide +kernel
theorem dX1_counted_163 : decode cX1_counted 163 = .ok (.iload_n 2, 1) := by decide +kernel
theorem dX1_counted_164 : decode cX1_counted 164 = .ok (.aload_n 0, 1) := by decide +kernel
theorem dX1_counted_165 : decode cX1_counted 165 = .ok (.iload_n 3, 1) := by decide +kernel
theorem dX1_counted_166 : decode cX1_counted 166 = .ok (.invokevirtual 65, 3) := by decide +kernel
theorem dX1_counted_169 : decode cX1_counted 169 = .ok (.iconst 1, 1) := by decide +kernel
theorem dX1_counted_170 : decode cX1_counted 170 = .ok (.isub, 1) := by decide +kernel
theorem dX1_counted_171 : decode cX1_counted 171 = .ok (.iadd, 1) := by decide +kernel
theorem dX1_counted_172 : decode cX1_counted 172 = .ok (.istore_n 2, 1) := by decide +kernel
theorem dX1_counted_173 : decode cX1_counted 173 = .ok (.iinc 3 1, 3) := by decide +kernel
theorem dX1_counted_176 : decode cX1_counted 176 = .ok (.goto (-23), 3) := by decide +kernel
theorem dX1_counted_179 : decode cX1_counted 179 = .ok (.iload_n 2, 1) := by decide +kernel
theorem dX1_counted_180 : decode cX1_counted 180 = .ok (.ireturn, 1) := by decide +kernel
set_option maxRecDepth 20000 in
theorem ggX1_count_X1_isIn : GoodIn wsX1_count wsX1_isIn := goodIn_r _ [5] (by decide +kernel) (by decide +kernel)
set_option maxRecDepth 20000 in
theorem gX1_count_X1_isIn : GoodIn wsX1_count (va_wsS RX1 39 yX1_isIn wsX1_isIn) := goodIn_app (goodIn_of _ (by decide +kernel)) ggX1_count_X1_isIn
set_option maxRecDepth 20000 in
theorem ggX1_count_X1_counted : GoodIn wsX1_count wsX1_counted := goodIn_r _ [9, 10, 11, 12, 13, 14, 15, 4, 16, 17, 18, 19, 20, 21, 22, 23, 24, 25, 26, 27, 28, 29, 30, 31, 32, 33, 34, 35, 36, 37, 38, 39, 44, 45, 46, 47, 48, 49, 50, 51, 52, 53] (by decide +kernel) (by decide +kernel)
set_option maxRecDepth 20000 in
theorem gX1_count_X1_counted : GoodIn wsX1_count (wsV RX1 111 RX1 yX1_counted wsX1_counted) := goodIn_app (goodIn_of _ (by decide +kernel)) ggX1_count_X1_counted
set_option maxRecDepth 20000 in
theorem ggX1_count_X1_fail : GoodIn wsX1_count wsX1_fail := goodIn_r _ [43, 1, 44, 45, 46, 47, 48, 49, 50, 51, 52, 53] (by decide +kernel) (by decide +kernel)
set_option maxRecDepth 20000 in
theorem gX1_count_X1_fail : GoodIn wsX1_count (wsV RX1 43 RX1 yX1_fail wsX1_fail) := goodIn_app (goodIn_of _ (by decide +kernel)) ggX1_count_X1_fail
theorem dX1_count_0 : decode cX1_count 0 = .ok (.aload_n 0, 1) := by decide +kernel
theorem dX1_count_1 : decode cX1_count 1 = .ok (.iconst 0, 1) := by decide +kernel
theorem dX1_count_2 : decode cX1_count 2 = .ok (.putfield 33, 3) := by decide +kernel
theorem dX1_count_5 : decode cX1_count 5 = .ok (.iload_n 1, 1) := by decide +kernel
theorem dX1_count_6 : decode cX1_count 6 = .ok (.iconst 0, 1) := by decide +kernel
theorem dX1_count_7 : decode cX1_count 7 = .ok (.iconst 5, 1) := by decide +kernel
theorem dX1_count_8 : decode cX1_count 8 = .ok (.invokestatic 39, 3) := by decide +kernel
theorem dX1_count_11 : decode cX1_count 11 = .ok (.ifCond .eq 11, 3) := by decide +kernel
theorem dX1_count_14 : decode cX1_count 14 = .ok (.aload_n 0, 1) := by decide +kernel
theorem dX1_count_15 : decode cX1_count 15 = .ok (.iload_n 1, 1) := by decide +kernel
theorem dX1_count_16 : decode cX1_count 16 = .ok (.invokevirtual 111, 3) := by decide +kernel
theorem dX1_count_19 : decode cX1_count 19 = .ok (.goto 8, 3) := by decide +kernel
theorem dX1_count_22 : decode cX1_count 22 = .ok (.aload_n 0, 1) := by decide +kernel
theorem dX1_count_23 : decode cX1_count 23 = .ok (.iconst 1, 1) := by decide +kernel
theorem dX1_count_24 : decode cX1_count 24 = .ok (.invokevirtual 43, 3) := by decide +kernel
theorem dX1_count_27 : decode cX1_count 27 = .ok (.ireturn, 1) := by decide +kernel
set_option maxRecDepth 20000 in
theorem ggX1_mean_X1_brokenBy : GoodIn wsX1_mean wsX1_brokenBy := goodIn_r _ [7, 8, 9, 10, 11, 12, 13, 14, 15, 6, 16, 28, 29, 30, 31, 32, 33, 34, 35, 36, 37] (by decide +kernel) (by decide +kernel)
set_option maxRecDepth 20000 in
theorem gX1_mean_X1_brokenBy : GoodIn wsX1_mean (wsV RX1 81 RX1 yX1_brokenBy wsX1_brokenBy) := goodIn_app (goodIn_of _ (by decide +kernel)) ggX1_mean_X1_brokenBy
set_option maxRecDepth 20000 in
theorem ggX1_mean_X1_size : GoodIn wsX1_mean wsX1_size := goodIn_r _ [19] (by decide +kernel) (by decide +kernel)
set_option maxRecDepth 20000 in
theorem gX1_mean_X1_size : GoodIn wsX1_mean (va_wsS RX1 103 yX1_size wsX1_size) := goodIn_app (goodIn_of _ (by decide +kernel)) ggX1_mean_X1_size
set_option maxRecDepth 20000 in
theorem ggX1_mean_X1_all : GoodIn wsX1_mean wsX1_all := goodIn_r _ [23, 24, 25, 26, 6, 27, 2, 3, 4, 5, 7, 8, 9, 10, 11, 12, 13, 14, 15, 16, 28, 29, 30, 31, 32, 33, 34, 35, 36, 37] (by decide +kernel) (by decide +kernel)
set_option maxRecDepth 20000 in
theorem gX1_mean_X1_all : GoodIn wsX1_mean (wsV RX1 87 RX1 yX1_all wsX1_all) := goodIn_app (goodIn_of _ (by decide +kernel)) ggX1_mean_X1_all
theorem dX1_mean_0 : decode cX1_mean 0 = .ok (.aload_n 0, 1) := by decide +kernel
theorem dX1_mean_1 : decode cX1_mean 1 = .ok (.iconst 0, 1) := by decide +kernel
theorem dX1_mean_2 : decode cX1_mean 2 = .ok (.putfield 33, 3) := by decide +kernel
theorem dX1_mean_5 : decode cX1_mean 5 = .ok (.iconst 0, 1) := by decide +kernel
theorem dX1_mean_6 : decode cX1_mean 6 = .ok (.istore_n 1, 1) := by decide +kernel
theorem dX1_mean_7 : decode cX1_mean 7 = .ok (.iconst 0, 1) := by decide +kernel
theorem dX1_mean_8 : decode cX1_mean 8 = .ok (.istore_n 2, 1) := by decide +kernel
theorem dX1_mean_9 : decode cX1_mean 9 = .ok (.iload_n 2, 1) := by decide +kernel
theorem dX1_mean_10 : decode cX1_mean 10 = .ok (.iconst 1, 1) := by decide +kernel
theorem dX1_mean_11 : decode cX1_mean 11 = .ok (.aload_n 0, 1) := by decide +kernel
theorem dX1_mean_12 : decode cX1_mean 12 = .ok (.getfield 36, 3) := by decide +kernel
theorem dX1_mean_15 : decode cX1_mean 15 = .ok (.ishl, 1) := by decide +kernel
theorem dX1_mean_16 : decode cX1_mean 16 = .ok (.if_icmp .ge 29, 3) := by decide +kernel
theorem dX1_mean_19 : decode cX1_mean 19 = .ok (.iload_n 1, 1) := by decide +kernel
theorem dX1_mean_20 : decode cX1_mean 20 = .ok (.aload_n 0, 1) := by decide +kernel
theorem dX1_mean_21 : decode cX1_mean 21 = .ok (.iload_n 2, 1) := by decide +kernel
theorem dX1_mean_22 : decode cX1_mean 22 = .ok (.invokevirtual 81, 3) := by decide +kernel
theorem dX1_mean_25 : decode cX1_mean 25 = .ok (.iconst (-1), 1) := by decide +kernel
theorem dX1_mean_26 : decode cX1_mean 26 = .ok (.if_icmp .ne 10, 3) := by decide +kernel
theorem dX1_mean_29 : decode cX1_mean 29 = .ok (.iload_n 2, 1) := by decide +kernel
theorem dX1_mean_30 : decode cX1_mean 30 = .ok (.invokestatic 103, 3) := by decide +kernel
theorem dX1_mean_33 : decode cX1_mean 33 = .ok (.goto 4, 3) := by decide +kernel
theorem dX1_mean_36 : decode cX1_mean 36 = .ok (.iconst 0, 1) := by decide +kernel
theorem dX1_mean_37 : decode cX1_mean 37 = .ok (.iadd, 1) := by decide +kernel
theorem dX1_mean_38 : decode cX1_mean 38 = .ok (.istore_n 1, 1) := by decide +kernel
theorem dX1_mean_39 : decode cX1_mean 39 = .ok (.iinc 2 1, 3) := by decide +kernel
theorem dX1_mean_42 : decode cX1_mean 42 = .ok (.goto (-33), 3) := by decide +kernel
theorem dX1_mean_45 : decode cX1_mean 45 = .ok (.aload_n 0, 1) := by decide +kernel
theorem dX1_mean_46 : decode cX1_mean 46 = .ok (.invokevirtual 87, 3) := by decide +kernel
theorem dX1_mean_49 : decode cX1_mean 49 = .ok (.ifCond .ne 7, 3) := by decide +kernel
theorem dX1_mean_52 : decode cX1_mean 52 = .ok (.dconst 0, 1) := by decide +kernel
theorem dX1_mean_53 : decode cX1_mean 53 = .ok (.goto 11, 3) := by decide +kernel
theorem dX1_mean_56 : decode cX1_mean 56 = .ok (.iload_n 1, 1) := by decide +kernel
theorem dX1_mean_57 : decode cX1_mean 57 = .ok (.i2d, 1) := by decide +kernel
theorem dX1_mean_58 : decode cX1_mean 58 = .ok (.aload_n 0, 1) := by decide +kernel
theorem dX1_mean_59 : decode cX1_mean 59 = .ok (.invokevirtual 87, 3) := by decide +kernel
theorem dX1_mean_62 : decode cX1_mean 62 = .ok (.i2d, 1) := by decide +kernel
theorem dX1_mean_63 : decode cX1_mean 63 = .ok (.ddiv, 1) := by decide +kernel
theorem dX1_mean_64 : decode cX1_mean 64 = .ok (.dreturn, 1) := by decide +kernel
set_option maxRecDepth 20000 in
theorem ggX1_digest_X1_counted : GoodIn wsX1_digest wsX1_counted := goodIn_r _ [10, 5, 4, 11, 12, 13, 14, 9, 15, 16, 17, 18, 19, 20, 21, 22, 23, 24, 25, 26, 27, 28, 29, 30, 31, 32, 33, 34, 35, 36, 37, 38, 76, 77, 78, 79, 80, 81, 82, 83, 84, 85] (by decide +kernel) (by decide +kernel)
set_option maxRecDepth 20000 in
theorem gX1_digest_X1_counted : GoodIn wsX1_digest (wsV RX1 111 RX1 yX1_counted wsX1_counted) := goodIn_app (goodIn_of _ (by decide +kernel)) ggX1_digest_X1_counted
set_option maxRecDepth 20000 in
theorem ggX1_digest_X1_ruleTold : GoodIn wsX1_digest wsX1_ruleTold := goodIn_r _ [42, 33, 34, 11, 76, 77, 78, 79, 80, 81, 82, 83, 84, 85] (by decide +kernel) (by decide +kernel)
set_option maxRecDepth 20000 in
theorem gX1_digest_X1_ruleTold : GoodIn wsX1_digest (wsV RX1 54 RX1 yX1_ruleTold wsX1_ruleTold) := goodIn_app (goodIn_of _ (by decide +kernel)) ggX1_digest_X1_ruleTold
set_option maxRecDepth 20000 in
theorem ggX1_digest_X1_reachOf : GoodIn wsX1_digest wsX1_reachOf := goodIn_r _ [46, 5, 27, 28, 29, 30, 9, 31, 32, 4, 11, 33, 34, 35, 36, 37, 38, 20, 21, 22, 76, 77, 78, 79, 80, 81, 82, 83, 84, 85] (by decide +kernel) (by decide +kernel)
set_option maxRecDepth 20000 in
theorem gX1_digest_X1_reachOf : GoodIn wsX1_digest (wsV RX1 72 RX1 yX1_reachOf wsX1_reachOf) := goodIn_app (goodIn_of _ (by decide +kernel)) ggX1_digest_X1_reachOf
set_option maxRecDepth 20000 in
theorem ggX1_digest_X1_guestTold : GoodIn wsX1_digest wsX1_guestTold := goodIn_r _ [50, 5, 51, 52, 53, 9, 54, 55, 56, 57, 58, 59, 60, 61, 62, 63, 64, 65, 66, 4, 11, 33, 34, 67, 68, 69, 70, 71, 12, 13, 14, 15, 16, 17, 18, 19, 20, 21, 22, 23, 24, 25, 26, 27, 28, 29, 30, 31, 32, 35, 36, 37, 38, 76, 77, 78, 79, 80, 81, 82, 83, 84, 85] (by decide +kernel) (by decide +kernel)
set_option maxRecDepth 20000 in
theorem gX1_digest_X1_guestTold : GoodIn wsX1_digest (wsV RX1 97 RX1 yX1_guestTold wsX1_guestTold) := goodIn_app (goodIn_of _ (by decide +kernel)) ggX1_digest_X1_guestTold
set_option maxRecDepth 20000 in
theorem ggX1_digest_X1_seated : GoodIn wsX1_digest wsX1_seated := goodIn_r _ [75, 5, 55, 56, 57, 9, 58, 59, 60, 61, 62, 63, 64, 65, 66, 4, 11, 33, 34, 67, 68, 69, 70, 71, 76, 77, 78, 79, 80, 81, 82, 83, 84, 85] (by decide +kernel) (by decide +kernel)
set_option maxRecDepth 20000 in
theorem gX1_digest_X1_seated : GoodIn wsX1_digest (wsV RX1 100 RX1 yX1_seated wsX1_seated) := goodIn_app (goodIn_of _ (by decide +kernel)) ggX1_digest_X1_seated
set_option maxRecDepth 20000 in
theorem ggX1_digest_X1_all : GoodIn wsX1_digest wsX1_all := goodIn_r _ [58, 59, 60, 61, 9, 62, 5, 63, 64, 65, 66, 4, 11, 33, 34, 67, 68, 69, 70, 71, 76, 77, 78, 79, 80, 81, 82, 83, 84, 85] (by decide +kernel) (by decide +kernel)
set_option maxRecDepth 20000 in
theorem gX1_digest_X1_all : GoodIn wsX1_digest (wsV RX1 87 RX1 yX1_all wsX1_all) := goodIn_app (goodIn_of _ (by decide +kernel)) ggX1_digest_X1_all
theorem dX1_digest_0 : decode cX1_digest 0 = .ok (.aload_n 0, 1) := by decide +kernel
theorem dX1_digest_1 : decode cX1_digest 1 = .ok (.iconst 0, 1) := by decide +kernel
theorem dX1_digest_2 : decode cX1_digest 2 = .ok (.putfield 33, 3) := by decide +kernel
theorem dX1_digest_5 : decode cX1_digest 5 = .ok (.ldc2_w 114, 3) := by decide +kernel
theorem dX1_digest_8 : decode cX1_digest 8 = .ok (.lstore_n 1, 1) := by decide +kernel
theorem dX1_digest_9 : decode cX1_digest 9 = .ok (.iconst 0, 1) := by decide +kernel
theorem dX1_digest_10 : decode cX1_digest 10 = .ok (.istore_n 3, 1) := by decide +kernel
theorem dX1_digest_11 : decode cX1_digest 11 = .ok (.iload_n 3, 1) := by decide +kernel
theorem dX1_digest_12 : decode cX1_digest 12 = .ok (.bipush 6, 2) := by decide +kernel
theorem dX1_digest_14 : decode cX1_digest 14 = .ok (.if_icmp .ge 22, 3) := by decide +kernel
theorem dX1_digest_17 : decode cX1_digest 17 = .ok (.lload_n 1, 1) := by decide +kernel
theorem dX1_digest_18 : decode cX1_digest 18 = .ok (.ldc2_w 116, 3) := by decide +kernel
theorem dX1_digest_21 : decode cX1_digest 21 = .ok (.lmul, 1) := by decide +kernel
theorem dX1_digest_22 : decode cX1_digest 22 = .ok (.aload_n 0, 1) := by decide +kernel
theorem dX1_digest_23 : decode cX1_digest 23 = .ok (.iload_n 3, 1) := by decide +kernel
theorem dX1_digest_24 : decode cX1_digest 24 = .ok (.invokevirtual 111, 3) := by decide +kernel
theorem dX1_digest_27 : decode cX1_digest 27 = .ok (.i2l, 1) := by decide +kernel
theorem dX1_digest_28 : decode cX1_digest 28 = .ok (.ladd, 1) := by decide +kernel
theorem dX1_digest_29 : decode cX1_digest 29 = .ok (.lstore_n 1, 1) := by decide +kernel
theorem dX1_digest_30 : decode cX1_digest 30 = .ok (.iinc 3 1, 3) := by decide +kernel
theorem dX1_digest_33 : decode cX1_digest 33 = .ok (.goto (-22), 3) := by decide +kernel
theorem dX1_digest_36 : decode cX1_digest 36 = .ok (.iconst 0, 1) := by decide +kernel
theorem dX1_digest_37 : decode cX1_digest 37 = .ok (.istore_n 3, 1) := by decide +kernel
theorem dX1_digest_38 : decode cX1_digest 38 = .ok (.iload_n 3, 1) := by decide +kernel
theorem dX1_digest_39 : decode cX1_digest 39 = .ok (.aload_n 0, 1) := by decide +kernel
theorem dX1_digest_40 : decode cX1_digest 40 = .ok (.getfield 51, 3) := by decide +kernel
theorem dX1_digest_43 : decode cX1_digest 43 = .ok (.if_icmp .ge 39, 3) := by decide +kernel
theorem dX1_digest_46 : decode cX1_digest 46 = .ok (.iconst 0, 1) := by decide +kernel
theorem dX1_digest_47 : decode cX1_digest 47 = .ok (.istore 4, 2) := by decide +kernel
theorem dX1_digest_49 : decode cX1_digest 49 = .ok (.iload 4, 2) := by decide +kernel
theorem dX1_digest_51 : decode cX1_digest 51 = .ok (.iconst 3, 1) := by decide +kernel
theorem dX1_digest_52 : decode cX1_digest 52 = .ok (.if_icmp .ge 24, 3) := by decide +kernel
theorem dX1_digest_55 : decode cX1_digest 55 = .ok (.lload_n 1, 1) := by decide +kernel
theorem dX1_digest_56 : decode cX1_digest 56 = .ok (.ldc2_w 116, 3) := by decide +kernel
theorem dX1_digest_59 : decode cX1_digest 59 = .ok (.lmul, 1) := by decide +kernel
theorem dX1_digest_60 : decode cX1_digest 60 = .ok (.aload_n 0, 1) := by decide +kernel
theorem dX1_digest_61 : decode cX1_digest 61 = .ok (.iload_n 3, 1) := by decide +kernel
theorem dX1_digest_62 : decode cX1_digest 62 = .ok (.iload 4, 2) := by decide +kernel
theorem dX1_digest_64 : decode cX1_digest 64 = .ok (.invokevirtual 54, 3) := by decide +kernel
theorem dX1_digest_67 : decode cX1_digest 67 = .ok (.i2l, 1) := by decide +kernel
theorem dX1_digest_68 : decode cX1_digest 68 = .ok (.ladd, 1) := by decide +kernel
theorem dX1_digest_69 : decode cX1_digest 69 = .ok (.lstore_n 1, 1) := by decide +kernel
theorem dX1_digest_70 : decode cX1_digest 70 = .ok (.iinc 4 1, 3) := by decide +kernel
theorem dX1_digest_73 : decode cX1_digest 73 = .ok (.goto (-24), 3) := by decide +kernel
theorem dX1_digest_76 : decode cX1_digest 76 = .ok (.iinc 3 1, 3) := by decide +kernel
theorem dX1_digest_79 : decode cX1_digest 79 = .ok (.goto (-41), 3) := by decide +kernel
theorem dX1_digest_82 : decode cX1_digest 82 = .ok (.iconst 0, 1) := by decide +kernel
theorem dX1_digest_83 : decode cX1_digest 83 = .ok (.istore_n 3, 1) := by decide +kernel
theorem dX1_digest_84 : decode cX1_digest 84 = .ok (.iload_n 3, 1) := by decide +kernel
theorem dX1_digest_85 : decode cX1_digest 85 = .ok (.iconst 2, 1) := by decide +kernel
theorem dX1_digest_86 : decode cX1_digest 86 = .ok (.aload_n 0, 1) := by decide +kernel
theorem dX1_digest_87 : decode cX1_digest 87 = .ok (.getfield 36, 3) := by decide +kernel
theorem dX1_digest_90 : decode cX1_digest 90 = .ok (.imul, 1) := by decide +kernel
theorem dX1_digest_91 : decode cX1_digest 91 = .ok (.if_icmp .ge 22, 3) := by decide +kernel
theorem dX1_digest_94 : decode cX1_digest 94 = .ok (.lload_n 1, 1) := by decide +kernel
theorem dX1_digest_95 : decode cX1_digest 95 = .ok (.ldc2_w 116, 3) := by decide +kernel
theorem dX1_digest_98 : decode cX1_digest 98 = .ok (.lmul, 1) := by decide +kernel
theorem dX1_digest_99 : decode cX1_digest 99 = .ok (.aload_n 0, 1) := by decide +kernel
theorem dX1_digest_100 : decode cX1_digest 100 = .ok (.iload_n 3, 1) := by decide +kernel
theorem dX1_digest_101 : decode cX1_digest 101 = .ok (.invokevirtual 72, 3) := by decide +kernel
theorem dX1_digest_104 : decode cX1_digest 104 = .ok (.i2l, 1) := by decide +kernel
theorem dX1_digest_105 : decode cX1_digest 105 = .ok (.ladd, 1) := by decide +kernel
theorem dX1_digest_106 : decode cX1_digest 106 = .ok (.lstore_n 1, 1) := by decide +kernel
theorem dX1_digest_107 : decode cX1_digest 107 = .ok (.iinc 3 1, 3) := by decide +kernel
theorem dX1_digest_110 : decode cX1_digest 110 = .ok (.goto (-26), 3) := by decide +kernel
theorem dX1_digest_113 : decode cX1_digest 113 = .ok (.iconst 0, 1) := by decide +kernel
theorem dX1_digest_114 : decode cX1_digest 114 = .ok (.istore_n 3, 1) := by decide +kernel
theorem dX1_digest_115 : decode cX1_digest 115 = .ok (.iload_n 3, 1) := by decide +kernel
theorem dX1_digest_116 : decode cX1_digest 116 = .ok (.aload_n 0, 1) := by decide +kernel
theorem dX1_digest_117 : decode cX1_digest 117 = .ok (.getfield 36, 3) := by decide +kernel
theorem dX1_digest_120 : decode cX1_digest 120 = .ok (.if_icmp .ge 39, 3) := by decide +kernel
theorem dX1_digest_123 : decode cX1_digest 123 = .ok (.iconst 0, 1) := by decide +kernel
theorem dX1_digest_124 : decode cX1_digest 124 = .ok (.istore 4, 2) := by decide +kernel
theorem dX1_digest_126 : decode cX1_digest 126 = .ok (.iload 4, 2) := by decide +kernel
theorem dX1_digest_128 : decode cX1_digest 128 = .ok (.iconst 4, 1) := by decide +kernel
theorem dX1_digest_129 : decode cX1_digest 129 = .ok (.if_icmp .ge 24, 3) := by decide +kernel
theorem dX1_digest_132 : decode cX1_digest 132 = .ok (.lload_n 1, 1) := by decide +kernel
theorem dX1_digest_133 : decode cX1_digest 133 = .ok (.ldc2_w 116, 3) := by decide +kernel
theorem dX1_digest_136 : decode cX1_digest 136 = .ok (.lmul, 1) := by decide +kernel
theorem dX1_digest_137 : decode cX1_digest 137 = .ok (.aload_n 0, 1) := by decide +kernel
theorem dX1_digest_138 : decode cX1_digest 138 = .ok (.iload_n 3, 1) := by decide +kernel
theorem dX1_digest_139 : decode cX1_digest 139 = .ok (.iload 4, 2) := by decide +kernel
theorem dX1_digest_141 : decode cX1_digest 141 = .ok (.invokevirtual 97, 3) := by decide +kernel
theorem dX1_digest_144 : decode cX1_digest 144 = .ok (.i2l, 1) := by decide +kernel
theorem dX1_digest_145 : decode cX1_digest 145 = .ok (.ladd, 1) := by decide +kernel
theorem dX1_digest_146 : decode cX1_digest 146 = .ok (.lstore_n 1, 1) := by decide +kernel
theorem dX1_digest_147 : decode cX1_digest 147 = .ok (.iinc 4 1, 3) := by decide +kernel
theorem dX1_digest_150 : decode cX1_digest 150 = .ok (.goto (-24), 3) := by decide +kernel
theorem dX1_digest_153 : decode cX1_digest 153 = .ok (.iinc 3 1, 3) := by decide +kernel
theorem dX1_digest_156 : decode cX1_digest 156 = .ok (.goto (-41), 3) := by decide +kernel
theorem dX1_digest_159 : decode cX1_digest 159 = .ok (.lload_n 1, 1) := by decide +kernel
theorem dX1_digest_160 : decode cX1_digest 160 = .ok (.ldc2_w 116, 3) := by decide +kernel
theorem dX1_digest_163 : decode cX1_digest 163 = .ok (.lmul, 1) := by decide +kernel
theorem dX1_digest_164 : decode cX1_digest 164 = .ok (.aload_n 0, 1) := by decide +kernel
theorem dX1_digest_165 : decode cX1_digest 165 = .ok (.invokevirtual 100, 3) := by decide +kernel
theorem dX1_digest_168 : decode cX1_digest 168 = .ok (.i2l, 1) := by decide +kernel
theorem dX1_digest_169 : decode cX1_digest 169 = .ok (.ladd, 1) := by decide +kernel
theorem dX1_digest_170 : decode cX1_digest 170 = .ok (.lstore_n 1, 1) := by decide +kernel
theorem dX1_digest_171 : decode cX1_digest 171 = .ok (.lload_n 1, 1) := by decide +kernel
theorem dX1_digest_172 : decode cX1_digest 172 = .ok (.ldc2_w 116, 3) := by decide +kernel
theorem dX1_digest_175 : decode cX1_digest 175 = .ok (.lmul, 1) := by decide +kernel
theorem dX1_digest_176 : decode cX1_digest 176 = .ok (.aload_n 0, 1) := by decide +kernel
theorem dX1_digest_177 : decode cX1_digest 177 = .ok (.invokevirtual 87, 3) := by decide +kernel
theorem dX1_digest_180 : decode cX1_digest 180 = .ok (.i2l, 1) := by decide +kernel
theorem dX1_digest_181 : decode cX1_digest 181 = .ok (.ladd, 1) := by decide +kernel
theorem dX1_digest_182 : decode cX1_digest 182 = .ok (.lreturn, 1) := by decide +kernel
end
section
set_option maxRecDepth 20000 in
theorem ggL_invite_X0_invite : GoodIn wsL_invite wsX0_invite := goodIn_ca (goodIn_r _ [6, 7, 8, 9, 10, 11, 12, 5, 13, 14, 15, 16, 17, 18, 19, 20, 21, 22, 23, 24, 25, 26, 27, 28, 29, 30, 31, 32, 33, 34, 35, 36, 37, 38, 39, 40, 41, 42, 43, 44, 45, 46, 47, 48, 49, 50, 51, 52, 53, 54, 55, 56, 57, 58, 59, 60, 61, 62, 63, 64, 65, 66, 67, 68, 69, 70, 71, 72, 73, 74, 75, 76, 77, 78] (by decide +kernel) (by decide +kernel)) (goodIn_sub (fun _ h => List.mem_cons_of_mem _ (List.mem_append_right _ h)) (by decide +kernel))
set_option maxRecDepth 20000 in
theorem gL_invite_X0_invite : GoodIn wsL_invite (wsV RL 7 RX0 yX0_invite wsX0_invite) := goodIn_app (goodIn_of _ (by decide +kernel)) ggL_invite_X0_invite
theorem dL_invite_0 : decode cL_invite 0 = .ok (.aload_n 1, 1) := by decide +kernel
theorem dL_invite_1 : decode cL_invite 1 = .ok (.iconst 0, 1) := by decide +kernel
theorem dL_invite_2 : decode cL_invite 2 = .ok (.aload_n 0, 1) := by decide +kernel
theorem dL_invite_3 : decode cL_invite 3 = .ok (.invokevirtual 7, 3) := by decide +kernel
theorem dL_invite_6 : decode cL_invite 6 = .ok (.i2l, 1) := by decide +kernel
theorem dL_invite_7 : decode cL_invite 7 = .ok (.lastore, 1) := by decide +kernel
theorem dL_invite_8 : decode cL_invite 8 = .ok (.goto 6, 3) := by decide +kernel
theorem dL_invite_11 : decode cL_invite 11 = .ok (.astore_n 2, 1) := by decide +kernel
theorem dL_invite_12 : decode cL_invite 12 = .ok (.iconst 1, 1) := by decide +kernel
theorem dL_invite_13 : decode cL_invite 13 = .ok (.ireturn, 1) := by decide +kernel
theorem dL_invite_14 : decode cL_invite 14 = .ok (.iconst 0, 1) := by decide +kernel
theorem dL_invite_15 : decode cL_invite 15 = .ok (.ireturn, 1) := by decide +kernel
set_option maxRecDepth 20000 in
theorem ggL_rule_X0_rule : GoodIn wsL_rule wsX0_rule := goodIn_ca (goodIn_ca (goodIn_ca (goodIn_r _ [8, 9, 10, 11, 12, 13, 14, 15, 16, 17, 18, 19, 7, 20, 21, 22, 23, 24, 25, 26, 27, 28, 29, 30, 31, 32, 33, 34, 35, 36, 37, 38, 39, 40, 41, 42, 43, 44, 45, 46, 47, 48, 49, 50, 51, 52, 53, 54, 55, 56, 57, 58, 59, 60, 61, 62, 63, 64, 65, 66, 67, 68, 69, 70, 71, 72, 73, 74, 75, 76, 77, 78, 79, 80, 81, 82, 83, 84, 85, 86, 87, 88, 89, 90, 91, 92] (by decide +kernel) (by decide +kernel)) (goodIn_sub (fun _ h => List.mem_cons_of_mem _ (List.mem_append_left _ (List.mem_append_left _ (List.mem_append_right _ h)))) (by decide +kernel))) (goodIn_sub (fun _ h => List.mem_cons_of_mem _ (List.mem_append_left _ (List.mem_append_right _ h))) (by decide +kernel))) (goodIn_sub (fun _ h => List.mem_cons_of_mem _ (List.mem_append_right _ h)) (by decide +kernel))
set_option maxRecDepth 20000 in
theorem gL_rule_X0_rule : GoodIn wsL_rule (wsV RL 15 RX0 yX0_rule wsX0_rule) := goodIn_app (goodIn_of _ (by decide +kernel)) ggL_rule_X0_rule
theorem dL_rule_0 : decode cL_rule 0 = .ok (.aload_n 3, 1) := by decide +kernel
theorem dL_rule_1 : decode cL_rule 1 = .ok (.iconst 0, 1) := by decide +kernel
theorem dL_rule_2 : decode cL_rule 2 = .ok (.aload_n 0, 1) := by decide +kernel
theorem dL_rule_3 : decode cL_rule 3 = .ok (.iload_n 1, 1) := by decide +kernel
theorem dL_rule_4 : decode cL_rule 4 = .ok (.iload_n 2, 1) := by decide +kernel
theorem dL_rule_5 : decode cL_rule 5 = .ok (.invokevirtual 15, 3) := by decide +kernel
theorem dL_rule_8 : decode cL_rule 8 = .ok (.i2l, 1) := by decide +kernel
theorem dL_rule_9 : decode cL_rule 9 = .ok (.lastore, 1) := by decide +kernel
theorem dL_rule_10 : decode cL_rule 10 = .ok (.goto 15, 3) := by decide +kernel
theorem dL_rule_13 : decode cL_rule 13 = .ok (.astore 4, 2) := by decide +kernel
theorem dL_rule_15 : decode cL_rule 15 = .ok (.iconst 1, 1) := by decide +kernel
theorem dL_rule_16 : decode cL_rule 16 = .ok (.ireturn, 1) := by decide +kernel
theorem dL_rule_17 : decode cL_rule 17 = .ok (.astore 4, 2) := by decide +kernel
theorem dL_rule_19 : decode cL_rule 19 = .ok (.iconst 2, 1) := by decide +kernel
theorem dL_rule_20 : decode cL_rule 20 = .ok (.ireturn, 1) := by decide +kernel
theorem dL_rule_21 : decode cL_rule 21 = .ok (.astore 4, 2) := by decide +kernel
theorem dL_rule_23 : decode cL_rule 23 = .ok (.iconst 3, 1) := by decide +kernel
theorem dL_rule_24 : decode cL_rule 24 = .ok (.ireturn, 1) := by decide +kernel
theorem dL_rule_25 : decode cL_rule 25 = .ok (.iconst 0, 1) := by decide +kernel
theorem dL_rule_26 : decode cL_rule 26 = .ok (.ireturn, 1) := by decide +kernel
set_option maxRecDepth 20000 in
theorem ggL_turn_X0_turn : GoodIn wsL_turn wsX0_turn := goodIn_ca (goodIn_r _ [6, 7, 8, 9, 10, 5, 11, 12, 13, 14, 15, 16, 17, 18, 19, 20, 21, 22, 23, 24, 25, 26, 27, 28, 29, 30, 31, 32, 33, 34, 35, 36, 37, 38, 39, 40, 41, 42, 43, 44, 45, 46, 47, 48, 49, 50, 51, 52, 53, 54, 55, 56, 57, 58, 59, 60, 61, 62, 63, 64, 65, 66, 67, 68, 69, 70, 71, 72, 73, 74, 75, 76, 77, 78, 79, 80, 81, 82] (by decide +kernel) (by decide +kernel)) (goodIn_sub (fun _ h => List.mem_cons_of_mem _ (List.mem_append_right _ h)) (by decide +kernel))
set_option maxRecDepth 20000 in
theorem gL_turn_X0_turn : GoodIn wsL_turn (wsV RL 23 RX0 yX0_turn wsX0_turn) := goodIn_app (goodIn_of _ (by decide +kernel)) ggL_turn_X0_turn
theorem dL_turn_0 : decode cL_turn 0 = .ok (.aload_n 2, 1) := by decide +kernel
theorem dL_turn_1 : decode cL_turn 1 = .ok (.iconst 0, 1) := by decide +kernel
theorem dL_turn_2 : decode cL_turn 2 = .ok (.aload_n 0, 1) := by decide +kernel
theorem dL_turn_3 : decode cL_turn 3 = .ok (.iload_n 1, 1) := by decide +kernel
theorem dL_turn_4 : decode cL_turn 4 = .ok (.invokevirtual 23, 3) := by decide +kernel
theorem dL_turn_7 : decode cL_turn 7 = .ok (.ifCond .eq 7, 3) := by decide +kernel
theorem dL_turn_10 : decode cL_turn 10 = .ok (.lconst 1, 1) := by decide +kernel
theorem dL_turn_11 : decode cL_turn 11 = .ok (.goto 4, 3) := by decide +kernel
theorem dL_turn_14 : decode cL_turn 14 = .ok (.lconst 0, 1) := by decide +kernel
theorem dL_turn_15 : decode cL_turn 15 = .ok (.lastore, 1) := by decide +kernel
theorem dL_turn_16 : decode cL_turn 16 = .ok (.goto 6, 3) := by decide +kernel
theorem dL_turn_19 : decode cL_turn 19 = .ok (.astore_n 3, 1) := by decide +kernel
theorem dL_turn_20 : decode cL_turn 20 = .ok (.iconst 1, 1) := by decide +kernel
theorem dL_turn_21 : decode cL_turn 21 = .ok (.ireturn, 1) := by decide +kernel
theorem dL_turn_22 : decode cL_turn 22 = .ok (.iconst 0, 1) := by decide +kernel
theorem dL_turn_23 : decode cL_turn 23 = .ok (.ireturn, 1) := by decide +kernel
set_option maxRecDepth 20000 in
theorem ggL_told_X0_told : GoodIn wsL_told wsX0_told := goodIn_ca (goodIn_r _ [6, 7, 8, 9, 10, 11, 12, 5, 13, 14, 15, 16, 17, 18, 19, 20, 21, 22, 23, 24, 25, 26, 27, 28, 29, 30, 31, 32, 33, 34, 35, 36, 37, 38] (by decide +kernel) (by decide +kernel)) (goodIn_sub (fun _ h => List.mem_cons_of_mem _ (List.mem_append_right _ h)) (by decide +kernel))
set_option maxRecDepth 20000 in
theorem gL_told_X0_told : GoodIn wsL_told (wsV RL 27 RX0 yX0_told wsX0_told) := goodIn_app (goodIn_of _ (by decide +kernel)) ggL_told_X0_told
theorem dL_told_0 : decode cL_told 0 = .ok (.aload_n 3, 1) := by decide +kernel
theorem dL_told_1 : decode cL_told 1 = .ok (.iconst 0, 1) := by decide +kernel
theorem dL_told_2 : decode cL_told 2 = .ok (.aload_n 0, 1) := by decide +kernel
theorem dL_told_3 : decode cL_told 3 = .ok (.iload_n 1, 1) := by decide +kernel
theorem dL_told_4 : decode cL_told 4 = .ok (.iload_n 2, 1) := by decide +kernel
theorem dL_told_5 : decode cL_told 5 = .ok (.invokevirtual 27, 3) := by decide +kernel
theorem dL_told_8 : decode cL_told 8 = .ok (.i2l, 1) := by decide +kernel
theorem dL_told_9 : decode cL_told 9 = .ok (.lastore, 1) := by decide +kernel
theorem dL_told_10 : decode cL_told 10 = .ok (.goto 7, 3) := by decide +kernel
theorem dL_told_13 : decode cL_told 13 = .ok (.astore 4, 2) := by decide +kernel
theorem dL_told_15 : decode cL_told 15 = .ok (.iconst 1, 1) := by decide +kernel
theorem dL_told_16 : decode cL_told 16 = .ok (.ireturn, 1) := by decide +kernel
theorem dL_told_17 : decode cL_told 17 = .ok (.iconst 0, 1) := by decide +kernel
theorem dL_told_18 : decode cL_told 18 = .ok (.ireturn, 1) := by decide +kernel
set_option maxRecDepth 20000 in
theorem ggL_follows_X0_follows : GoodIn wsL_follows wsX0_follows := goodIn_ca (goodIn_r _ [6, 7, 8, 9, 10, 5, 11, 12, 13, 14, 15, 16, 17, 18, 19, 20, 21, 22, 23, 24, 25, 26, 27, 28, 29, 30, 31, 32, 33, 34] (by decide +kernel) (by decide +kernel)) (goodIn_sub (fun _ h => List.mem_cons_of_mem _ (List.mem_append_right _ h)) (by decide +kernel))
set_option maxRecDepth 20000 in
theorem gL_follows_X0_follows : GoodIn wsL_follows (wsV RL 30 RX0 yX0_follows wsX0_follows) := goodIn_app (goodIn_of _ (by decide +kernel)) ggL_follows_X0_follows
theorem dL_follows_0 : decode cL_follows 0 = .ok (.aload_n 3, 1) := by decide +kernel
theorem dL_follows_1 : decode cL_follows 1 = .ok (.iconst 0, 1) := by decide +kernel
theorem dL_follows_2 : decode cL_follows 2 = .ok (.aload_n 0, 1) := by decide +kernel
theorem dL_follows_3 : decode cL_follows 3 = .ok (.iload_n 1, 1) := by decide +kernel
theorem dL_follows_4 : decode cL_follows 4 = .ok (.iload_n 2, 1) := by decide +kernel
theorem dL_follows_5 : decode cL_follows 5 = .ok (.invokevirtual 30, 3) := by decide +kernel
theorem dL_follows_8 : decode cL_follows 8 = .ok (.ifCond .eq 7, 3) := by decide +kernel
theorem dL_follows_11 : decode cL_follows 11 = .ok (.lconst 1, 1) := by decide +kernel
theorem dL_follows_12 : decode cL_follows 12 = .ok (.goto 4, 3) := by decide +kernel
theorem dL_follows_15 : decode cL_follows 15 = .ok (.lconst 0, 1) := by decide +kernel
theorem dL_follows_16 : decode cL_follows 16 = .ok (.lastore, 1) := by decide +kernel
theorem dL_follows_17 : decode cL_follows 17 = .ok (.goto 7, 3) := by decide +kernel
theorem dL_follows_20 : decode cL_follows 20 = .ok (.astore 4, 2) := by decide +kernel
theorem dL_follows_22 : decode cL_follows 22 = .ok (.iconst 1, 1) := by decide +kernel
theorem dL_follows_23 : decode cL_follows 23 = .ok (.ireturn, 1) := by decide +kernel
theorem dL_follows_24 : decode cL_follows 24 = .ok (.iconst 0, 1) := by decide +kernel
theorem dL_follows_25 : decode cL_follows 25 = .ok (.ireturn, 1) := by decide +kernel
set_option maxRecDepth 20000 in
theorem ggL_reach_X0_reach : GoodIn wsL_reach wsX0_reach := goodIn_ca (goodIn_r _ [6, 7, 8, 9, 10, 5, 11, 12, 13, 14, 15, 16, 17, 18, 19, 20, 21, 22, 23, 24, 25, 26, 27, 28, 29, 30, 31] (by decide +kernel) (by decide +kernel)) (goodIn_sub (fun _ h => List.mem_cons_of_mem _ (List.mem_append_right _ h)) (by decide +kernel))
set_option maxRecDepth 20000 in
theorem gL_reach_X0_reach : GoodIn wsL_reach (wsV RL 34 RX0 yX0_reach wsX0_reach) := goodIn_app (goodIn_of _ (by decide +kernel)) ggL_reach_X0_reach
theorem dL_reach_0 : decode cL_reach 0 = .ok (.aload_n 2, 1) := by decide +kernel
theorem dL_reach_1 : decode cL_reach 1 = .ok (.iconst 0, 1) := by decide +kernel
theorem dL_reach_2 : decode cL_reach 2 = .ok (.aload_n 0, 1) := by decide +kernel
theorem dL_reach_3 : decode cL_reach 3 = .ok (.iload_n 1, 1) := by decide +kernel
theorem dL_reach_4 : decode cL_reach 4 = .ok (.invokevirtual 34, 3) := by decide +kernel
theorem dL_reach_7 : decode cL_reach 7 = .ok (.i2l, 1) := by decide +kernel
theorem dL_reach_8 : decode cL_reach 8 = .ok (.lastore, 1) := by decide +kernel
theorem dL_reach_9 : decode cL_reach 9 = .ok (.goto 6, 3) := by decide +kernel
theorem dL_reach_12 : decode cL_reach 12 = .ok (.astore_n 3, 1) := by decide +kernel
theorem dL_reach_13 : decode cL_reach 13 = .ok (.iconst 1, 1) := by decide +kernel
theorem dL_reach_14 : decode cL_reach 14 = .ok (.ireturn, 1) := by decide +kernel
theorem dL_reach_15 : decode cL_reach 15 = .ok (.iconst 0, 1) := by decide +kernel
theorem dL_reach_16 : decode cL_reach 16 = .ok (.ireturn, 1) := by decide +kernel
set_option maxRecDepth 20000 in
theorem ggL_steps_X0_steps : GoodIn wsL_steps wsX0_steps := goodIn_ca (goodIn_r _ [6, 7, 8, 9, 5, 10, 11, 12, 13, 14, 15, 16, 17, 18, 19, 20, 21, 22, 23, 24, 25, 26, 27, 28, 29, 30, 31, 32, 33, 34, 35, 36, 37, 38] (by decide +kernel) (by decide +kernel)) (goodIn_sub (fun _ h => List.mem_cons_of_mem _ (List.mem_append_right _ h)) (by decide +kernel))
set_option maxRecDepth 20000 in
theorem gL_steps_X0_steps : GoodIn wsL_steps (wsV RL 38 RX0 yX0_steps wsX0_steps) := goodIn_app (goodIn_of _ (by decide +kernel)) ggL_steps_X0_steps
theorem dL_steps_0 : decode cL_steps 0 = .ok (.aload_n 3, 1) := by decide +kernel
theorem dL_steps_1 : decode cL_steps 1 = .ok (.iconst 0, 1) := by decide +kernel
theorem dL_steps_2 : decode cL_steps 2 = .ok (.aload_n 0, 1) := by decide +kernel
theorem dL_steps_3 : decode cL_steps 3 = .ok (.iload_n 1, 1) := by decide +kernel
theorem dL_steps_4 : decode cL_steps 4 = .ok (.iload_n 2, 1) := by decide +kernel
theorem dL_steps_5 : decode cL_steps 5 = .ok (.invokevirtual 38, 3) := by decide +kernel
theorem dL_steps_8 : decode cL_steps 8 = .ok (.i2l, 1) := by decide +kernel
theorem dL_steps_9 : decode cL_steps 9 = .ok (.lastore, 1) := by decide +kernel
theorem dL_steps_10 : decode cL_steps 10 = .ok (.goto 7, 3) := by decide +kernel
theorem dL_steps_13 : decode cL_steps 13 = .ok (.astore 4, 2) := by decide +kernel
theorem dL_steps_15 : decode cL_steps 15 = .ok (.iconst 1, 1) := by decide +kernel
theorem dL_steps_16 : decode cL_steps 16 = .ok (.ireturn, 1) := by decide +kernel
theorem dL_steps_17 : decode cL_steps 17 = .ok (.iconst 0, 1) := by decide +kernel
theorem dL_steps_18 : decode cL_steps 18 = .ok (.ireturn, 1) := by decide +kernel
set_option maxRecDepth 20000 in
theorem ggL_guest_X0_guest : GoodIn wsL_guest wsX0_guest := goodIn_ca (goodIn_r _ [6, 7, 8, 9, 10, 5, 11, 12, 13, 14, 15, 16, 17, 18, 19, 20, 21, 22, 23, 24, 25, 26, 27, 28, 29, 30, 31, 32, 33, 34, 35, 36, 37, 38, 39, 40, 41, 42, 43, 44, 45, 46, 47, 48, 49, 50, 51, 52, 53, 54, 55, 56, 57, 58, 59, 60, 61, 62, 63, 64, 65, 66, 67, 68] (by decide +kernel) (by decide +kernel)) (goodIn_sub (fun _ h => List.mem_cons_of_mem _ (List.mem_append_right _ h)) (by decide +kernel))
set_option maxRecDepth 20000 in
theorem gL_guest_X0_guest : GoodIn wsL_guest (wsV RL 41 RX0 yX0_guest wsX0_guest) := goodIn_app (goodIn_of _ (by decide +kernel)) ggL_guest_X0_guest
theorem dL_guest_0 : decode cL_guest 0 = .ok (.aload_n 3, 1) := by decide +kernel
theorem dL_guest_1 : decode cL_guest 1 = .ok (.iconst 0, 1) := by decide +kernel
theorem dL_guest_2 : decode cL_guest 2 = .ok (.aload_n 0, 1) := by decide +kernel
theorem dL_guest_3 : decode cL_guest 3 = .ok (.iload_n 1, 1) := by decide +kernel
theorem dL_guest_4 : decode cL_guest 4 = .ok (.iload_n 2, 1) := by decide +kernel
theorem dL_guest_5 : decode cL_guest 5 = .ok (.invokevirtual 41, 3) := by decide +kernel
theorem dL_guest_8 : decode cL_guest 8 = .ok (.i2l, 1) := by decide +kernel
theorem dL_guest_9 : decode cL_guest 9 = .ok (.lastore, 1) := by decide +kernel
theorem dL_guest_10 : decode cL_guest 10 = .ok (.goto 7, 3) := by decide +kernel
theorem dL_guest_13 : decode cL_guest 13 = .ok (.astore 4, 2) := by decide +kernel
theorem dL_guest_15 : decode cL_guest 15 = .ok (.iconst 1, 1) := by decide +kernel
theorem dL_guest_16 : decode cL_guest 16 = .ok (.ireturn, 1) := by decide +kernel
theorem dL_guest_17 : decode cL_guest 17 = .ok (.iconst 0, 1) := by decide +kernel
theorem dL_guest_18 : decode cL_guest 18 = .ok (.ireturn, 1) := by decide +kernel
set_option maxRecDepth 20000 in
theorem ggL_broken_X0_broken : GoodIn wsL_broken wsX0_broken := goodIn_ca (goodIn_r _ [6, 7, 8, 9, 10, 11, 12, 13, 14, 15, 5, 16, 17, 18, 19, 20, 21, 22, 23, 24, 25, 26, 27, 28, 29, 30, 31, 32] (by decide +kernel) (by decide +kernel)) (goodIn_sub (fun _ h => List.mem_cons_of_mem _ (List.mem_append_right _ h)) (by decide +kernel))
set_option maxRecDepth 20000 in
theorem gL_broken_X0_broken : GoodIn wsL_broken (wsV RL 44 RX0 yX0_broken wsX0_broken) := goodIn_app (goodIn_of _ (by decide +kernel)) ggL_broken_X0_broken
theorem dL_broken_0 : decode cL_broken 0 = .ok (.aload_n 2, 1) := by decide +kernel
theorem dL_broken_1 : decode cL_broken 1 = .ok (.iconst 0, 1) := by decide +kernel
theorem dL_broken_2 : decode cL_broken 2 = .ok (.aload_n 0, 1) := by decide +kernel
theorem dL_broken_3 : decode cL_broken 3 = .ok (.iload_n 1, 1) := by decide +kernel
theorem dL_broken_4 : decode cL_broken 4 = .ok (.invokevirtual 44, 3) := by decide +kernel
theorem dL_broken_7 : decode cL_broken 7 = .ok (.i2l, 1) := by decide +kernel
theorem dL_broken_8 : decode cL_broken 8 = .ok (.lastore, 1) := by decide +kernel
theorem dL_broken_9 : decode cL_broken 9 = .ok (.goto 6, 3) := by decide +kernel
theorem dL_broken_12 : decode cL_broken 12 = .ok (.astore_n 3, 1) := by decide +kernel
theorem dL_broken_13 : decode cL_broken 13 = .ok (.iconst 1, 1) := by decide +kernel
theorem dL_broken_14 : decode cL_broken 14 = .ok (.ireturn, 1) := by decide +kernel
theorem dL_broken_15 : decode cL_broken 15 = .ok (.iconst 0, 1) := by decide +kernel
theorem dL_broken_16 : decode cL_broken 16 = .ok (.ireturn, 1) := by decide +kernel
set_option maxRecDepth 20000 in
theorem ggL_tightens_X0_tightens : GoodIn wsL_tightens wsX0_tightens := goodIn_ca (goodIn_r _ [6, 7, 8, 9, 10, 11, 5, 12, 13, 14, 15, 16, 17, 18, 19, 20, 21, 22, 23, 24, 25, 26, 27, 28, 29, 30, 31, 32, 33, 34, 35] (by decide +kernel) (by decide +kernel)) (goodIn_sub (fun _ h => List.mem_cons_of_mem _ (List.mem_append_right _ h)) (by decide +kernel))
set_option maxRecDepth 20000 in
theorem gL_tightens_X0_tightens : GoodIn wsL_tightens (wsV RL 47 RX0 yX0_tightens wsX0_tightens) := goodIn_app (goodIn_of _ (by decide +kernel)) ggL_tightens_X0_tightens
theorem dL_tightens_0 : decode cL_tightens 0 = .ok (.aload_n 3, 1) := by decide +kernel
theorem dL_tightens_1 : decode cL_tightens 1 = .ok (.iconst 0, 1) := by decide +kernel
theorem dL_tightens_2 : decode cL_tightens 2 = .ok (.aload_n 0, 1) := by decide +kernel
theorem dL_tightens_3 : decode cL_tightens 3 = .ok (.iload_n 1, 1) := by decide +kernel
theorem dL_tightens_4 : decode cL_tightens 4 = .ok (.iload_n 2, 1) := by decide +kernel
theorem dL_tightens_5 : decode cL_tightens 5 = .ok (.invokevirtual 47, 3) := by decide +kernel
theorem dL_tightens_8 : decode cL_tightens 8 = .ok (.i2l, 1) := by decide +kernel
theorem dL_tightens_9 : decode cL_tightens 9 = .ok (.lastore, 1) := by decide +kernel
theorem dL_tightens_10 : decode cL_tightens 10 = .ok (.goto 7, 3) := by decide +kernel
theorem dL_tightens_13 : decode cL_tightens 13 = .ok (.astore 4, 2) := by decide +kernel
theorem dL_tightens_15 : decode cL_tightens 15 = .ok (.iconst 1, 1) := by decide +kernel
theorem dL_tightens_16 : decode cL_tightens 16 = .ok (.ireturn, 1) := by decide +kernel
theorem dL_tightens_17 : decode cL_tightens 17 = .ok (.iconst 0, 1) := by decide +kernel
theorem dL_tightens_18 : decode cL_tightens 18 = .ok (.ireturn, 1) := by decide +kernel
set_option maxRecDepth 20000 in
theorem ggL_count_X0_count : GoodIn wsL_count wsX0_count := goodIn_ca (goodIn_r _ [6, 7, 8, 9, 10, 11, 12, 5, 13, 14, 15, 16, 17, 18, 19, 20, 21, 22, 23, 24, 25, 26, 27, 28, 29, 30, 31, 32, 33, 34, 35, 36, 37, 38, 39, 40, 41, 42, 43, 44, 45, 46, 47, 48, 49, 50, 51, 52, 53, 54, 55, 56, 57, 58, 59, 60, 61, 62, 63, 64, 65, 66] (by decide +kernel) (by decide +kernel)) (goodIn_sub (fun _ h => List.mem_cons_of_mem _ (List.mem_append_right _ h)) (by decide +kernel))
set_option maxRecDepth 20000 in
theorem gL_count_X0_count : GoodIn wsL_count (wsV RL 50 RX0 yX0_count wsX0_count) := goodIn_app (goodIn_of _ (by decide +kernel)) ggL_count_X0_count
theorem dL_count_0 : decode cL_count 0 = .ok (.aload_n 2, 1) := by decide +kernel
theorem dL_count_1 : decode cL_count 1 = .ok (.iconst 0, 1) := by decide +kernel
theorem dL_count_2 : decode cL_count 2 = .ok (.aload_n 0, 1) := by decide +kernel
theorem dL_count_3 : decode cL_count 3 = .ok (.iload_n 1, 1) := by decide +kernel
theorem dL_count_4 : decode cL_count 4 = .ok (.invokevirtual 50, 3) := by decide +kernel
theorem dL_count_7 : decode cL_count 7 = .ok (.i2l, 1) := by decide +kernel
theorem dL_count_8 : decode cL_count 8 = .ok (.lastore, 1) := by decide +kernel
theorem dL_count_9 : decode cL_count 9 = .ok (.goto 6, 3) := by decide +kernel
theorem dL_count_12 : decode cL_count 12 = .ok (.astore_n 3, 1) := by decide +kernel
theorem dL_count_13 : decode cL_count 13 = .ok (.iconst 1, 1) := by decide +kernel
theorem dL_count_14 : decode cL_count 14 = .ok (.ireturn, 1) := by decide +kernel
theorem dL_count_15 : decode cL_count 15 = .ok (.iconst 0, 1) := by decide +kernel
theorem dL_count_16 : decode cL_count 16 = .ok (.ireturn, 1) := by decide +kernel
set_option maxRecDepth 20000 in
theorem ggL_law_X0_init : GoodIn wsL_law wsX0_init := goodIn_r _ [9, 10, 11, 12, 13, 14, 15, 16, 17, 18, 19, 20, 21, 22, 2, 23, 24, 25, 26, 27, 28, 29, 30, 31, 32, 33, 34, 35, 36, 37, 38, 39, 40, 41, 42, 43, 44, 45, 46, 47, 48, 49, 50, 51, 52, 53, 54, 55, 56, 57, 58, 59, 60, 61, 62, 63, 64, 65, 66, 67, 68, 69, 70, 71, 72, 73, 74, 435, 436, 437, 438, 439, 440, 441, 442, 443, 444] (by decide +kernel) (by decide +kernel)
set_option maxRecDepth 20000 in
theorem gL_law_X0_init : GoodIn wsL_law (wsX0_init) := ggL_law_X0_init
set_option maxRecDepth 20000 in
theorem ggL_law_X1_init : GoodIn wsL_law wsX1_init := goodIn_r _ [77, 78, 11, 12, 13, 79, 80, 81, 82, 83, 84, 85, 86, 445, 446, 447, 448, 449, 450, 451, 452, 453, 454] (by decide +kernel) (by decide +kernel)
set_option maxRecDepth 20000 in
theorem gL_law_X1_init : GoodIn wsL_law (wsX1_init) := ggL_law_X1_init
set_option maxRecDepth 20000 in
theorem ggL_law_L_invite : GoodIn wsL_law wsL_invite := goodIn_ca (goodIn_r _ [90, 91, 92, 93, 94, 2, 95, 96, 97, 53, 20, 21, 22, 23, 16, 17, 24, 25, 26, 27, 28, 29, 14, 15, 30, 31, 32, 33, 34, 35, 36, 37, 38, 39, 40, 41, 42, 43, 44, 45, 46, 47, 48, 49, 50, 51, 52, 19, 54, 55, 56, 57, 58, 59, 60, 61, 62, 63, 64, 65, 66, 67, 68, 69, 70, 71, 72, 73, 74, 435, 436, 437, 438, 439, 440, 441, 442, 443, 444] (by decide +kernel) (by decide +kernel)) (goodIn_sub (fun _ h => List.mem_append_left _ (List.mem_append_left _ (List.mem_append_right _ h))) (by decide +kernel))
set_option maxRecDepth 20000 in
theorem gL_law_L_invite : GoodIn wsL_law (va_wsS RL 57 yL_invite wsL_invite) := goodIn_app (goodIn_of _ (by decide +kernel)) ggL_law_L_invite
set_option maxRecDepth 20000 in
theorem ggL_law_X1_invite : GoodIn wsL_law wsX1_invite := goodIn_r _ [101, 102, 103, 104, 105, 106, 5, 107, 445, 446, 447, 448, 449, 450, 451, 452, 453, 454] (by decide +kernel) (by decide +kernel)
set_option maxRecDepth 20000 in
theorem gL_law_X1_invite : GoodIn wsL_law (wsV RL 62 RX1 yX1_invite wsX1_invite) := goodIn_app (goodIn_of _ (by decide +kernel)) ggL_law_X1_invite
set_option maxRecDepth 20000 in
theorem ggL_law_X1_thrown : GoodIn wsL_law wsX1_thrown := goodIn_r _ [111, 102, 445, 446, 447, 448, 449, 450, 451, 452, 453, 454] (by decide +kernel) (by decide +kernel)
set_option maxRecDepth 20000 in
theorem gL_law_X1_thrown : GoodIn wsL_law (wsV RL 63 RX1 yX1_thrown wsX1_thrown) := goodIn_app (goodIn_of _ (by decide +kernel)) ggL_law_X1_thrown
set_option maxRecDepth 20000 in
theorem ggL_law_L_rule : GoodIn wsL_law wsL_rule := goodIn_ca (goodIn_ca (goodIn_ca (goodIn_r _ [114, 115, 116, 91, 117, 118, 119, 2, 120, 121, 122, 96, 97, 28, 14, 15, 29, 123, 124, 125, 126, 127, 128, 129, 130, 131, 132, 53, 39, 40, 41, 20, 21, 22, 23, 16, 17, 24, 25, 26, 27, 30, 31, 32, 33, 34, 35, 36, 37, 38, 42, 43, 44, 45, 46, 47, 48, 49, 50, 51, 52, 19, 54, 55, 56, 57, 58, 59, 60, 61, 62, 63, 64, 65, 66, 67, 68, 69, 70, 71, 72, 73, 74, 435, 436, 437, 438, 439, 440, 441, 442, 443, 444] (by decide +kernel) (by decide +kernel)) (goodIn_sub (fun _ h => List.mem_append_left _ (List.mem_append_right _ h)) (by decide +kernel))) (goodIn_sub (fun _ h => List.mem_append_left _ (List.mem_append_left _ (List.mem_append_right _ h))) (by decide +kernel))) (goodIn_sub (fun _ h => List.mem_append_right _ h) (by decide +kernel))
set_option maxRecDepth 20000 in
theorem gL_law_L_rule : GoodIn wsL_law (va_wsS RL 66 yL_rule wsL_rule) := goodIn_app (goodIn_of _ (by decide +kernel)) ggL_law_L_rule
set_option maxRecDepth 20000 in
theorem ggL_law_X1_rule : GoodIn wsL_law wsX1_rule := goodIn_r _ [136, 102, 137, 79, 80, 138, 139, 140, 5, 141, 103, 142, 143, 144, 104, 105, 106, 107, 445, 446, 447, 448, 449, 450, 451, 452, 453, 454] (by decide +kernel) (by decide +kernel)
set_option maxRecDepth 20000 in
theorem gL_law_X1_rule : GoodIn wsL_law (wsV RL 69 RX1 yX1_rule wsX1_rule) := goodIn_app (goodIn_of _ (by decide +kernel)) ggL_law_X1_rule
set_option maxRecDepth 20000 in
theorem ggL_law_L_turn : GoodIn wsL_law wsL_turn := goodIn_ca (goodIn_r _ [147, 115, 148, 149, 150, 2, 151, 29, 152, 153, 154, 155, 127, 128, 28, 20, 21, 22, 23, 16, 17, 24, 25, 26, 27, 14, 15, 30, 31, 32, 33, 34, 35, 36, 37, 38, 39, 40, 41, 42, 43, 44, 45, 46, 47, 48, 49, 50, 51, 52, 19, 53, 54, 55, 56, 57, 58, 59, 60, 61, 62, 63, 64, 65, 66, 67, 68, 69, 70, 71, 72, 73, 74, 435, 436, 437, 438, 439, 440, 441, 442, 443, 444] (by decide +kernel) (by decide +kernel)) (goodIn_sub (fun _ h => List.mem_append_right _ h) (by decide +kernel))
set_option maxRecDepth 20000 in
theorem gL_law_L_turn : GoodIn wsL_law (va_wsS RL 70 yL_turn wsL_turn) := goodIn_app (goodIn_of _ (by decide +kernel)) ggL_law_L_turn
set_option maxRecDepth 20000 in
theorem ggL_law_X1_turn : GoodIn wsL_law wsX1_turn := goodIn_r _ [159, 137, 102, 82, 142, 143, 5, 144, 445, 446, 447, 448, 449, 450, 451, 452, 453, 454] (by decide +kernel) (by decide +kernel)
set_option maxRecDepth 20000 in
theorem gL_law_X1_turn : GoodIn wsL_law (wsV RL 73 RX1 yX1_turn wsX1_turn) := goodIn_app (goodIn_of _ (by decide +kernel)) ggL_law_X1_turn
set_option maxRecDepth 20000 in
theorem ggL_law_L_told : GoodIn wsL_law wsL_told := goodIn_ca (goodIn_r _ [162, 115, 163, 164, 165, 2, 166, 14, 15, 29, 152, 153, 154, 155, 127, 128, 28, 167, 168, 169, 33, 34, 35, 30, 31, 32, 68, 69, 70, 435, 436, 437, 438, 439, 440, 441, 442, 443, 444] (by decide +kernel) (by decide +kernel)) (goodIn_sub (fun _ h => List.mem_append_right _ h) (by decide +kernel))
set_option maxRecDepth 20000 in
theorem gL_law_L_told : GoodIn wsL_law (va_wsS RL 74 yL_told wsL_told) := goodIn_app (goodIn_of _ (by decide +kernel)) ggL_law_L_told
set_option maxRecDepth 20000 in
theorem ggL_law_X1_told : GoodIn wsL_law wsX1_told := goodIn_r _ [173, 102, 137, 142, 143, 5, 144, 174, 175, 176, 177, 79, 80, 82, 104, 105, 106, 107, 445, 446, 447, 448, 449, 450, 451, 452, 453, 454] (by decide +kernel) (by decide +kernel)
set_option maxRecDepth 20000 in
theorem gL_law_X1_told : GoodIn wsL_law (wsV RL 76 RX1 yX1_told wsX1_told) := goodIn_app (goodIn_of _ (by decide +kernel)) ggL_law_X1_told
set_option maxRecDepth 20000 in
theorem ggL_law_L_follows : GoodIn wsL_law wsL_follows := goodIn_ca (goodIn_r _ [180, 115, 181, 182, 183, 2, 184, 17, 123, 124, 125, 126, 127, 128, 129, 130, 131, 132, 53, 33, 34, 35, 30, 31, 32, 435, 436, 437, 438, 439, 440, 441, 442, 443, 444] (by decide +kernel) (by decide +kernel)) (goodIn_sub (fun _ h => List.mem_append_right _ h) (by decide +kernel))
set_option maxRecDepth 20000 in
theorem gL_law_L_follows : GoodIn wsL_law (va_wsS RL 77 yL_follows wsL_follows) := goodIn_app (goodIn_of _ (by decide +kernel)) ggL_law_L_follows
set_option maxRecDepth 20000 in
theorem ggL_law_X1_follows : GoodIn wsL_law wsX1_follows := goodIn_r _ [188, 102, 138, 139, 140, 5, 141, 103, 142, 143, 144, 189, 190, 191, 192, 86, 193, 194, 195, 196, 85, 137, 82, 79, 80, 197, 198, 199, 200, 201, 202, 203, 445, 446, 447, 448, 449, 450, 451, 452, 453, 454] (by decide +kernel) (by decide +kernel)
set_option maxRecDepth 20000 in
theorem gL_law_X1_follows : GoodIn wsL_law (wsV RL 79 RX1 yX1_follows wsX1_follows) := goodIn_app (goodIn_of _ (by decide +kernel)) ggL_law_X1_follows
set_option maxRecDepth 20000 in
theorem ggL_law_L_reach : GoodIn wsL_law wsL_reach := goodIn_ca (goodIn_r _ [206, 115, 207, 208, 209, 2, 210, 17, 123, 124, 125, 126, 127, 128, 129, 130, 131, 132, 53, 33, 34, 35, 435, 436, 437, 438, 439, 440, 441, 442, 443, 444] (by decide +kernel) (by decide +kernel)) (goodIn_sub (fun _ h => List.mem_append_right _ h) (by decide +kernel))
set_option maxRecDepth 20000 in
theorem gL_law_L_reach : GoodIn wsL_law (va_wsS RL 80 yL_reach wsL_reach) := goodIn_app (goodIn_of _ (by decide +kernel)) ggL_law_L_reach
set_option maxRecDepth 20000 in
theorem ggL_law_X1_reach : GoodIn wsL_law wsX1_reach := goodIn_r _ [214, 102, 138, 139, 140, 5, 141, 103, 142, 143, 144, 215, 216, 217, 218, 86, 193, 194, 195, 196, 85, 137, 82, 79, 80, 197, 198, 199, 200, 201, 202, 203, 104, 105, 106, 107, 445, 446, 447, 448, 449, 450, 451, 452, 453, 454] (by decide +kernel) (by decide +kernel)
set_option maxRecDepth 20000 in
theorem gL_law_X1_reach : GoodIn wsL_law (wsV RL 82 RX1 yX1_reach wsX1_reach) := goodIn_app (goodIn_of _ (by decide +kernel)) ggL_law_X1_reach
set_option maxRecDepth 20000 in
theorem ggL_law_L_steps : GoodIn wsL_law wsL_steps := goodIn_ca (goodIn_r _ [221, 115, 222, 223, 224, 2, 225, 123, 124, 125, 126, 127, 128, 129, 130, 131, 132, 53, 30, 31, 32, 226, 227, 228, 229, 16, 33, 34, 35, 435, 436, 437, 438, 439, 440, 441, 442, 443, 444] (by decide +kernel) (by decide +kernel)) (goodIn_sub (fun _ h => List.mem_append_right _ h) (by decide +kernel))
set_option maxRecDepth 20000 in
theorem gL_law_L_steps : GoodIn wsL_law (va_wsS RL 83 yL_steps wsL_steps) := goodIn_app (goodIn_of _ (by decide +kernel)) ggL_law_L_steps
set_option maxRecDepth 20000 in
theorem ggL_law_X1_steps : GoodIn wsL_law wsX1_steps := goodIn_r _ [233, 102, 86, 138, 139, 140, 5, 141, 103, 142, 143, 144, 104, 105, 106, 107, 193, 194, 195, 196, 85, 137, 82, 79, 80, 197, 198, 199, 200, 201, 202, 203, 445, 446, 447, 448, 449, 450, 451, 452, 453, 454] (by decide +kernel) (by decide +kernel)
set_option maxRecDepth 20000 in
theorem gL_law_X1_steps : GoodIn wsL_law (wsV RL 85 RX1 yX1_steps wsX1_steps) := goodIn_app (goodIn_of _ (by decide +kernel)) ggL_law_X1_steps
set_option maxRecDepth 20000 in
theorem ggL_law_L_guest : GoodIn wsL_law wsL_guest := goodIn_ca (goodIn_r _ [236, 115, 237, 238, 239, 2, 240, 17, 241, 242, 243, 244, 127, 128, 53, 167, 168, 169, 54, 55, 56, 57, 58, 59, 60, 61, 62, 63, 64, 65, 66, 67, 33, 34, 35, 42, 43, 44, 30, 31, 32, 68, 69, 70, 245, 246, 247, 248, 129, 130, 131, 132, 249, 250, 251, 252, 253, 254, 255, 435, 436, 437, 438, 439, 440, 441, 442, 443, 444] (by decide +kernel) (by decide +kernel)) (goodIn_sub (fun _ h => List.mem_append_right _ h) (by decide +kernel))
set_option maxRecDepth 20000 in
theorem gL_law_L_guest : GoodIn wsL_law (va_wsS RL 86 yL_guest wsL_guest) := goodIn_app (goodIn_of _ (by decide +kernel)) ggL_law_L_guest
set_option maxRecDepth 20000 in
theorem ggL_law_X1_guest : GoodIn wsL_law wsX1_guest := goodIn_r _ [259, 102, 103, 142, 143, 5, 144, 260, 261, 262, 263, 264, 265, 266, 267, 268, 269, 270, 271, 272, 273, 274, 275, 276, 277, 278, 279, 137, 82, 79, 80, 83, 84, 280, 281, 282, 283, 284, 285, 286, 287, 288, 289, 290, 201, 202, 203, 189, 190, 191, 192, 86, 193, 194, 195, 196, 85, 197, 198, 199, 200, 104, 105, 106, 107, 445, 446, 447, 448, 449, 450, 451, 452, 453, 454] (by decide +kernel) (by decide +kernel)
set_option maxRecDepth 20000 in
theorem gL_law_X1_guest : GoodIn wsL_law (wsV RL 88 RX1 yX1_guest wsX1_guest) := goodIn_app (goodIn_of _ (by decide +kernel)) ggL_law_X1_guest
set_option maxRecDepth 20000 in
theorem ggL_law_X0_fits : GoodIn wsL_law wsX0_fits := goodIn_r _ [57, 17, 58, 59, 60, 2, 61, 53, 62, 63, 64, 65, 66, 67, 33, 34, 35, 42, 43, 44, 30, 31, 32, 68, 69, 70, 435, 436, 437, 438, 439, 440, 441, 442, 443, 444] (by decide +kernel) (by decide +kernel)
set_option maxRecDepth 20000 in
theorem gL_law_X0_fits : GoodIn wsL_law (wsV RL 89 RX0 yX0_fits wsX0_fits) := goodIn_app (goodIn_of _ (by decide +kernel)) ggL_law_X0_fits
set_option maxRecDepth 20000 in
theorem ggL_law_X1_fits : GoodIn wsL_law wsX1_fits := goodIn_r _ [295, 102, 268, 269, 270, 5, 271, 272, 273, 274, 275, 103, 276, 277, 278, 279, 137, 82, 79, 80, 83, 84, 280, 281, 282, 445, 446, 447, 448, 449, 450, 451, 452, 453, 454] (by decide +kernel) (by decide +kernel)
set_option maxRecDepth 20000 in
theorem gL_law_X1_fits : GoodIn wsL_law (wsV RL 93 RX1 yX1_fits wsX1_fits) := goodIn_app (goodIn_of _ (by decide +kernel)) ggL_law_X1_fits
set_option maxRecDepth 20000 in
theorem ggL_law_X0_seat : GoodIn wsL_law wsX0_seat := goodIn_r _ [299, 52, 19, 33, 34, 2, 35, 300, 301, 302, 303, 53, 30, 31, 32, 435, 436, 437, 438, 439, 440, 441, 442, 443, 444] (by decide +kernel) (by decide +kernel)
set_option maxRecDepth 20000 in
theorem gL_law_X0_seat : GoodIn wsL_law (wsV RL 94 RX0 yX0_seat wsX0_seat) := goodIn_app (goodIn_of _ (by decide +kernel)) ggL_law_X0_seat
set_option maxRecDepth 20000 in
theorem ggL_law_X1_seat : GoodIn wsL_law wsX1_seat := goodIn_r _ [307, 102, 308, 309, 310, 5, 311, 103, 268, 269, 270, 271, 272, 273, 274, 275, 276, 277, 278, 279, 137, 82, 79, 80, 83, 84, 280, 281, 282, 445, 446, 447, 448, 449, 450, 451, 452, 453, 454] (by decide +kernel) (by decide +kernel)
set_option maxRecDepth 20000 in
theorem gL_law_X1_seat : GoodIn wsL_law (wsV RL 97 RX1 yX1_seat wsX1_seat) := goodIn_app (goodIn_of _ (by decide +kernel)) ggL_law_X1_seat
set_option maxRecDepth 20000 in
theorem ggL_law_X0_seatings : GoodIn wsL_law wsX0_seatings := goodIn_r _ [315, 52, 435, 436, 437, 438, 439, 440, 441, 442, 443, 444] (by decide +kernel) (by decide +kernel)
set_option maxRecDepth 20000 in
theorem gL_law_X0_seatings : GoodIn wsL_law (wsV RL 98 RX0 yX0_seatings wsX0_seatings) := goodIn_app (goodIn_of _ (by decide +kernel)) ggL_law_X0_seatings
set_option maxRecDepth 20000 in
theorem ggL_law_X1_seatings : GoodIn wsL_law wsX1_seatings := goodIn_r _ [319, 102, 268, 269, 270, 5, 271, 272, 273, 274, 275, 103, 276, 277, 278, 279, 137, 82, 79, 80, 83, 84, 280, 281, 282, 445, 446, 447, 448, 449, 450, 451, 452, 453, 454] (by decide +kernel) (by decide +kernel)
set_option maxRecDepth 20000 in
theorem gL_law_X1_seatings : GoodIn wsL_law (wsV RL 101 RX1 yX1_seatings wsX1_seatings) := goodIn_app (goodIn_of _ (by decide +kernel)) ggL_law_X1_seatings
set_option maxRecDepth 20000 in
theorem ggL_law_X0_fewest : GoodIn wsL_law wsX0_fewest := goodIn_r _ [323, 52, 19, 33, 34, 2, 35, 324, 325, 326, 327, 249, 250, 251, 252, 253, 254, 255, 435, 436, 437, 438, 439, 440, 441, 442, 443, 444] (by decide +kernel) (by decide +kernel)
set_option maxRecDepth 20000 in
theorem gL_law_X0_fewest : GoodIn wsL_law (wsV RL 102 RX0 yX0_fewest wsX0_fewest) := goodIn_app (goodIn_of _ (by decide +kernel)) ggL_law_X0_fewest
set_option maxRecDepth 20000 in
theorem ggL_law_X1_fewest : GoodIn wsL_law wsX1_fewest := goodIn_r _ [331, 102, 103, 276, 277, 278, 5, 279, 137, 82, 79, 80, 83, 84, 280, 281, 282, 332, 333, 334, 445, 446, 447, 448, 449, 450, 451, 452, 453, 454] (by decide +kernel) (by decide +kernel)
set_option maxRecDepth 20000 in
theorem gL_law_X1_fewest : GoodIn wsL_law (wsV RL 105 RX1 yX1_fewest wsX1_fewest) := goodIn_app (goodIn_of _ (by decide +kernel)) ggL_law_X1_fewest
set_option maxRecDepth 20000 in
theorem ggL_law_X0_most : GoodIn wsL_law wsX0_most := goodIn_r _ [338, 52, 19, 339, 340, 341, 342, 33, 34, 2, 35, 324, 325, 326, 327, 249, 250, 251, 252, 253, 254, 255, 435, 436, 437, 438, 439, 440, 441, 442, 443, 444] (by decide +kernel) (by decide +kernel)
set_option maxRecDepth 20000 in
theorem gL_law_X0_most : GoodIn wsL_law (wsV RL 106 RX0 yX0_most wsX0_most) := goodIn_app (goodIn_of _ (by decide +kernel)) ggL_law_X0_most
set_option maxRecDepth 20000 in
theorem ggL_law_X1_most : GoodIn wsL_law wsX1_most := goodIn_r _ [346, 102, 103, 347, 340, 341, 342, 276, 277, 278, 5, 279, 137, 82, 79, 80, 83, 84, 280, 281, 282, 332, 333, 334, 445, 446, 447, 448, 449, 450, 451, 452, 453, 454] (by decide +kernel) (by decide +kernel)
set_option maxRecDepth 20000 in
theorem gL_law_X1_most : GoodIn wsL_law (wsV RL 109 RX1 yX1_most wsX1_most) := goodIn_app (goodIn_of _ (by decide +kernel)) ggL_law_X1_most
set_option maxRecDepth 20000 in
theorem ggL_law_L_broken : GoodIn wsL_law wsL_broken := goodIn_ca (goodIn_r _ [350, 116, 351, 352, 353, 2, 354, 121, 122, 53, 28, 29, 14, 15, 30, 31, 32, 33, 34, 35, 355, 356, 357, 435, 436, 437, 438, 439, 440, 441, 442, 443, 444] (by decide +kernel) (by decide +kernel)) (goodIn_sub (fun _ h => List.mem_append_left _ (List.mem_append_right _ h)) (by decide +kernel))
set_option maxRecDepth 20000 in
theorem gL_law_L_broken : GoodIn wsL_law (va_wsS RL 110 yL_broken wsL_broken) := goodIn_app (goodIn_of _ (by decide +kernel)) ggL_law_L_broken
set_option maxRecDepth 20000 in
theorem ggL_law_X1_broken : GoodIn wsL_law wsX1_broken := goodIn_r _ [361, 102, 103, 142, 143, 5, 144, 276, 277, 278, 279, 137, 82, 79, 80, 83, 84, 280, 281, 282, 104, 105, 106, 107, 445, 446, 447, 448, 449, 450, 451, 452, 453, 454] (by decide +kernel) (by decide +kernel)
set_option maxRecDepth 20000 in
theorem gL_law_X1_broken : GoodIn wsL_law (wsV RL 112 RX1 yX1_broken wsX1_broken) := goodIn_app (goodIn_of _ (by decide +kernel)) ggL_law_X1_broken
set_option maxRecDepth 20000 in
theorem ggL_law_X0_blame : GoodIn wsL_law wsX0_blame := goodIn_r _ [365, 28, 29, 54, 55, 56, 2, 57, 17, 58, 59, 60, 61, 53, 62, 63, 64, 65, 66, 67, 33, 34, 35, 42, 43, 44, 30, 31, 32, 68, 69, 70, 366, 367, 368, 369, 18, 24, 25, 26, 27, 14, 15, 36, 37, 38, 39, 40, 41, 45, 46, 47, 435, 436, 437, 438, 439, 440, 441, 442, 443, 444] (by decide +kernel) (by decide +kernel)
set_option maxRecDepth 20000 in
theorem gL_law_X0_blame : GoodIn wsL_law (wsV RL 113 RX0 yX0_blame wsX0_blame) := goodIn_app (goodIn_of _ (by decide +kernel)) ggL_law_X0_blame
set_option maxRecDepth 20000 in
theorem ggL_law_X1_blame : GoodIn wsL_law wsX1_blame := goodIn_r _ [373, 102, 137, 82, 268, 269, 270, 5, 271, 272, 273, 274, 275, 103, 276, 277, 278, 279, 79, 80, 83, 84, 280, 281, 282, 445, 446, 447, 448, 449, 450, 451, 452, 453, 454] (by decide +kernel) (by decide +kernel)
set_option maxRecDepth 20000 in
theorem gL_law_X1_blame : GoodIn wsL_law (wsV RL 116 RX1 yX1_blame wsX1_blame) := goodIn_app (goodIn_of _ (by decide +kernel)) ggL_law_X1_blame
set_option maxRecDepth 20000 in
theorem ggL_law_L_tightens : GoodIn wsL_law wsL_tightens := goodIn_ca (goodIn_r _ [376, 115, 377, 378, 379, 2, 380, 52, 19, 123, 124, 125, 126, 127, 128, 129, 130, 131, 132, 53, 33, 34, 35, 30, 31, 32, 435, 436, 437, 438, 439, 440, 441, 442, 443, 444] (by decide +kernel) (by decide +kernel)) (goodIn_sub (fun _ h => List.mem_append_right _ h) (by decide +kernel))
set_option maxRecDepth 20000 in
theorem gL_law_L_tightens : GoodIn wsL_law (va_wsS RL 117 yL_tightens wsL_tightens) := goodIn_app (goodIn_of _ (by decide +kernel)) ggL_law_L_tightens
set_option maxRecDepth 20000 in
theorem ggL_law_X1_tightens : GoodIn wsL_law wsX1_tightens := goodIn_r _ [384, 102, 83, 84, 138, 139, 140, 5, 141, 103, 142, 143, 144, 104, 105, 106, 107, 268, 269, 270, 271, 272, 273, 274, 275, 276, 277, 278, 279, 137, 82, 79, 80, 280, 281, 282, 445, 446, 447, 448, 449, 450, 451, 452, 453, 454] (by decide +kernel) (by decide +kernel)
set_option maxRecDepth 20000 in
theorem gL_law_X1_tightens : GoodIn wsL_law (wsV RL 119 RX1 yX1_tightens wsX1_tightens) := goodIn_app (goodIn_of _ (by decide +kernel)) ggL_law_X1_tightens
set_option maxRecDepth 20000 in
theorem ggL_law_L_count : GoodIn wsL_law wsL_count := goodIn_ca (goodIn_r _ [387, 115, 388, 389, 390, 2, 391, 53, 28, 29, 17, 167, 168, 169, 127, 128, 249, 250, 251, 252, 253, 254, 255, 58, 59, 60, 61, 62, 63, 64, 65, 66, 67, 33, 34, 35, 42, 43, 44, 30, 31, 32, 68, 69, 70, 392, 393, 394, 395, 129, 130, 131, 132, 396, 397, 398, 399, 435, 436, 437, 438, 439, 440, 441, 442, 443, 444] (by decide +kernel) (by decide +kernel)) (goodIn_sub (fun _ h => List.mem_append_right _ h) (by decide +kernel))
set_option maxRecDepth 20000 in
theorem gL_law_L_count : GoodIn wsL_law (va_wsS RL 120 yL_count wsL_count) := goodIn_app (goodIn_of _ (by decide +kernel)) ggL_law_L_count
set_option maxRecDepth 20000 in
theorem ggL_law_X1_count : GoodIn wsL_law wsX1_count := goodIn_r _ [403, 102, 142, 143, 5, 144, 404, 405, 406, 407, 103, 137, 82, 283, 284, 285, 286, 287, 288, 289, 290, 201, 202, 203, 189, 190, 191, 192, 86, 193, 194, 195, 196, 85, 79, 80, 197, 198, 199, 200, 104, 105, 106, 107, 445, 446, 447, 448, 449, 450, 451, 452, 453, 454] (by decide +kernel) (by decide +kernel)
set_option maxRecDepth 20000 in
theorem gL_law_X1_count : GoodIn wsL_law (wsV RL 122 RX1 yX1_count wsX1_count) := goodIn_app (goodIn_of _ (by decide +kernel)) ggL_law_X1_count
set_option maxRecDepth 20000 in
theorem ggL_law_X0_mean : GoodIn wsL_law wsX0_mean := goodIn_r _ [411, 52, 19, 33, 34, 2, 35, 324, 325, 326, 327, 249, 250, 251, 252, 253, 254, 255, 435, 436, 437, 438, 439, 440, 441, 442, 443, 444] (by decide +kernel) (by decide +kernel)
set_option maxRecDepth 20000 in
theorem gL_law_X0_mean : GoodIn wsL_law (wsV RL 123 RX0 yX0_mean wsX0_mean) := goodIn_app (goodIn_of _ (by decide +kernel)) ggL_law_X0_mean
set_option maxRecDepth 20000 in
theorem ggL_law_X1_mean : GoodIn wsL_law wsX1_mean := goodIn_r _ [415, 102, 103, 276, 277, 278, 5, 279, 137, 82, 79, 80, 83, 84, 280, 281, 282, 332, 333, 334, 268, 269, 270, 271, 272, 273, 274, 275, 445, 446, 447, 448, 449, 450, 451, 452, 453, 454] (by decide +kernel) (by decide +kernel)
set_option maxRecDepth 20000 in
theorem gL_law_X1_mean : GoodIn wsL_law (wsV RL 127 RX1 yX1_mean wsX1_mean) := goodIn_app (goodIn_of _ (by decide +kernel)) ggL_law_X1_mean
set_option maxRecDepth 20000 in
theorem ggL_law_X0_digest : GoodIn wsL_law wsX0_digest := goodIn_ca (goodIn_r _ [419, 420, 28, 17, 53, 52, 421, 389, 390, 2, 391, 29, 167, 168, 169, 127, 128, 249, 250, 251, 252, 253, 254, 255, 58, 59, 60, 61, 62, 63, 64, 65, 66, 67, 33, 34, 35, 42, 43, 44, 30, 31, 32, 68, 69, 70, 392, 393, 394, 395, 129, 130, 131, 132, 396, 397, 398, 399, 422, 423, 424, 425, 426, 164, 165, 166, 14, 15, 152, 153, 154, 155, 427, 238, 239, 240, 241, 242, 243, 244, 54, 55, 56, 57, 245, 246, 247, 248, 428, 297, 298, 299, 19, 300, 301, 302, 303, 435, 436, 437, 438, 439, 440, 441, 442, 443, 444] (by decide +kernel) (by decide +kernel)) (goodIn_sub (fun _ h => List.mem_append_right _ h) (by decide +kernel))
set_option maxRecDepth 20000 in
theorem gL_law_X0_digest : GoodIn wsL_law (wsV RL 128 RX0 yX0_digest wsX0_digest) := goodIn_app (goodIn_of _ (by decide +kernel)) ggL_law_X0_digest
set_option maxRecDepth 20000 in
theorem ggL_law_X1_digest : GoodIn wsL_law wsX1_digest := goodIn_r _ [432, 102, 433, 434, 137, 103, 404, 405, 406, 5, 407, 82, 283, 284, 285, 286, 287, 288, 289, 290, 201, 202, 203, 189, 190, 191, 192, 86, 193, 194, 195, 196, 85, 79, 80, 197, 198, 199, 200, 174, 175, 176, 177, 215, 216, 217, 218, 260, 261, 262, 263, 264, 265, 266, 267, 268, 269, 270, 271, 272, 273, 274, 275, 276, 277, 278, 279, 83, 84, 280, 281, 282, 308, 309, 310, 311, 445, 446, 447, 448, 449, 450, 451, 452, 453, 454] (by decide +kernel) (by decide +kernel)
set_option maxRecDepth 20000 in
theorem gL_law_X1_digest : GoodIn wsL_law (wsV RL 132 RX1 yX1_digest wsX1_digest) := goodIn_app (goodIn_of _ (by decide +kernel)) ggL_law_X1_digest
theorem dL_law_0 : decode cL_law 0 = .ok (.new 8, 3) := by decide +kernel
theorem dL_law_3 : decode cL_law 3 = .ok (.dup, 1) := by decide +kernel
theorem dL_law_4 : decode cL_law 4 = .ok (.invokespecial 53, 3) := by decide +kernel
theorem dL_law_7 : decode cL_law 7 = .ok (.astore_n 1, 1) := by decide +kernel
theorem dL_law_8 : decode cL_law 8 = .ok (.new 54, 3) := by decide +kernel
theorem dL_law_11 : decode cL_law 11 = .ok (.dup, 1) := by decide +kernel
theorem dL_law_12 : decode cL_law 12 = .ok (.invokespecial 56, 3) := by decide +kernel
theorem dL_law_15 : decode cL_law 15 = .ok (.astore_n 2, 1) := by decide +kernel
theorem dL_law_16 : decode cL_law 16 = .ok (.iconst 1, 1) := by decide +kernel
theorem dL_law_17 : decode cL_law 17 = .ok (.newarray .long, 2) := by decide +kernel
theorem dL_law_19 : decode cL_law 19 = .ok (.astore_n 3, 1) := by decide +kernel
theorem dL_law_20 : decode cL_law 20 = .ok (.iconst 0, 1) := by decide +kernel
theorem dL_law_21 : decode cL_law 21 = .ok (.istore 4, 2) := by decide +kernel
theorem dL_law_23 : decode cL_law 23 = .ok (.iload 4, 2) := by decide +kernel
theorem dL_law_25 : decode cL_law 25 = .ok (.aload_n 0, 1) := by decide +kernel
theorem dL_law_26 : decode cL_law 26 = .ok (.arraylength, 1) := by decide +kernel
theorem dL_law_27 : decode cL_law 27 = .ok (.iconst 3, 1) := by decide +kernel
theorem dL_law_28 : decode cL_law 28 = .ok (.isub, 1) := by decide +kernel
theorem dL_law_29 : decode cL_law 29 = .ok (.if_icmp .gt 928, 3) := by decide +kernel
theorem dL_law_32 : decode cL_law 32 = .ok (.aload_n 0, 1) := by decide +kernel
theorem dL_law_33 : decode cL_law 33 = .ok (.iload 4, 2) := by decide +kernel
theorem dL_law_35 : decode cL_law 35 = .ok (.iaload, 1) := by decide +kernel
theorem dL_law_36 : decode cL_law 36 = .ok (.bipush 31, 2) := by decide +kernel
theorem dL_law_38 : decode cL_law 38 = .ok (.iand, 1) := by decide +kernel
theorem dL_law_39 : decode cL_law 39 = .ok (.tableswitch 912 0 18 #[89, 133, 201, 264, 332, 407, 463, 531, 599, 612, 625, 638, 651, 664, 720, 733, 801, 857, 898], 89) := by decide +kernel
theorem dL_law_128 : decode cL_law 128 = .ok (.aload_n 1, 1) := by decide +kernel
theorem dL_law_129 : decode cL_law 129 = .ok (.aload_n 3, 1) := by decide +kernel
theorem dL_law_130 : decode cL_law 130 = .ok (.invokestatic 57, 3) := by decide +kernel
theorem dL_law_133 : decode cL_law 133 = .ok (.istore 5, 2) := by decide +kernel
theorem dL_law_135 : decode cL_law 135 = .ok (.aload_n 2, 1) := by decide +kernel
theorem dL_law_136 : decode cL_law 136 = .ok (.invokevirtual 62, 3) := by decide +kernel
theorem dL_law_139 : decode cL_law 139 = .ok (.istore 6, 2) := by decide +kernel
theorem dL_law_141 : decode cL_law 141 = .ok (.aload_n 2, 1) := by decide +kernel
theorem dL_law_142 : decode cL_law 142 = .ok (.invokevirtual 63, 3) := by decide +kernel
theorem dL_law_145 : decode cL_law 145 = .ok (.iload 5, 2) := by decide +kernel
theorem dL_law_147 : decode cL_law 147 = .ok (.if_icmp .eq 5, 3) := by decide +kernel
theorem dL_law_150 : decode cL_law 150 = .ok (.iconst 0, 1) := by decide +kernel
theorem dL_law_151 : decode cL_law 151 = .ok (.ireturn, 1) := by decide +kernel
theorem dL_law_152 : decode cL_law 152 = .ok (.iload 5, 2) := by decide +kernel
theorem dL_law_154 : decode cL_law 154 = .ok (.ifCond .ne 15, 3) := by decide +kernel
theorem dL_law_157 : decode cL_law 157 = .ok (.aload_n 3, 1) := by decide +kernel
theorem dL_law_158 : decode cL_law 158 = .ok (.iconst 0, 1) := by decide +kernel
theorem dL_law_159 : decode cL_law 159 = .ok (.laload, 1) := by decide +kernel
theorem dL_law_160 : decode cL_law 160 = .ok (.iload 6, 2) := by decide +kernel
theorem dL_law_162 : decode cL_law 162 = .ok (.i2l, 1) := by decide +kernel
theorem dL_law_163 : decode cL_law 163 = .ok (.lcmp, 1) := by decide +kernel
theorem dL_law_164 : decode cL_law 164 = .ok (.ifCond .eq 5, 3) := by decide +kernel
theorem dL_law_167 : decode cL_law 167 = .ok (.iconst 0, 1) := by decide +kernel
theorem dL_law_168 : decode cL_law 168 = .ok (.ireturn, 1) := by decide +kernel
theorem dL_law_169 : decode cL_law 169 = .ok (.goto 782, 3) := by decide +kernel
theorem dL_law_172 : decode cL_law 172 = .ok (.aload_n 1, 1) := by decide +kernel
theorem dL_law_173 : decode cL_law 173 = .ok (.aload_n 0, 1) := by decide +kernel
theorem dL_law_174 : decode cL_law 174 = .ok (.iload 4, 2) := by decide +kernel
theorem dL_law_176 : decode cL_law 176 = .ok (.iconst 1, 1) := by decide +kernel
theorem dL_law_177 : decode cL_law 177 = .ok (.iadd, 1) := by decide +kernel
theorem dL_law_178 : decode cL_law 178 = .ok (.iaload, 1) := by decide +kernel
theorem dL_law_179 : decode cL_law 179 = .ok (.aload_n 0, 1) := by decide +kernel
theorem dL_law_180 : decode cL_law 180 = .ok (.iload 4, 2) := by decide +kernel
theorem dL_law_182 : decode cL_law 182 = .ok (.iconst 2, 1) := by decide +kernel
theorem dL_law_183 : decode cL_law 183 = .ok (.iadd, 1) := by decide +kernel
theorem dL_law_184 : decode cL_law 184 = .ok (.iaload, 1) := by decide +kernel
theorem dL_law_185 : decode cL_law 185 = .ok (.aload_n 3, 1) := by decide +kernel
theorem dL_law_186 : decode cL_law 186 = .ok (.invokestatic 66, 3) := by decide +kernel
theorem dL_law_189 : decode cL_law 189 = .ok (.istore 5, 2) := by decide +kernel
theorem dL_law_191 : decode cL_law 191 = .ok (.aload_n 2, 1) := by decide +kernel
theorem dL_law_192 : decode cL_law 192 = .ok (.aload_n 0, 1) := by decide +kernel
theorem dL_law_193 : decode cL_law 193 = .ok (.iload 4, 2) := by decide +kernel
theorem dL_law_195 : decode cL_law 195 = .ok (.iconst 1, 1) := by decide +kernel
theorem dL_law_196 : decode cL_law 196 = .ok (.iadd, 1) := by decide +kernel
theorem dL_law_197 : decode cL_law 197 = .ok (.iaload, 1) := by decide +kernel
theorem dL_law_198 : decode cL_law 198 = .ok (.aload_n 0, 1) := by decide +kernel
theorem dL_law_199 : decode cL_law 199 = .ok (.iload 4, 2) := by decide +kernel
theorem dL_law_201 : decode cL_law 201 = .ok (.iconst 2, 1) := by decide +kernel
theorem dL_law_202 : decode cL_law 202 = .ok (.iadd, 1) := by decide +kernel
theorem dL_law_203 : decode cL_law 203 = .ok (.iaload, 1) := by decide +kernel
theorem dL_law_204 : decode cL_law 204 = .ok (.invokevirtual 69, 3) := by decide +kernel
theorem dL_law_207 : decode cL_law 207 = .ok (.istore 6, 2) := by decide +kernel
theorem dL_law_209 : decode cL_law 209 = .ok (.aload_n 2, 1) := by decide +kernel
theorem dL_law_210 : decode cL_law 210 = .ok (.invokevirtual 63, 3) := by decide +kernel
theorem dL_law_213 : decode cL_law 213 = .ok (.iload 5, 2) := by decide +kernel
theorem dL_law_215 : decode cL_law 215 = .ok (.if_icmp .eq 5, 3) := by decide +kernel
theorem dL_law_218 : decode cL_law 218 = .ok (.iconst 0, 1) := by decide +kernel
theorem dL_law_219 : decode cL_law 219 = .ok (.ireturn, 1) := by decide +kernel
theorem dL_law_220 : decode cL_law 220 = .ok (.iload 5, 2) := by decide +kernel
theorem dL_law_222 : decode cL_law 222 = .ok (.ifCond .ne 15, 3) := by decide +kernel
theorem dL_law_225 : decode cL_law 225 = .ok (.aload_n 3, 1) := by decide +kernel
theorem dL_law_226 : decode cL_law 226 = .ok (.iconst 0, 1) := by decide +kernel
theorem dL_law_227 : decode cL_law 227 = .ok (.laload, 1) := by decide +kernel
theorem dL_law_228 : decode cL_law 228 = .ok (.iload 6, 2) := by decide +kernel
theorem dL_law_230 : decode cL_law 230 = .ok (.i2l, 1) := by decide +kernel
theorem dL_law_231 : decode cL_law 231 = .ok (.lcmp, 1) := by decide +kernel
theorem dL_law_232 : decode cL_law 232 = .ok (.ifCond .eq 5, 3) := by decide +kernel
theorem dL_law_235 : decode cL_law 235 = .ok (.iconst 0, 1) := by decide +kernel
theorem dL_law_236 : decode cL_law 236 = .ok (.ireturn, 1) := by decide +kernel
theorem dL_law_237 : decode cL_law 237 = .ok (.goto 714, 3) := by decide +kernel
theorem dL_law_240 : decode cL_law 240 = .ok (.aload_n 1, 1) := by decide +kernel
theorem dL_law_241 : decode cL_law 241 = .ok (.aload_n 0, 1) := by decide +kernel
theorem dL_law_242 : decode cL_law 242 = .ok (.iload 4, 2) := by decide +kernel
theorem dL_law_244 : decode cL_law 244 = .ok (.iconst 1, 1) := by decide +kernel
theorem dL_law_245 : decode cL_law 245 = .ok (.iadd, 1) := by decide +kernel
theorem dL_law_246 : decode cL_law 246 = .ok (.iaload, 1) := by decide +kernel
theorem dL_law_247 : decode cL_law 247 = .ok (.aload_n 3, 1) := by decide +kernel
theorem dL_law_248 : decode cL_law 248 = .ok (.invokestatic 70, 3) := by decide +kernel
theorem dL_law_251 : decode cL_law 251 = .ok (.istore 5, 2) := by decide +kernel
theorem dL_law_253 : decode cL_law 253 = .ok (.aload_n 2, 1) := by decide +kernel
theorem dL_law_254 : decode cL_law 254 = .ok (.aload_n 0, 1) := by decide +kernel
theorem dL_law_255 : decode cL_law 255 = .ok (.iload 4, 2) := by decide +kernel
theorem dL_law_257 : decode cL_law 257 = .ok (.iconst 1, 1) := by decide +kernel
theorem dL_law_258 : decode cL_law 258 = .ok (.iadd, 1) := by decide +kernel
theorem dL_law_259 : decode cL_law 259 = .ok (.iaload, 1) := by decide +kernel
theorem dL_law_260 : decode cL_law 260 = .ok (.invokevirtual 73, 3) := by decide +kernel
theorem dL_law_263 : decode cL_law 263 = .ok (.istore 6, 2) := by decide +kernel
theorem dL_law_265 : decode cL_law 265 = .ok (.aload_n 2, 1) := by decide +kernel
theorem dL_law_266 : decode cL_law 266 = .ok (.invokevirtual 63, 3) := by decide +kernel
theorem dL_law_269 : decode cL_law 269 = .ok (.iload 5, 2) := by decide +kernel
theorem dL_law_271 : decode cL_law 271 = .ok (.if_icmp .eq 5, 3) := by decide +kernel
theorem dL_law_274 : decode cL_law 274 = .ok (.iconst 0, 1) := by decide +kernel
theorem dL_law_275 : decode cL_law 275 = .ok (.ireturn, 1) := by decide +kernel
theorem dL_law_276 : decode cL_law 276 = .ok (.iload 5, 2) := by decide +kernel
theorem dL_law_278 : decode cL_law 278 = .ok (.ifCond .ne 22, 3) := by decide +kernel
theorem dL_law_281 : decode cL_law 281 = .ok (.aload_n 3, 1) := by decide +kernel
theorem dL_law_282 : decode cL_law 282 = .ok (.iconst 0, 1) := by decide +kernel
theorem dL_law_283 : decode cL_law 283 = .ok (.laload, 1) := by decide +kernel
theorem dL_law_284 : decode cL_law 284 = .ok (.iload 6, 2) := by decide +kernel
theorem dL_law_286 : decode cL_law 286 = .ok (.ifCond .eq 7, 3) := by decide +kernel
theorem dL_law_289 : decode cL_law 289 = .ok (.lconst 1, 1) := by decide +kernel
theorem dL_law_290 : decode cL_law 290 = .ok (.goto 4, 3) := by decide +kernel
theorem dL_law_293 : decode cL_law 293 = .ok (.lconst 0, 1) := by decide +kernel
theorem dL_law_294 : decode cL_law 294 = .ok (.lcmp, 1) := by decide +kernel
theorem dL_law_295 : decode cL_law 295 = .ok (.ifCond .eq 5, 3) := by decide +kernel
theorem dL_law_298 : decode cL_law 298 = .ok (.iconst 0, 1) := by decide +kernel
theorem dL_law_299 : decode cL_law 299 = .ok (.ireturn, 1) := by decide +kernel
theorem dL_law_300 : decode cL_law 300 = .ok (.goto 651, 3) := by decide +kernel
theorem dL_law_303 : decode cL_law 303 = .ok (.aload_n 1, 1) := by decide +kernel
theorem dL_law_304 : decode cL_law 304 = .ok (.aload_n 0, 1) := by decide +kernel
theorem dL_law_305 : decode cL_law 305 = .ok (.iload 4, 2) := by decide +kernel
theorem dL_law_307 : decode cL_law 307 = .ok (.iconst 1, 1) := by decide +kernel
theorem dL_law_308 : decode cL_law 308 = .ok (.iadd, 1) := by decide +kernel
theorem dL_law_309 : decode cL_law 309 = .ok (.iaload, 1) := by decide +kernel
theorem dL_law_310 : decode cL_law 310 = .ok (.aload_n 0, 1) := by decide +kernel
theorem dL_law_311 : decode cL_law 311 = .ok (.iload 4, 2) := by decide +kernel
theorem dL_law_313 : decode cL_law 313 = .ok (.iconst 2, 1) := by decide +kernel
theorem dL_law_314 : decode cL_law 314 = .ok (.iadd, 1) := by decide +kernel
theorem dL_law_315 : decode cL_law 315 = .ok (.iaload, 1) := by decide +kernel
theorem dL_law_316 : decode cL_law 316 = .ok (.aload_n 3, 1) := by decide +kernel
theorem dL_law_317 : decode cL_law 317 = .ok (.invokestatic 74, 3) := by decide +kernel
theorem dL_law_320 : decode cL_law 320 = .ok (.istore 5, 2) := by decide +kernel
theorem dL_law_322 : decode cL_law 322 = .ok (.aload_n 2, 1) := by decide +kernel
theorem dL_law_323 : decode cL_law 323 = .ok (.aload_n 0, 1) := by decide +kernel
theorem dL_law_324 : decode cL_law 324 = .ok (.iload 4, 2) := by decide +kernel
theorem dL_law_326 : decode cL_law 326 = .ok (.iconst 1, 1) := by decide +kernel
theorem dL_law_327 : decode cL_law 327 = .ok (.iadd, 1) := by decide +kernel
theorem dL_law_328 : decode cL_law 328 = .ok (.iaload, 1) := by decide +kernel
theorem dL_law_329 : decode cL_law 329 = .ok (.aload_n 0, 1) := by decide +kernel
theorem dL_law_330 : decode cL_law 330 = .ok (.iload 4, 2) := by decide +kernel
theorem dL_law_332 : decode cL_law 332 = .ok (.iconst 2, 1) := by decide +kernel
theorem dL_law_333 : decode cL_law 333 = .ok (.iadd, 1) := by decide +kernel
theorem dL_law_334 : decode cL_law 334 = .ok (.iaload, 1) := by decide +kernel
theorem dL_law_335 : decode cL_law 335 = .ok (.invokevirtual 76, 3) := by decide +kernel
theorem dL_law_338 : decode cL_law 338 = .ok (.istore 6, 2) := by decide +kernel
theorem dL_law_340 : decode cL_law 340 = .ok (.aload_n 2, 1) := by decide +kernel
theorem dL_law_341 : decode cL_law 341 = .ok (.invokevirtual 63, 3) := by decide +kernel
theorem dL_law_344 : decode cL_law 344 = .ok (.iload 5, 2) := by decide +kernel
theorem dL_law_346 : decode cL_law 346 = .ok (.if_icmp .eq 5, 3) := by decide +kernel
theorem dL_law_349 : decode cL_law 349 = .ok (.iconst 0, 1) := by decide +kernel
theorem dL_law_350 : decode cL_law 350 = .ok (.ireturn, 1) := by decide +kernel
theorem dL_law_351 : decode cL_law 351 = .ok (.iload 5, 2) := by decide +kernel
theorem dL_law_353 : decode cL_law 353 = .ok (.ifCond .ne 15, 3) := by decide +kernel
theorem dL_law_356 : decode cL_law 356 = .ok (.aload_n 3, 1) := by decide +kernel
theorem dL_law_357 : decode cL_law 357 = .ok (.iconst 0, 1) := by decide +kernel
theorem dL_law_358 : decode cL_law 358 = .ok (.laload, 1) := by decide +kernel
theorem dL_law_359 : decode cL_law 359 = .ok (.iload 6, 2) := by decide +kernel
theorem dL_law_361 : decode cL_law 361 = .ok (.i2l, 1) := by decide +kernel
theorem dL_law_362 : decode cL_law 362 = .ok (.lcmp, 1) := by decide +kernel
theorem dL_law_363 : decode cL_law 363 = .ok (.ifCond .eq 5, 3) := by decide +kernel
theorem dL_law_366 : decode cL_law 366 = .ok (.iconst 0, 1) := by decide +kernel
theorem dL_law_367 : decode cL_law 367 = .ok (.ireturn, 1) := by decide +kernel
theorem dL_law_368 : decode cL_law 368 = .ok (.goto 583, 3) := by decide +kernel
theorem dL_law_371 : decode cL_law 371 = .ok (.aload_n 1, 1) := by decide +kernel
theorem dL_law_372 : decode cL_law 372 = .ok (.aload_n 0, 1) := by decide +kernel
theorem dL_law_373 : decode cL_law 373 = .ok (.iload 4, 2) := by decide +kernel
theorem dL_law_375 : decode cL_law 375 = .ok (.iconst 1, 1) := by decide +kernel
theorem dL_law_376 : decode cL_law 376 = .ok (.iadd, 1) := by decide +kernel
theorem dL_law_377 : decode cL_law 377 = .ok (.iaload, 1) := by decide +kernel
theorem dL_law_378 : decode cL_law 378 = .ok (.aload_n 0, 1) := by decide +kernel
theorem dL_law_379 : decode cL_law 379 = .ok (.iload 4, 2) := by decide +kernel
theorem dL_law_381 : decode cL_law 381 = .ok (.iconst 2, 1) := by decide +kernel
theorem dL_law_382 : decode cL_law 382 = .ok (.iadd, 1) := by decide +kernel
theorem dL_law_383 : decode cL_law 383 = .ok (.iaload, 1) := by decide +kernel
theorem dL_law_384 : decode cL_law 384 = .ok (.aload_n 3, 1) := by decide +kernel
theorem dL_law_385 : decode cL_law 385 = .ok (.invokestatic 77, 3) := by decide +kernel
theorem dL_law_388 : decode cL_law 388 = .ok (.istore 5, 2) := by decide +kernel
theorem dL_law_390 : decode cL_law 390 = .ok (.aload_n 2, 1) := by decide +kernel
theorem dL_law_391 : decode cL_law 391 = .ok (.aload_n 0, 1) := by decide +kernel
theorem dL_law_392 : decode cL_law 392 = .ok (.iload 4, 2) := by decide +kernel
theorem dL_law_394 : decode cL_law 394 = .ok (.iconst 1, 1) := by decide +kernel
theorem dL_law_395 : decode cL_law 395 = .ok (.iadd, 1) := by decide +kernel
theorem dL_law_396 : decode cL_law 396 = .ok (.iaload, 1) := by decide +kernel
theorem dL_law_397 : decode cL_law 397 = .ok (.aload_n 0, 1) := by decide +kernel
theorem dL_law_398 : decode cL_law 398 = .ok (.iload 4, 2) := by decide +kernel
theorem dL_law_400 : decode cL_law 400 = .ok (.iconst 2, 1) := by decide +kernel
theorem dL_law_401 : decode cL_law 401 = .ok (.iadd, 1) := by decide +kernel
theorem dL_law_402 : decode cL_law 402 = .ok (.iaload, 1) := by decide +kernel
theorem dL_law_403 : decode cL_law 403 = .ok (.invokevirtual 79, 3) := by decide +kernel
theorem dL_law_406 : decode cL_law 406 = .ok (.istore 6, 2) := by decide +kernel
theorem dL_law_408 : decode cL_law 408 = .ok (.aload_n 2, 1) := by decide +kernel
theorem dL_law_409 : decode cL_law 409 = .ok (.invokevirtual 63, 3) := by decide +kernel
theorem dL_law_412 : decode cL_law 412 = .ok (.iload 5, 2) := by decide +kernel
theorem dL_law_414 : decode cL_law 414 = .ok (.if_icmp .eq 5, 3) := by decide +kernel
theorem dL_law_417 : decode cL_law 417 = .ok (.iconst 0, 1) := by decide +kernel
theorem dL_law_418 : decode cL_law 418 = .ok (.ireturn, 1) := by decide +kernel
theorem dL_law_419 : decode cL_law 419 = .ok (.iload 5, 2) := by decide +kernel
theorem dL_law_421 : decode cL_law 421 = .ok (.ifCond .ne 22, 3) := by decide +kernel
theorem dL_law_424 : decode cL_law 424 = .ok (.aload_n 3, 1) := by decide +kernel
theorem dL_law_425 : decode cL_law 425 = .ok (.iconst 0, 1) := by decide +kernel
theorem dL_law_426 : decode cL_law 426 = .ok (.laload, 1) := by decide +kernel
theorem dL_law_427 : decode cL_law 427 = .ok (.iload 6, 2) := by decide +kernel
theorem dL_law_429 : decode cL_law 429 = .ok (.ifCond .eq 7, 3) := by decide +kernel
theorem dL_law_432 : decode cL_law 432 = .ok (.lconst 1, 1) := by decide +kernel
theorem dL_law_433 : decode cL_law 433 = .ok (.goto 4, 3) := by decide +kernel
theorem dL_law_436 : decode cL_law 436 = .ok (.lconst 0, 1) := by decide +kernel
theorem dL_law_437 : decode cL_law 437 = .ok (.lcmp, 1) := by decide +kernel
theorem dL_law_438 : decode cL_law 438 = .ok (.ifCond .eq 5, 3) := by decide +kernel
theorem dL_law_441 : decode cL_law 441 = .ok (.iconst 0, 1) := by decide +kernel
theorem dL_law_442 : decode cL_law 442 = .ok (.ireturn, 1) := by decide +kernel
theorem dL_law_443 : decode cL_law 443 = .ok (.goto 508, 3) := by decide +kernel
theorem dL_law_446 : decode cL_law 446 = .ok (.aload_n 1, 1) := by decide +kernel
theorem dL_law_447 : decode cL_law 447 = .ok (.aload_n 0, 1) := by decide +kernel
theorem dL_law_448 : decode cL_law 448 = .ok (.iload 4, 2) := by decide +kernel
theorem dL_law_450 : decode cL_law 450 = .ok (.iconst 1, 1) := by decide +kernel
theorem dL_law_451 : decode cL_law 451 = .ok (.iadd, 1) := by decide +kernel
theorem dL_law_452 : decode cL_law 452 = .ok (.iaload, 1) := by decide +kernel
theorem dL_law_453 : decode cL_law 453 = .ok (.aload_n 3, 1) := by decide +kernel
theorem dL_law_454 : decode cL_law 454 = .ok (.invokestatic 80, 3) := by decide +kernel
theorem dL_law_457 : decode cL_law 457 = .ok (.istore 5, 2) := by decide +kernel
theorem dL_law_459 : decode cL_law 459 = .ok (.aload_n 2, 1) := by decide +kernel
theorem dL_law_460 : decode cL_law 460 = .ok (.aload_n 0, 1) := by decide +kernel
theorem dL_law_461 : decode cL_law 461 = .ok (.iload 4, 2) := by decide +kernel
theorem dL_law_463 : decode cL_law 463 = .ok (.iconst 1, 1) := by decide +kernel
theorem dL_law_464 : decode cL_law 464 = .ok (.iadd, 1) := by decide +kernel
theorem dL_law_465 : decode cL_law 465 = .ok (.iaload, 1) := by decide +kernel
theorem dL_law_466 : decode cL_law 466 = .ok (.invokevirtual 82, 3) := by decide +kernel
theorem dL_law_469 : decode cL_law 469 = .ok (.istore 6, 2) := by decide +kernel
theorem dL_law_471 : decode cL_law 471 = .ok (.aload_n 2, 1) := by decide +kernel
theorem dL_law_472 : decode cL_law 472 = .ok (.invokevirtual 63, 3) := by decide +kernel
theorem dL_law_475 : decode cL_law 475 = .ok (.iload 5, 2) := by decide +kernel
theorem dL_law_477 : decode cL_law 477 = .ok (.if_icmp .eq 5, 3) := by decide +kernel
theorem dL_law_480 : decode cL_law 480 = .ok (.iconst 0, 1) := by decide +kernel
theorem dL_law_481 : decode cL_law 481 = .ok (.ireturn, 1) := by decide +kernel
theorem dL_law_482 : decode cL_law 482 = .ok (.iload 5, 2) := by decide +kernel
theorem dL_law_484 : decode cL_law 484 = .ok (.ifCond .ne 15, 3) := by decide +kernel
theorem dL_law_487 : decode cL_law 487 = .ok (.aload_n 3, 1) := by decide +kernel
theorem dL_law_488 : decode cL_law 488 = .ok (.iconst 0, 1) := by decide +kernel
theorem dL_law_489 : decode cL_law 489 = .ok (.laload, 1) := by decide +kernel
theorem dL_law_490 : decode cL_law 490 = .ok (.iload 6, 2) := by decide +kernel
theorem dL_law_492 : decode cL_law 492 = .ok (.i2l, 1) := by decide +kernel
theorem dL_law_493 : decode cL_law 493 = .ok (.lcmp, 1) := by decide +kernel
theorem dL_law_494 : decode cL_law 494 = .ok (.ifCond .eq 5, 3) := by decide +kernel
theorem dL_law_497 : decode cL_law 497 = .ok (.iconst 0, 1) := by decide +kernel
theorem dL_law_498 : decode cL_law 498 = .ok (.ireturn, 1) := by decide +kernel
theorem dL_law_499 : decode cL_law 499 = .ok (.goto 452, 3) := by decide +kernel
theorem dL_law_502 : decode cL_law 502 = .ok (.aload_n 1, 1) := by decide +kernel
theorem dL_law_503 : decode cL_law 503 = .ok (.aload_n 0, 1) := by decide +kernel
theorem dL_law_504 : decode cL_law 504 = .ok (.iload 4, 2) := by decide +kernel
theorem dL_law_506 : decode cL_law 506 = .ok (.iconst 1, 1) := by decide +kernel
theorem dL_law_507 : decode cL_law 507 = .ok (.iadd, 1) := by decide +kernel
theorem dL_law_508 : decode cL_law 508 = .ok (.iaload, 1) := by decide +kernel
theorem dL_law_509 : decode cL_law 509 = .ok (.aload_n 0, 1) := by decide +kernel
theorem dL_law_510 : decode cL_law 510 = .ok (.iload 4, 2) := by decide +kernel
theorem dL_law_512 : decode cL_law 512 = .ok (.iconst 2, 1) := by decide +kernel
theorem dL_law_513 : decode cL_law 513 = .ok (.iadd, 1) := by decide +kernel
theorem dL_law_514 : decode cL_law 514 = .ok (.iaload, 1) := by decide +kernel
theorem dL_law_515 : decode cL_law 515 = .ok (.aload_n 3, 1) := by decide +kernel
theorem dL_law_516 : decode cL_law 516 = .ok (.invokestatic 83, 3) := by decide +kernel
theorem dL_law_519 : decode cL_law 519 = .ok (.istore 5, 2) := by decide +kernel
theorem dL_law_521 : decode cL_law 521 = .ok (.aload_n 2, 1) := by decide +kernel
theorem dL_law_522 : decode cL_law 522 = .ok (.aload_n 0, 1) := by decide +kernel
theorem dL_law_523 : decode cL_law 523 = .ok (.iload 4, 2) := by decide +kernel
theorem dL_law_525 : decode cL_law 525 = .ok (.iconst 1, 1) := by decide +kernel
theorem dL_law_526 : decode cL_law 526 = .ok (.iadd, 1) := by decide +kernel
theorem dL_law_527 : decode cL_law 527 = .ok (.iaload, 1) := by decide +kernel
theorem dL_law_528 : decode cL_law 528 = .ok (.aload_n 0, 1) := by decide +kernel
theorem dL_law_529 : decode cL_law 529 = .ok (.iload 4, 2) := by decide +kernel
theorem dL_law_531 : decode cL_law 531 = .ok (.iconst 2, 1) := by decide +kernel
theorem dL_law_532 : decode cL_law 532 = .ok (.iadd, 1) := by decide +kernel
theorem dL_law_533 : decode cL_law 533 = .ok (.iaload, 1) := by decide +kernel
theorem dL_law_534 : decode cL_law 534 = .ok (.invokevirtual 85, 3) := by decide +kernel
theorem dL_law_537 : decode cL_law 537 = .ok (.istore 6, 2) := by decide +kernel
theorem dL_law_539 : decode cL_law 539 = .ok (.aload_n 2, 1) := by decide +kernel
theorem dL_law_540 : decode cL_law 540 = .ok (.invokevirtual 63, 3) := by decide +kernel
theorem dL_law_543 : decode cL_law 543 = .ok (.iload 5, 2) := by decide +kernel
theorem dL_law_545 : decode cL_law 545 = .ok (.if_icmp .eq 5, 3) := by decide +kernel
theorem dL_law_548 : decode cL_law 548 = .ok (.iconst 0, 1) := by decide +kernel
theorem dL_law_549 : decode cL_law 549 = .ok (.ireturn, 1) := by decide +kernel
theorem dL_law_550 : decode cL_law 550 = .ok (.iload 5, 2) := by decide +kernel
theorem dL_law_552 : decode cL_law 552 = .ok (.ifCond .ne 15, 3) := by decide +kernel
theorem dL_law_555 : decode cL_law 555 = .ok (.aload_n 3, 1) := by decide +kernel
theorem dL_law_556 : decode cL_law 556 = .ok (.iconst 0, 1) := by decide +kernel
theorem dL_law_557 : decode cL_law 557 = .ok (.laload, 1) := by decide +kernel
theorem dL_law_558 : decode cL_law 558 = .ok (.iload 6, 2) := by decide +kernel
theorem dL_law_560 : decode cL_law 560 = .ok (.i2l, 1) := by decide +kernel
theorem dL_law_561 : decode cL_law 561 = .ok (.lcmp, 1) := by decide +kernel
theorem dL_law_562 : decode cL_law 562 = .ok (.ifCond .eq 5, 3) := by decide +kernel
theorem dL_law_565 : decode cL_law 565 = .ok (.iconst 0, 1) := by decide +kernel
theorem dL_law_566 : decode cL_law 566 = .ok (.ireturn, 1) := by decide +kernel
theorem dL_law_567 : decode cL_law 567 = .ok (.goto 384, 3) := by decide +kernel
theorem dL_law_570 : decode cL_law 570 = .ok (.aload_n 1, 1) := by decide +kernel
theorem dL_law_571 : decode cL_law 571 = .ok (.aload_n 0, 1) := by decide +kernel
theorem dL_law_572 : decode cL_law 572 = .ok (.iload 4, 2) := by decide +kernel
theorem dL_law_574 : decode cL_law 574 = .ok (.iconst 1, 1) := by decide +kernel
theorem dL_law_575 : decode cL_law 575 = .ok (.iadd, 1) := by decide +kernel
theorem dL_law_576 : decode cL_law 576 = .ok (.iaload, 1) := by decide +kernel
theorem dL_law_577 : decode cL_law 577 = .ok (.aload_n 0, 1) := by decide +kernel
theorem dL_law_578 : decode cL_law 578 = .ok (.iload 4, 2) := by decide +kernel
theorem dL_law_580 : decode cL_law 580 = .ok (.iconst 2, 1) := by decide +kernel
theorem dL_law_581 : decode cL_law 581 = .ok (.iadd, 1) := by decide +kernel
theorem dL_law_582 : decode cL_law 582 = .ok (.iaload, 1) := by decide +kernel
theorem dL_law_583 : decode cL_law 583 = .ok (.aload_n 3, 1) := by decide +kernel
theorem dL_law_584 : decode cL_law 584 = .ok (.invokestatic 86, 3) := by decide +kernel
theorem dL_law_587 : decode cL_law 587 = .ok (.istore 5, 2) := by decide +kernel
theorem dL_law_589 : decode cL_law 589 = .ok (.aload_n 2, 1) := by decide +kernel
theorem dL_law_590 : decode cL_law 590 = .ok (.aload_n 0, 1) := by decide +kernel
theorem dL_law_591 : decode cL_law 591 = .ok (.iload 4, 2) := by decide +kernel
theorem dL_law_593 : decode cL_law 593 = .ok (.iconst 1, 1) := by decide +kernel
theorem dL_law_594 : decode cL_law 594 = .ok (.iadd, 1) := by decide +kernel
theorem dL_law_595 : decode cL_law 595 = .ok (.iaload, 1) := by decide +kernel
theorem dL_law_596 : decode cL_law 596 = .ok (.aload_n 0, 1) := by decide +kernel
theorem dL_law_597 : decode cL_law 597 = .ok (.iload 4, 2) := by decide +kernel
theorem dL_law_599 : decode cL_law 599 = .ok (.iconst 2, 1) := by decide +kernel
theorem dL_law_600 : decode cL_law 600 = .ok (.iadd, 1) := by decide +kernel
theorem dL_law_601 : decode cL_law 601 = .ok (.iaload, 1) := by decide +kernel
theorem dL_law_602 : decode cL_law 602 = .ok (.invokevirtual 88, 3) := by decide +kernel
theorem dL_law_605 : decode cL_law 605 = .ok (.istore 6, 2) := by decide +kernel
theorem dL_law_607 : decode cL_law 607 = .ok (.aload_n 2, 1) := by decide +kernel
theorem dL_law_608 : decode cL_law 608 = .ok (.invokevirtual 63, 3) := by decide +kernel
theorem dL_law_611 : decode cL_law 611 = .ok (.iload 5, 2) := by decide +kernel
theorem dL_law_613 : decode cL_law 613 = .ok (.if_icmp .eq 5, 3) := by decide +kernel
theorem dL_law_616 : decode cL_law 616 = .ok (.iconst 0, 1) := by decide +kernel
theorem dL_law_617 : decode cL_law 617 = .ok (.ireturn, 1) := by decide +kernel
theorem dL_law_618 : decode cL_law 618 = .ok (.iload 5, 2) := by decide +kernel
theorem dL_law_620 : decode cL_law 620 = .ok (.ifCond .ne 15, 3) := by decide +kernel
theorem dL_law_623 : decode cL_law 623 = .ok (.aload_n 3, 1) := by decide +kernel
theorem dL_law_624 : decode cL_law 624 = .ok (.iconst 0, 1) := by decide +kernel
theorem dL_law_625 : decode cL_law 625 = .ok (.laload, 1) := by decide +kernel
theorem dL_law_626 : decode cL_law 626 = .ok (.iload 6, 2) := by decide +kernel
theorem dL_law_628 : decode cL_law 628 = .ok (.i2l, 1) := by decide +kernel
theorem dL_law_629 : decode cL_law 629 = .ok (.lcmp, 1) := by decide +kernel
theorem dL_law_630 : decode cL_law 630 = .ok (.ifCond .eq 5, 3) := by decide +kernel
theorem dL_law_633 : decode cL_law 633 = .ok (.iconst 0, 1) := by decide +kernel
theorem dL_law_634 : decode cL_law 634 = .ok (.ireturn, 1) := by decide +kernel
theorem dL_law_635 : decode cL_law 635 = .ok (.goto 316, 3) := by decide +kernel
theorem dL_law_638 : decode cL_law 638 = .ok (.aload_n 1, 1) := by decide +kernel
theorem dL_law_639 : decode cL_law 639 = .ok (.invokevirtual 89, 3) := by decide +kernel
theorem dL_law_642 : decode cL_law 642 = .ok (.aload_n 2, 1) := by decide +kernel
theorem dL_law_643 : decode cL_law 643 = .ok (.invokevirtual 93, 3) := by decide +kernel
theorem dL_law_646 : decode cL_law 646 = .ok (.if_icmp .eq 305, 3) := by decide +kernel
theorem dL_law_649 : decode cL_law 649 = .ok (.iconst 0, 1) := by decide +kernel
theorem dL_law_650 : decode cL_law 650 = .ok (.ireturn, 1) := by decide +kernel
theorem dL_law_651 : decode cL_law 651 = .ok (.aload_n 1, 1) := by decide +kernel
theorem dL_law_652 : decode cL_law 652 = .ok (.invokevirtual 94, 3) := by decide +kernel
theorem dL_law_655 : decode cL_law 655 = .ok (.aload_n 2, 1) := by decide +kernel
theorem dL_law_656 : decode cL_law 656 = .ok (.invokevirtual 97, 3) := by decide +kernel
theorem dL_law_659 : decode cL_law 659 = .ok (.if_icmp .eq 292, 3) := by decide +kernel
theorem dL_law_662 : decode cL_law 662 = .ok (.iconst 0, 1) := by decide +kernel
theorem dL_law_663 : decode cL_law 663 = .ok (.ireturn, 1) := by decide +kernel
theorem dL_law_664 : decode cL_law 664 = .ok (.aload_n 1, 1) := by decide +kernel
theorem dL_law_665 : decode cL_law 665 = .ok (.invokevirtual 98, 3) := by decide +kernel
theorem dL_law_668 : decode cL_law 668 = .ok (.aload_n 2, 1) := by decide +kernel
theorem dL_law_669 : decode cL_law 669 = .ok (.invokevirtual 101, 3) := by decide +kernel
theorem dL_law_672 : decode cL_law 672 = .ok (.if_icmp .eq 279, 3) := by decide +kernel
theorem dL_law_675 : decode cL_law 675 = .ok (.iconst 0, 1) := by decide +kernel
theorem dL_law_676 : decode cL_law 676 = .ok (.ireturn, 1) := by decide +kernel
theorem dL_law_677 : decode cL_law 677 = .ok (.aload_n 1, 1) := by decide +kernel
theorem dL_law_678 : decode cL_law 678 = .ok (.invokevirtual 102, 3) := by decide +kernel
theorem dL_law_681 : decode cL_law 681 = .ok (.aload_n 2, 1) := by decide +kernel
theorem dL_law_682 : decode cL_law 682 = .ok (.invokevirtual 105, 3) := by decide +kernel
theorem dL_law_685 : decode cL_law 685 = .ok (.if_icmp .eq 266, 3) := by decide +kernel
theorem dL_law_688 : decode cL_law 688 = .ok (.iconst 0, 1) := by decide +kernel
theorem dL_law_689 : decode cL_law 689 = .ok (.ireturn, 1) := by decide +kernel
theorem dL_law_690 : decode cL_law 690 = .ok (.aload_n 1, 1) := by decide +kernel
theorem dL_law_691 : decode cL_law 691 = .ok (.invokevirtual 106, 3) := by decide +kernel
theorem dL_law_694 : decode cL_law 694 = .ok (.aload_n 2, 1) := by decide +kernel
theorem dL_law_695 : decode cL_law 695 = .ok (.invokevirtual 109, 3) := by decide +kernel
theorem dL_law_698 : decode cL_law 698 = .ok (.if_icmp .eq 253, 3) := by decide +kernel
theorem dL_law_701 : decode cL_law 701 = .ok (.iconst 0, 1) := by decide +kernel
theorem dL_law_702 : decode cL_law 702 = .ok (.ireturn, 1) := by decide +kernel
theorem dL_law_703 : decode cL_law 703 = .ok (.aload_n 1, 1) := by decide +kernel
theorem dL_law_704 : decode cL_law 704 = .ok (.aload_n 0, 1) := by decide +kernel
theorem dL_law_705 : decode cL_law 705 = .ok (.iload 4, 2) := by decide +kernel
theorem dL_law_707 : decode cL_law 707 = .ok (.iconst 1, 1) := by decide +kernel
theorem dL_law_708 : decode cL_law 708 = .ok (.iadd, 1) := by decide +kernel
theorem dL_law_709 : decode cL_law 709 = .ok (.iaload, 1) := by decide +kernel
theorem dL_law_710 : decode cL_law 710 = .ok (.aload_n 3, 1) := by decide +kernel
theorem dL_law_711 : decode cL_law 711 = .ok (.invokestatic 110, 3) := by decide +kernel
theorem dL_law_714 : decode cL_law 714 = .ok (.istore 5, 2) := by decide +kernel
theorem dL_law_716 : decode cL_law 716 = .ok (.aload_n 2, 1) := by decide +kernel
theorem dL_law_717 : decode cL_law 717 = .ok (.aload_n 0, 1) := by decide +kernel
theorem dL_law_718 : decode cL_law 718 = .ok (.iload 4, 2) := by decide +kernel
theorem dL_law_720 : decode cL_law 720 = .ok (.iconst 1, 1) := by decide +kernel
theorem dL_law_721 : decode cL_law 721 = .ok (.iadd, 1) := by decide +kernel
theorem dL_law_722 : decode cL_law 722 = .ok (.iaload, 1) := by decide +kernel
theorem dL_law_723 : decode cL_law 723 = .ok (.invokevirtual 112, 3) := by decide +kernel
theorem dL_law_726 : decode cL_law 726 = .ok (.istore 6, 2) := by decide +kernel
theorem dL_law_728 : decode cL_law 728 = .ok (.aload_n 2, 1) := by decide +kernel
theorem dL_law_729 : decode cL_law 729 = .ok (.invokevirtual 63, 3) := by decide +kernel
theorem dL_law_732 : decode cL_law 732 = .ok (.iload 5, 2) := by decide +kernel
theorem dL_law_734 : decode cL_law 734 = .ok (.if_icmp .eq 5, 3) := by decide +kernel
theorem dL_law_737 : decode cL_law 737 = .ok (.iconst 0, 1) := by decide +kernel
theorem dL_law_738 : decode cL_law 738 = .ok (.ireturn, 1) := by decide +kernel
theorem dL_law_739 : decode cL_law 739 = .ok (.iload 5, 2) := by decide +kernel
theorem dL_law_741 : decode cL_law 741 = .ok (.ifCond .ne 15, 3) := by decide +kernel
theorem dL_law_744 : decode cL_law 744 = .ok (.aload_n 3, 1) := by decide +kernel
theorem dL_law_745 : decode cL_law 745 = .ok (.iconst 0, 1) := by decide +kernel
theorem dL_law_746 : decode cL_law 746 = .ok (.laload, 1) := by decide +kernel
theorem dL_law_747 : decode cL_law 747 = .ok (.iload 6, 2) := by decide +kernel
theorem dL_law_749 : decode cL_law 749 = .ok (.i2l, 1) := by decide +kernel
theorem dL_law_750 : decode cL_law 750 = .ok (.lcmp, 1) := by decide +kernel
theorem dL_law_751 : decode cL_law 751 = .ok (.ifCond .eq 5, 3) := by decide +kernel
theorem dL_law_754 : decode cL_law 754 = .ok (.iconst 0, 1) := by decide +kernel
theorem dL_law_755 : decode cL_law 755 = .ok (.ireturn, 1) := by decide +kernel
theorem dL_law_756 : decode cL_law 756 = .ok (.goto 195, 3) := by decide +kernel
theorem dL_law_759 : decode cL_law 759 = .ok (.aload_n 1, 1) := by decide +kernel
theorem dL_law_760 : decode cL_law 760 = .ok (.invokevirtual 113, 3) := by decide +kernel
theorem dL_law_763 : decode cL_law 763 = .ok (.aload_n 2, 1) := by decide +kernel
theorem dL_law_764 : decode cL_law 764 = .ok (.invokevirtual 116, 3) := by decide +kernel
theorem dL_law_767 : decode cL_law 767 = .ok (.if_icmp .eq 184, 3) := by decide +kernel
theorem dL_law_770 : decode cL_law 770 = .ok (.iconst 0, 1) := by decide +kernel
theorem dL_law_771 : decode cL_law 771 = .ok (.ireturn, 1) := by decide +kernel
theorem dL_law_772 : decode cL_law 772 = .ok (.aload_n 1, 1) := by decide +kernel
theorem dL_law_773 : decode cL_law 773 = .ok (.aload_n 0, 1) := by decide +kernel
theorem dL_law_774 : decode cL_law 774 = .ok (.iload 4, 2) := by decide +kernel
theorem dL_law_776 : decode cL_law 776 = .ok (.iconst 1, 1) := by decide +kernel
theorem dL_law_777 : decode cL_law 777 = .ok (.iadd, 1) := by decide +kernel
theorem dL_law_778 : decode cL_law 778 = .ok (.iaload, 1) := by decide +kernel
theorem dL_law_779 : decode cL_law 779 = .ok (.aload_n 0, 1) := by decide +kernel
theorem dL_law_780 : decode cL_law 780 = .ok (.iload 4, 2) := by decide +kernel
theorem dL_law_782 : decode cL_law 782 = .ok (.iconst 2, 1) := by decide +kernel
theorem dL_law_783 : decode cL_law 783 = .ok (.iadd, 1) := by decide +kernel
theorem dL_law_784 : decode cL_law 784 = .ok (.iaload, 1) := by decide +kernel
theorem dL_law_785 : decode cL_law 785 = .ok (.aload_n 3, 1) := by decide +kernel
theorem dL_law_786 : decode cL_law 786 = .ok (.invokestatic 117, 3) := by decide +kernel
theorem dL_law_789 : decode cL_law 789 = .ok (.istore 5, 2) := by decide +kernel
theorem dL_law_791 : decode cL_law 791 = .ok (.aload_n 2, 1) := by decide +kernel
theorem dL_law_792 : decode cL_law 792 = .ok (.aload_n 0, 1) := by decide +kernel
theorem dL_law_793 : decode cL_law 793 = .ok (.iload 4, 2) := by decide +kernel
theorem dL_law_795 : decode cL_law 795 = .ok (.iconst 1, 1) := by decide +kernel
theorem dL_law_796 : decode cL_law 796 = .ok (.iadd, 1) := by decide +kernel
theorem dL_law_797 : decode cL_law 797 = .ok (.iaload, 1) := by decide +kernel
theorem dL_law_798 : decode cL_law 798 = .ok (.aload_n 0, 1) := by decide +kernel
theorem dL_law_799 : decode cL_law 799 = .ok (.iload 4, 2) := by decide +kernel
theorem dL_law_801 : decode cL_law 801 = .ok (.iconst 2, 1) := by decide +kernel
theorem dL_law_802 : decode cL_law 802 = .ok (.iadd, 1) := by decide +kernel
theorem dL_law_803 : decode cL_law 803 = .ok (.iaload, 1) := by decide +kernel
theorem dL_law_804 : decode cL_law 804 = .ok (.invokevirtual 119, 3) := by decide +kernel
theorem dL_law_807 : decode cL_law 807 = .ok (.istore 6, 2) := by decide +kernel
theorem dL_law_809 : decode cL_law 809 = .ok (.aload_n 2, 1) := by decide +kernel
theorem dL_law_810 : decode cL_law 810 = .ok (.invokevirtual 63, 3) := by decide +kernel
theorem dL_law_813 : decode cL_law 813 = .ok (.iload 5, 2) := by decide +kernel
theorem dL_law_815 : decode cL_law 815 = .ok (.if_icmp .eq 5, 3) := by decide +kernel
theorem dL_law_818 : decode cL_law 818 = .ok (.iconst 0, 1) := by decide +kernel
theorem dL_law_819 : decode cL_law 819 = .ok (.ireturn, 1) := by decide +kernel
theorem dL_law_820 : decode cL_law 820 = .ok (.iload 5, 2) := by decide +kernel
theorem dL_law_822 : decode cL_law 822 = .ok (.ifCond .ne 15, 3) := by decide +kernel
theorem dL_law_825 : decode cL_law 825 = .ok (.aload_n 3, 1) := by decide +kernel
theorem dL_law_826 : decode cL_law 826 = .ok (.iconst 0, 1) := by decide +kernel
theorem dL_law_827 : decode cL_law 827 = .ok (.laload, 1) := by decide +kernel
theorem dL_law_828 : decode cL_law 828 = .ok (.iload 6, 2) := by decide +kernel
theorem dL_law_830 : decode cL_law 830 = .ok (.i2l, 1) := by decide +kernel
theorem dL_law_831 : decode cL_law 831 = .ok (.lcmp, 1) := by decide +kernel
theorem dL_law_832 : decode cL_law 832 = .ok (.ifCond .eq 5, 3) := by decide +kernel
theorem dL_law_835 : decode cL_law 835 = .ok (.iconst 0, 1) := by decide +kernel
theorem dL_law_836 : decode cL_law 836 = .ok (.ireturn, 1) := by decide +kernel
theorem dL_law_837 : decode cL_law 837 = .ok (.goto 114, 3) := by decide +kernel
theorem dL_law_840 : decode cL_law 840 = .ok (.aload_n 1, 1) := by decide +kernel
theorem dL_law_841 : decode cL_law 841 = .ok (.aload_n 0, 1) := by decide +kernel
theorem dL_law_842 : decode cL_law 842 = .ok (.iload 4, 2) := by decide +kernel
theorem dL_law_844 : decode cL_law 844 = .ok (.iconst 1, 1) := by decide +kernel
theorem dL_law_845 : decode cL_law 845 = .ok (.iadd, 1) := by decide +kernel
theorem dL_law_846 : decode cL_law 846 = .ok (.iaload, 1) := by decide +kernel
theorem dL_law_847 : decode cL_law 847 = .ok (.aload_n 3, 1) := by decide +kernel
theorem dL_law_848 : decode cL_law 848 = .ok (.invokestatic 120, 3) := by decide +kernel
theorem dL_law_851 : decode cL_law 851 = .ok (.istore 5, 2) := by decide +kernel
theorem dL_law_853 : decode cL_law 853 = .ok (.aload_n 2, 1) := by decide +kernel
theorem dL_law_854 : decode cL_law 854 = .ok (.aload_n 0, 1) := by decide +kernel
theorem dL_law_855 : decode cL_law 855 = .ok (.iload 4, 2) := by decide +kernel
theorem dL_law_857 : decode cL_law 857 = .ok (.iconst 1, 1) := by decide +kernel
theorem dL_law_858 : decode cL_law 858 = .ok (.iadd, 1) := by decide +kernel
theorem dL_law_859 : decode cL_law 859 = .ok (.iaload, 1) := by decide +kernel
theorem dL_law_860 : decode cL_law 860 = .ok (.invokevirtual 122, 3) := by decide +kernel
theorem dL_law_863 : decode cL_law 863 = .ok (.istore 6, 2) := by decide +kernel
theorem dL_law_865 : decode cL_law 865 = .ok (.aload_n 2, 1) := by decide +kernel
theorem dL_law_866 : decode cL_law 866 = .ok (.invokevirtual 63, 3) := by decide +kernel
theorem dL_law_869 : decode cL_law 869 = .ok (.iload 5, 2) := by decide +kernel
theorem dL_law_871 : decode cL_law 871 = .ok (.if_icmp .eq 5, 3) := by decide +kernel
theorem dL_law_874 : decode cL_law 874 = .ok (.iconst 0, 1) := by decide +kernel
theorem dL_law_875 : decode cL_law 875 = .ok (.ireturn, 1) := by decide +kernel
theorem dL_law_876 : decode cL_law 876 = .ok (.iload 5, 2) := by decide +kernel
theorem dL_law_878 : decode cL_law 878 = .ok (.ifCond .ne 15, 3) := by decide +kernel
theorem dL_law_881 : decode cL_law 881 = .ok (.aload_n 3, 1) := by decide +kernel
theorem dL_law_882 : decode cL_law 882 = .ok (.iconst 0, 1) := by decide +kernel
theorem dL_law_883 : decode cL_law 883 = .ok (.laload, 1) := by decide +kernel
theorem dL_law_884 : decode cL_law 884 = .ok (.iload 6, 2) := by decide +kernel
theorem dL_law_886 : decode cL_law 886 = .ok (.i2l, 1) := by decide +kernel
theorem dL_law_887 : decode cL_law 887 = .ok (.lcmp, 1) := by decide +kernel
theorem dL_law_888 : decode cL_law 888 = .ok (.ifCond .eq 5, 3) := by decide +kernel
theorem dL_law_891 : decode cL_law 891 = .ok (.iconst 0, 1) := by decide +kernel
theorem dL_law_892 : decode cL_law 892 = .ok (.ireturn, 1) := by decide +kernel
theorem dL_law_893 : decode cL_law 893 = .ok (.goto 58, 3) := by decide +kernel
theorem dL_law_896 : decode cL_law 896 = .ok (.aload_n 1, 1) := by decide +kernel
theorem dL_law_897 : decode cL_law 897 = .ok (.invokevirtual 123, 3) := by decide +kernel
theorem dL_law_900 : decode cL_law 900 = .ok (.dstore 5, 2) := by decide +kernel
theorem dL_law_902 : decode cL_law 902 = .ok (.aload_n 2, 1) := by decide +kernel
theorem dL_law_903 : decode cL_law 903 = .ok (.invokevirtual 127, 3) := by decide +kernel
theorem dL_law_906 : decode cL_law 906 = .ok (.dstore 7, 2) := by decide +kernel
theorem dL_law_908 : decode cL_law 908 = .ok (.dload 5, 2) := by decide +kernel
theorem dL_law_910 : decode cL_law 910 = .ok (.dload 7, 2) := by decide +kernel
theorem dL_law_912 : decode cL_law 912 = .ok (.dcmp .l, 1) := by decide +kernel
theorem dL_law_913 : decode cL_law 913 = .ok (.ifCond .eq 21, 3) := by decide +kernel
theorem dL_law_916 : decode cL_law 916 = .ok (.dload 5, 2) := by decide +kernel
theorem dL_law_918 : decode cL_law 918 = .ok (.dload 5, 2) := by decide +kernel
theorem dL_law_920 : decode cL_law 920 = .ok (.dcmp .l, 1) := by decide +kernel
theorem dL_law_921 : decode cL_law 921 = .ok (.ifCond .eq 11, 3) := by decide +kernel
theorem dL_law_924 : decode cL_law 924 = .ok (.dload 7, 2) := by decide +kernel
theorem dL_law_926 : decode cL_law 926 = .ok (.dload 7, 2) := by decide +kernel
theorem dL_law_928 : decode cL_law 928 = .ok (.dcmp .l, 1) := by decide +kernel
theorem dL_law_929 : decode cL_law 929 = .ok (.ifCond .ne 5, 3) := by decide +kernel
theorem dL_law_932 : decode cL_law 932 = .ok (.iconst 0, 1) := by decide +kernel
theorem dL_law_933 : decode cL_law 933 = .ok (.ireturn, 1) := by decide +kernel
theorem dL_law_934 : decode cL_law 934 = .ok (.goto 17, 3) := by decide +kernel
theorem dL_law_937 : decode cL_law 937 = .ok (.aload_n 1, 1) := by decide +kernel
theorem dL_law_938 : decode cL_law 938 = .ok (.invokevirtual 128, 3) := by decide +kernel
theorem dL_law_941 : decode cL_law 941 = .ok (.aload_n 2, 1) := by decide +kernel
theorem dL_law_942 : decode cL_law 942 = .ok (.invokevirtual 132, 3) := by decide +kernel
theorem dL_law_945 : decode cL_law 945 = .ok (.lcmp, 1) := by decide +kernel
theorem dL_law_946 : decode cL_law 946 = .ok (.ifCond .eq 5, 3) := by decide +kernel
theorem dL_law_949 : decode cL_law 949 = .ok (.iconst 0, 1) := by decide +kernel
theorem dL_law_950 : decode cL_law 950 = .ok (.ireturn, 1) := by decide +kernel
theorem dL_law_951 : decode cL_law 951 = .ok (.iinc 4 3, 3) := by decide +kernel
theorem dL_law_954 : decode cL_law 954 = .ok (.goto (-931), 3) := by decide +kernel
theorem dL_law_957 : decode cL_law 957 = .ok (.iconst 1, 1) := by decide +kernel
theorem dL_law_958 : decode cL_law 958 = .ok (.ireturn, 1) := by decide +kernel
end
section
/-! WORLDS: the book's cells, the reference's cells; two kinds of premises; small rows that the walks use. -/
/-- the book: h 0 the object, h 1 .. h 6 its rows firsts, seconds, direct, closed, trial, seated -/
abbrev gcW (h : Nat → Nat) (kc : Nat → ClassId) (f1 f2 dr cl tr se : Nat → Int32) (gc rc inf sc : Int32) : va_W := [(h 0, .inr (0, [.ref (h 1), .ref (h 2), .ref (h 3), .ref (h 4), .ref (h 5), .ref (h 6), .int gc, .int rc, .int inf, .int sc])), (h 1, .inl (kc 1, 30, .inl f1)), (h 2, .inl (kc 2, 30, .inl f2)), (h 3, .inl (kc 3, 20, .inl dr)), (h 4, .inl (kc 4, 20, .inl cl)), (h 5, .inl (kc 5, 20, .inl tr)), (h 6, .inl (kc 6, 1024, .inl se))]
abbrev gcT (kc : Nat → ClassId) : List (ClassId × FieldType) := [(kc 1, .int), (kc 2, .int), (kc 3, .int), (kc 4, .int), (kc 5, .int), (kc 6, .int)]
/-- the reference: h 0 the object, h 1 .. h 5 its rows firsts, seconds, off, row, far -/
abbrev gmW (h : Nat → Nat) (kc : Nat → ClassId) (f1 f2 of ro fa : Nat → Int32) (th gs rs x1 x2 : Int32) : va_W := [(h 0, .inr (1, [.int th, .int gs, .int rs, .ref (h 1), .ref (h 2), .ref (h 3), .int x1, .int x2, .ref (h 4), .ref (h 5)])), (h 1, .inl (kc 1, 30, .inl f1)), (h 2, .inl (kc 2, 30, .inl f2)), (h 3, .inl (kc 3, 30, .inl of)), (h 4, .inl (kc 4, 20, .inl ro)), (h 5, .inl (kc 5, 20, .inl fa))]
abbrev gmT (kc : Nat → ClassId) : List (ClassId × FieldType) := [(kc 1, .int), (kc 2, .int), (kc 3, .boolean), (kc 4, .int), (kc 5, .int)]
/-- premises of a method that only reads -/
abbrev gcPR (D : va_G) (As : List Value) (ws : va_W) (tys : List (ClassId × FieldType)) : Array Value → State → Prop := va_Pc As (fun U => va_P D vwCl ws U.heap ∧ va_K D vwCl tys U)
/-- premises of a method that writes -/
abbrev gcPM (D : va_G) (As : List Value) (ws : va_W) (tys : List (ClassId × FieldType)) (sz : Nat) : Array Value → State → Prop := va_Pc As (fun U => U.heap.size = sz ∧ va_P D vwCl ws U.heap ∧ va_K D vwCl tys U ∧ va_D (fun _ => True) ws)
theorem gcPR_blind {D : va_G} {As : List Value} {ws : va_W} {tys : List (ClassId × FieldType)} : FrameBlind (gcPR D As ws tys) := fun a U g mk q => by
  obtain ⟨q0, qP, qK⟩ := q
  exact ⟨q0, qP, va_K.moved (u := U) (U := U.calling g mk a) (Vm.Alike.refl U.vm) qK⟩
theorem gcPM_blind {D : va_G} {As : List Value} {ws : va_W} {tys : List (ClassId × FieldType)} {sz : Nat} : FrameBlind (gcPM D As ws tys sz) := fun a U g mk q => by
  obtain ⟨q0, q1, qP, qK, qD⟩ := q
  exact ⟨q0, q1, qP, va_K.moved (u := U) (U := U.calling g mk a) (Vm.Alike.refl U.vm) qK, qD⟩
theorem gc_keep {D : va_G} {cl : List vw_C} {ws : va_W} {H H1 : Heap} (h : va_P D cl ws H) (hk : ∀ q : Nat, q < H.size → ¬ False → H1[q]? = H[q]?) : va_P D cl ws H1 :=
  h.kept fun _ _ hq => hk _ (vx_lt h hq) id
theorem gc_ge {i N : Nat} (c : nI N ≤ nI i) (h : i ≤ N) (hN : N < 2 ^ 31) : i = N := by
  have h1 := (nI_leI (a := N) (b := i) hN (by omega)).mp c
  omega
theorem gc_lt {i N : Nat} (c : ¬ nI N ≤ nI i) (h : i ≤ N) (hN : N < 2 ^ 31) : i < N := by
  rcases Nat.lt_or_ge i N with h1 | h1
  · exact h1
  · exact absurd (nI_le (a := N) (b := i) h1 (by omega)) c
def gB (b : Bool) : Int32 := if b then 1 else 0
theorem gB_f {b : Bool} (h : gB b = 0) : b = false := by cases b <;> first | rfl | exact absurd h (by decide)
theorem gB_t {b : Bool} (h : ¬ gB b = 0) : b = true := by cases b <;> first | rfl | exact absurd (by decide) h
theorem gB_nar (b : Bool) : narrow .boolean (.int (gB b)) = .int (gB b) := by cases b <;> rfl
theorem gc_in {i : Int32} {n : Nat} (hn : n < 2 ^ 31) (h0 : ¬ i < 0) (h1 : ¬ nI n ≤ i) : vp_in i n := by
  rcases pk_ix i hn with h | h | ⟨j, hj, rfl⟩
  · exact absurd h h0
  · exact absurd h h1
  · exact vp_in_nI hj hn
section Rows
variable {p : Program} {l : Launch} {e : Env} {R : Room} {s : State} {m : MethodId} {args : Array Value} {below : List Frame} {meth : Method} {c : Code} {H : Heap} {locs : List Loc} {cells slots : Nat} {Q : State → Prop} {pc : Nat} {ls : Array Slot} {rest : List Value}
theorem gc_topi {x y : Int32} (h : x = y) (k : W p l e R s m args below meth c H locs cells slots Q (F0 m pc ls (.int y :: rest))) : W p l e R s m args below meth c H locs cells slots Q (F0 m pc ls (.int x :: rest)) := by rw [h]; exact k
theorem gc_topl {x y : Int64} (h : x = y) (k : W p l e R s m args below meth c H locs cells slots Q (F0 m pc ls (.long y :: rest))) : W p l e R s m args below meth c H locs cells slots Q (F0 m pc ls (.long x :: rest)) := by rw [h]; exact k
/-- a loop: an invariant over the count, the heap, what was written and the locals; it holds at the head, one round brings the next head -/
theorem gc_loop (N : Nat) (I : Nat → Heap → List Loc → Array Slot → Prop) (i0 : Nat) (hi0 : i0 ≤ N) (h0 : I i0 H locs ls)
    (step : ∀ (i : Nat) (H : Heap) (locs : List Loc) (ls : Array Slot), i ≤ N → I i H locs ls →
      (∀ (H1 : Heap) (locs1 : List Loc) (ls1 : Array Slot), i < N → I (i + 1) H1 locs1 ls1 → W p l e R s m args below meth c H1 locs1 cells slots Q (F0 m pc ls1 [])) →
      W p l e R s m args below meth c H locs cells slots Q (F0 m pc ls [])) : W p l e R s m args below meth c H locs cells slots Q (F0 m pc ls []) := by
  have K : ∀ (n i : Nat) (H : Heap) (locs : List Loc) (ls : Array Slot), i ≤ N → N < i + n → I i H locs ls → W p l e R s m args below meth c H locs cells slots Q (F0 m pc ls []) := by
    intro n
    induction n with
    | zero => intro i H locs ls h1 h2; exact absurd h2 (by omega)
    | succ n ih =>
      intro i H locs ls h1 h2 h3
      exact step i H locs ls h1 h3 (fun H1 locs1 ls1 h4 h5 => ih (i + 1) H1 locs1 ls1 h4 (by omega) h5)
  exact K (N + 1) i0 H locs ls hi0 (by omega) h0
end Rows
end
section
/-! THE BOOK'S SMALL METHODS: what each answers, in words of the machine's ints. -/
def gHas (x b : Int32) : Bool := decide (¬ ((x >>> (b &&& 31)) &&& 1) = 0)
def gAt (n : Nat) (f : Nat → Int32) (i : Int32) : Int32 := if i < 0 then 0 else if nI n ≤ i then 0 else f i.toNatClampNeg
def gPut (n : Nat) (f : Nat → Int32) (i v : Int32) : Nat → Int32 := if i < 0 then f else if nI n ≤ i then f else upd f i.toNatClampNeg v
def gUs (x k : Int32) : Int32 := (x.toUInt32 >>> (k.toUInt32 &&& Int32.toUInt32 31)).toInt32
def gBC1 (x : Int32) : Int32 := x - (gUs x 1 &&& 1431655765)
def gBC2 (x : Int32) : Int32 := (x &&& 858993459) + (gUs x 2 &&& 858993459)
def gBC3 (x : Int32) : Int32 := (x + gUs x 4) &&& 252645135
def gBC4 (x : Int32) : Int32 := x + gUs x 8
def gBC5 (x : Int32) : Int32 := x + gUs x 16
def gBC (x : Int32) : Int32 := gBC5 (gBC4 (gBC3 (gBC2 (gBC1 x)))) &&& 63
def gHolds (w g : Int32) : Bool := if (w &&& 1) = 0 then gHas g (w >>> (1 &&& 31)) else !gHas g (w >>> (1 &&& 31))
def gVain (n : Nat) (f : Nat → Int32) (w : Int32) : Bool := gHas (gAt n f w) (w ^^^ 1)
def gTorn (n : Nat) (f : Nat → Int32) (g : Int32) : Bool := gVain n f (2 * g) && gVain n f ((2 * g) + 1)
def gLink (n : Nat) (f : Nat → Int32) (a b : Int32) : Nat → Int32 := gPut n f a (gAt n f a ||| ((1 : Int32) <<< (b &&& 31)))
/-- one row of Warshall's closing: the first w wishes take what the middle has -/
def gClB (f : Nat → Int32) (m : Nat) : Nat → (Nat → Int32)
  | 0 => f
  | w + 1 => if gHas (gClB f m w w) (nI m) = true then upd (gClB f m w) w (gClB f m w w ||| gClB f m w m) else gClB f m w
def gCl (f : Nat → Int32) : Nat → (Nat → Int32)
  | 0 => f
  | m + 1 => gClB (gCl f m) m 20
set_option maxHeartbeats 4000000 in
set_option maxRecDepth 100000 in
theorem c_X0_has (l : Launch) (x : Int32) (b : Int32) : Met l yX0_has wsX0_has ({ frames := 0, cells := 0, slots := 0, locals := 0 }) (va_Pc [.int x, .int b] (fun _ => True)) (va_Qi (fun (rv : Int32) (_u : Unit) => rv = gB (gHas x b)) (fun _ _ => True) (fun _ => False)) 0 0 (fun _ => False) := by
  refine Met.ofW (cc := cX0_has) (maxL := 2) (ret := (some .boolean)) (by decide) rfl ?_
  intro p e s m args below meth c s₁ B hml hv
  obtain ⟨rfl, -⟩ := hv
  have hx := B.exec
  have hb := B.bytes
  have hr := B.returns
  have hts := atoms_spec (ws := wsX0_has) B.pre
  have hown : s.vm.findClass RX0 = some m.cls := findClass_of_methodNamed B.named
  have hlocks := B.notSynchronized
  have hS : va_S (fun _ => False) s.heap s.heap [] := va_S.rf
  have hl := lv_entry [.int x, .int b] (n := 2) (Nat.le_of_ble_eq_true rfl)
  rw [lg_entry_eq]
  generalize (lg_sl [.int x, .int b] ++ List.replicate (2 - (lg_sl [.int x, .int b]).length) Slot.unset).toArray = ls at hl ⊢
  have hl : lv_has ls 2 [(0, .int x), (1, .int b)] := hl
  refine lv_iload_n hx hb dX0_has_0 rfl (lv_at hl 0 rfl) ?_
  refine lv_iload_n hx hb dX0_has_1 rfl (lv_at hl 1 rfl) ?_
  refine lv_ishr hx hb dX0_has_2 ?_
  refine lv_iconst (v := 1) hx hb dX0_has_3 (by decide) ?_
  refine lv_iand hx hb dX0_has_4 ?_
  refine lv_if_eq (tgt := 12) hx hb dX0_has_5 (by decide) (fun c_5 => ?_) (fun c_5 => ?_)
  · skip
    refine lv_iconst (v := 0) hx hb dX0_has_12 (by decide) ?_
    have hpost : 0 = gB (gHas x b) := by simp [gB, gHas, c_5]
    exact W.zret (ty := .boolean) (v := 0) hx hb hr (by first | rfl | decide | exact gB_nar _) (fun t ht hW => ⟨⟨0, (), rfl, hpost, trivial⟩, hS.F ht⟩) hS.2.2 dX0_has_13
  · skip
    refine lv_iconst (v := 1) hx hb dX0_has_8 (by decide) ?_
    refine lv_goto (tgt := 13) hx hb dX0_has_9 (by decide) ?_
    have hpost : 1 = gB (gHas x b) := by simp [gB, gHas, c_5]
    exact W.zret (ty := .boolean) (v := 1) hx hb hr (by first | rfl | decide | exact gB_nar _) (fun t ht hW => ⟨⟨1, (), rfl, hpost, trivial⟩, hS.F ht⟩) hS.2.2 dX0_has_13
set_option maxHeartbeats 4000000 in
set_option maxRecDepth 100000 in
theorem c_X0_oneIf (l : Launch) (b : Bool) : Met l yX0_oneIf wsX0_oneIf ({ frames := 0, cells := 0, slots := 0, locals := 0 }) (va_Pc [.int (gB b)] (fun _ => True)) (va_Qi (fun (rv : Int32) (_u : Unit) => rv = gB b) (fun _ _ => True) (fun _ => False)) 0 0 (fun _ => False) := by
  refine Met.ofW (cc := cX0_oneIf) (maxL := 1) (ret := (some .int)) (by decide) rfl ?_
  intro p e s m args below meth c s₁ B hml hv
  obtain ⟨rfl, -⟩ := hv
  have hx := B.exec
  have hb := B.bytes
  have hr := B.returns
  have hts := atoms_spec (ws := wsX0_oneIf) B.pre
  have hown : s.vm.findClass RX0 = some m.cls := findClass_of_methodNamed B.named
  have hlocks := B.notSynchronized
  have hS : va_S (fun _ => False) s.heap s.heap [] := va_S.rf
  have hl := lv_entry [.int (gB b)] (n := 1) (Nat.le_of_ble_eq_true rfl)
  rw [lg_entry_eq]
  generalize (lg_sl [.int (gB b)] ++ List.replicate (1 - (lg_sl [.int (gB b)]).length) Slot.unset).toArray = ls at hl ⊢
  have hl : lv_has ls 1 [(0, .int (gB b))] := hl
  refine lv_iload_n hx hb dX0_oneIf_0 rfl (lv_at hl 0 rfl) ?_
  refine lv_if_eq (tgt := 8) hx hb dX0_oneIf_1 (by decide) (fun c_1 => ?_) (fun c_1 => ?_)
  · skip
    have c_1 := gB_f c_1
    refine lv_iconst (v := 0) hx hb dX0_oneIf_8 (by decide) ?_
    have hpost : 0 = gB b := by simp [gB, c_1]
    exact W.iret (v := 0) hx hb hr (fun t ht hW => ⟨⟨0, (), rfl, hpost, trivial⟩, hS.F ht⟩) hS.2.2 dX0_oneIf_9
  · skip
    have c_1 := gB_t c_1
    refine lv_iconst (v := 1) hx hb dX0_oneIf_4 (by decide) ?_
    refine lv_goto (tgt := 9) hx hb dX0_oneIf_5 (by decide) ?_
    have hpost : 1 = gB b := by simp [gB, c_1]
    exact W.iret (v := 1) hx hb hr (fun t ht hW => ⟨⟨1, (), rfl, hpost, trivial⟩, hS.F ht⟩) hS.2.2 dX0_oneIf_9
set_option maxHeartbeats 4000000 in
set_option maxRecDepth 100000 in
theorem c_X0_against (l : Launch) (x : Int32) : Met l yX0_against wsX0_against ({ frames := 0, cells := 0, slots := 0, locals := 0 }) (va_Pc [.int x] (fun _ => True)) (va_Qi (fun (rv : Int32) (_u : Unit) => rv = (x ^^^ 1)) (fun _ _ => True) (fun _ => False)) 0 0 (fun _ => False) := by
  refine Met.ofW (cc := cX0_against) (maxL := 1) (ret := (some .int)) (by decide) rfl ?_
  intro p e s m args below meth c s₁ B hml hv
  obtain ⟨rfl, -⟩ := hv
  have hx := B.exec
  have hb := B.bytes
  have hr := B.returns
  have hts := atoms_spec (ws := wsX0_against) B.pre
  have hown : s.vm.findClass RX0 = some m.cls := findClass_of_methodNamed B.named
  have hlocks := B.notSynchronized
  have hS : va_S (fun _ => False) s.heap s.heap [] := va_S.rf
  have hl := lv_entry [.int x] (n := 1) (Nat.le_of_ble_eq_true rfl)
  rw [lg_entry_eq]
  generalize (lg_sl [.int x] ++ List.replicate (1 - (lg_sl [.int x]).length) Slot.unset).toArray = ls at hl ⊢
  have hl : lv_has ls 1 [(0, .int x)] := hl
  refine lv_iload_n hx hb dX0_against_0 rfl (lv_at hl 0 rfl) ?_
  refine lv_iconst (v := 1) hx hb dX0_against_1 (by decide) ?_
  refine lv_ixor hx hb dX0_against_2 ?_
  have hpost : (x ^^^ 1) = (x ^^^ 1) := by first | rfl | assumption
  exact W.iret (v := (x ^^^ 1)) hx hb hr (fun t ht hW => ⟨⟨(x ^^^ 1), (), rfl, hpost, trivial⟩, hS.F ht⟩) hS.2.2 dX0_against_3
set_option maxHeartbeats 4000000 in
set_option maxRecDepth 100000 in
theorem c_X0_mix (l : Launch) (d : Int64) (x : Int32) : Met l yX0_mix wsX0_mix ({ frames := 0, cells := 0, slots := 0, locals := 0 }) (va_Pc [.long d, .int x] (fun _ => True)) (va_Ql (fun (rv : Int64) (_u : Unit) => rv = ((d * 31) + x.toInt64)) (fun _ _ => True) (fun _ => False)) 0 0 (fun _ => False) := by
  refine Met.ofW (cc := cX0_mix) (maxL := 3) (ret := (some .long)) (by decide) rfl ?_
  intro p e s m args below meth c s₁ B hml hv
  obtain ⟨rfl, -⟩ := hv
  have hx := B.exec
  have hb := B.bytes
  have hr := B.returns
  have hts := atoms_spec (ws := wsX0_mix) B.pre
  have hown : s.vm.findClass RX0 = some m.cls := findClass_of_methodNamed B.named
  have hlocks := B.notSynchronized
  have hS : va_S (fun _ => False) s.heap s.heap [] := va_S.rf
  have hl := lv_entry [.long d, .int x] (n := 3) (Nat.le_of_ble_eq_true rfl)
  rw [lg_entry_eq]
  generalize (lg_sl [.long d, .int x] ++ List.replicate (3 - (lg_sl [.long d, .int x]).length) Slot.unset).toArray = ls at hl ⊢
  have hl : lv_has ls 3 [(0, .long d), (2, .int x)] := hl
  refine lv_lload_n hx hb dX0_mix_0 rfl (lv_at hl 0 rfl) ?_
  refine lv_ldc2 (v := 31) hx hb hown (hts (.constantLong RX0 196 (31)) (by decide +kernel)) dX0_mix_1 ?_
  refine lv_lmul hx hb dX0_mix_4 ?_
  refine lv_iload_n hx hb dX0_mix_5 rfl (lv_at hl 1 rfl) ?_
  refine lv_i2l hx hb dX0_mix_6 rfl ?_
  refine lv_ladd hx hb dX0_mix_7 ?_
  have hpost : ((d * 31) + x.toInt64) = ((d * 31) + x.toInt64) := by first | rfl | assumption
  exact W.lret (v := ((d * 31) + x.toInt64)) hx hb hr (fun t ht hW => ⟨⟨((d * 31) + x.toInt64), (), rfl, hpost, trivial⟩, hS.F ht⟩) hS.2.2 dX0_mix_8
set_option maxHeartbeats 4000000 in
set_option maxRecDepth 100000 in
theorem c_J6_bitCount_0f7a4 (l : Launch) (x : Int32) : Met l yJ6_bitCount_0f7a4 wsJ6_bitCount_0f7a4 ({ frames := 0, cells := 0, slots := 0, locals := 0 }) (va_Pc [.int x] (fun _ => True)) (va_Qi (fun (rv : Int32) (_u : Unit) => rv = gBC x) (fun _ _ => True) (fun _ => False)) 0 0 (fun _ => False) := by
  refine Met.ofW (cc := cJ6_bitCount_0f7a4) (maxL := 1) (ret := (some .int)) (by decide) rfl ?_
  intro p e s m args below meth c s₁ B hml hv
  obtain ⟨rfl, -⟩ := hv
  have hx := B.exec
  have hb := B.bytes
  have hr := B.returns
  have hts := atoms_spec (ws := wsJ6_bitCount_0f7a4) B.pre
  have hown : s.vm.findClass RJ6 = some m.cls := findClass_of_methodNamed B.named
  have hlocks := B.notSynchronized
  have hS : va_S (fun _ => False) s.heap s.heap [] := va_S.rf
  have hl := lv_entry [.int x] (n := 1) (Nat.le_of_ble_eq_true rfl)
  rw [lg_entry_eq]
  generalize (lg_sl [.int x] ++ List.replicate (1 - (lg_sl [.int x]).length) Slot.unset).toArray = ls at hl ⊢
  have hl : lv_has ls 1 [(0, .int x)] := hl
  refine lv_iload_n hx hb dJ6_bitCount_0f7a4_0 rfl (lv_at hl 0 rfl) ?_
  refine lv_iload_n hx hb dJ6_bitCount_0f7a4_1 rfl (lv_at hl 0 rfl) ?_
  refine lv_iconst (v := 1) hx hb dJ6_bitCount_0f7a4_2 (by decide) ?_
  refine lv_iushr hx hb dJ6_bitCount_0f7a4_3 rfl ?_
  refine lv_ldcw (v := 1431655765) hx hb hown (hts (.constant RJ6 265 (1431655765)) (by decide +kernel)) dJ6_bitCount_0f7a4_4 ?_
  refine lv_iand hx hb dJ6_bitCount_0f7a4_7 ?_
  refine lv_isub hx hb dJ6_bitCount_0f7a4_8 ?_
  refine lv_topi (fun y1 e_y1 => ?_)
  refine lv_istore_n (lv' := [(0, .int y1)]) hx hb dJ6_bitCount_0f7a4_9 rfl hl (by decide) rfl (fun ls hl => ?_)
  refine lv_iload_n hx hb dJ6_bitCount_0f7a4_10 rfl (lv_at hl 0 rfl) ?_
  refine lv_ldcw (v := 858993459) hx hb hown (hts (.constant RJ6 266 (858993459)) (by decide +kernel)) dJ6_bitCount_0f7a4_11 ?_
  refine lv_iand hx hb dJ6_bitCount_0f7a4_14 ?_
  refine lv_iload_n hx hb dJ6_bitCount_0f7a4_15 rfl (lv_at hl 0 rfl) ?_
  refine lv_iconst (v := 2) hx hb dJ6_bitCount_0f7a4_16 (by decide) ?_
  refine lv_iushr hx hb dJ6_bitCount_0f7a4_17 rfl ?_
  refine lv_ldcw (v := 858993459) hx hb hown (hts (.constant RJ6 266 (858993459)) (by decide +kernel)) dJ6_bitCount_0f7a4_18 ?_
  refine lv_iand hx hb dJ6_bitCount_0f7a4_21 ?_
  refine lv_iadd hx hb dJ6_bitCount_0f7a4_22 ?_
  refine lv_topi (fun y2 e_y2 => ?_)
  refine lv_istore_n (lv' := [(0, .int y2)]) hx hb dJ6_bitCount_0f7a4_23 rfl hl (by decide) rfl (fun ls hl => ?_)
  refine lv_iload_n hx hb dJ6_bitCount_0f7a4_24 rfl (lv_at hl 0 rfl) ?_
  refine lv_iload_n hx hb dJ6_bitCount_0f7a4_25 rfl (lv_at hl 0 rfl) ?_
  refine lv_iconst (v := 4) hx hb dJ6_bitCount_0f7a4_26 (by decide) ?_
  refine lv_iushr hx hb dJ6_bitCount_0f7a4_27 rfl ?_
  refine lv_iadd hx hb dJ6_bitCount_0f7a4_28 ?_
  refine lv_ldcw (v := 252645135) hx hb hown (hts (.constant RJ6 267 (252645135)) (by decide +kernel)) dJ6_bitCount_0f7a4_29 ?_
  refine lv_iand hx hb dJ6_bitCount_0f7a4_32 ?_
  refine lv_topi (fun y3 e_y3 => ?_)
  refine lv_istore_n (lv' := [(0, .int y3)]) hx hb dJ6_bitCount_0f7a4_33 rfl hl (by decide) rfl (fun ls hl => ?_)
  refine lv_iload_n hx hb dJ6_bitCount_0f7a4_34 rfl (lv_at hl 0 rfl) ?_
  refine lv_iload_n hx hb dJ6_bitCount_0f7a4_35 rfl (lv_at hl 0 rfl) ?_
  refine lv_bipush (v := 8) hx hb dJ6_bitCount_0f7a4_36 (by decide) ?_
  refine lv_iushr hx hb dJ6_bitCount_0f7a4_38 rfl ?_
  refine lv_iadd hx hb dJ6_bitCount_0f7a4_39 ?_
  refine lv_topi (fun y4 e_y4 => ?_)
  refine lv_istore_n (lv' := [(0, .int y4)]) hx hb dJ6_bitCount_0f7a4_40 rfl hl (by decide) rfl (fun ls hl => ?_)
  refine lv_iload_n hx hb dJ6_bitCount_0f7a4_41 rfl (lv_at hl 0 rfl) ?_
  refine lv_iload_n hx hb dJ6_bitCount_0f7a4_42 rfl (lv_at hl 0 rfl) ?_
  refine lv_bipush (v := 16) hx hb dJ6_bitCount_0f7a4_43 (by decide) ?_
  refine lv_iushr hx hb dJ6_bitCount_0f7a4_45 rfl ?_
  refine lv_iadd hx hb dJ6_bitCount_0f7a4_46 ?_
  refine lv_topi (fun y5 e_y5 => ?_)
  refine lv_istore_n (lv' := [(0, .int y5)]) hx hb dJ6_bitCount_0f7a4_47 rfl hl (by decide) rfl (fun ls hl => ?_)
  refine lv_iload_n hx hb dJ6_bitCount_0f7a4_48 rfl (lv_at hl 0 rfl) ?_
  refine lv_bipush (v := 63) hx hb dJ6_bitCount_0f7a4_49 (by decide) ?_
  refine lv_iand hx hb dJ6_bitCount_0f7a4_51 ?_
  have hpost : (y5 &&& 63) = gBC x := by subst e_y5 e_y4 e_y3 e_y2 e_y1; rfl
  exact W.iret (v := (y5 &&& 63)) hx hb hr (fun t ht hW => ⟨⟨(y5 &&& 63), (), rfl, hpost, trivial⟩, hS.F ht⟩) hS.2.2 dJ6_bitCount_0f7a4_52
set_option maxHeartbeats 4000000 in
set_option maxRecDepth 100000 in
theorem c_X0_countComing (l : Launch) (x : Int32) : Met l yX0_countComing wsX0_countComing ({ frames := 1, cells := 0, slots := 0, locals := 20 }) (va_Pc [.int x] (fun _ => True)) (va_Qi (fun (rv : Int32) (_u : Unit) => rv = gBC (x &&& 349525)) (fun _ _ => True) (fun _ => False)) 0 0 (fun _ => False) := by
  refine Met.ofW (cc := cX0_countComing) (maxL := 1) (ret := (some .int)) (by decide) rfl ?_
  intro p e s m args below meth c s₁ B hml hv
  obtain ⟨rfl, -⟩ := hv
  have hx := B.exec
  have hb := B.bytes
  have hr := B.returns
  have hts := atoms_spec (ws := wsX0_countComing) B.pre
  have hown : s.vm.findClass RX0 = some m.cls := findClass_of_methodNamed B.named
  have hlocks := B.notSynchronized
  have hS : va_S (fun _ => False) s.heap s.heap [] := va_S.rf
  have hl := lv_entry [.int x] (n := 1) (Nat.le_of_ble_eq_true rfl)
  rw [lg_entry_eq]
  generalize (lg_sl [.int x] ++ List.replicate (1 - (lg_sl [.int x]).length) Slot.unset).toArray = ls at hl ⊢
  have hl : lv_has ls 1 [(0, .int x)] := hl
  refine lv_iload_n hx hb dX0_countComing_0 rfl (lv_at hl 0 rfl) ?_
  refine lv_ldc (v := 349525) hx hb hown (hts (.constant RX0 195 (349525)) (by decide +kernel)) dX0_countComing_1 ?_
  refine lv_iand hx hb dX0_countComing_3 ?_
  refine va_calli (va_runS (As := [.int (x &&& 349525)]) (rest := []) ⟨hx, hb, hml, hown, hts⟩ (c_J6_bitCount_0f7a4 l (x &&& 349525)) (va_cwS 1 hts gX0_countComing_J6_bitCount_0f7a4 rfl rfl rfl (by decide +kernel) ⟨Nat.le_of_ble_eq_true rfl, Nat.le_of_ble_eq_true rfl⟩) ⟨fun a U g mk q => q, fun U hU hW => ⟨rfl, trivial⟩⟩ rfl rfl hl.1 rfl (lv_room (Nat.le_of_ble_eq_true rfl)) dX0_countComing_4 ⟨Nat.zero_le _, Nat.zero_le _⟩) hS (fun q _ h => h.elim) (fun q h => h.elim) (fun r1 u t H locs ht hvm hw hB hz1 hk1 hS => ?_)
  have hw : r1 = gBC (x &&& 349525) := hw
  subst hw
  clear hw
  clear hB hz1 hk1 ht hvm
  have hpost : (gBC (x &&& 349525)) = gBC (x &&& 349525) := by first | rfl | assumption
  exact W.iret (v := gBC (x &&& 349525)) hx hb hr (fun t ht hW => ⟨⟨gBC (x &&& 349525), (), rfl, hpost, trivial⟩, hS.F ht⟩) hS.2.2 dX0_countComing_7
set_option maxHeartbeats 4000000 in
set_option maxRecDepth 100000 in
theorem c_X0_holds (l : Launch) (w : Int32) (g : Int32) : Met l yX0_holds wsX0_holds ({ frames := 1, cells := 0, slots := 0, locals := 21 }) (va_Pc [.int w, .int g] (fun _ => True)) (va_Qi (fun (rv : Int32) (_u : Unit) => rv = gB (gHolds w g)) (fun _ _ => True) (fun _ => False)) 0 0 (fun _ => False) := by
  refine Met.ofW (cc := cX0_holds) (maxL := 3) (ret := (some .boolean)) (by decide) rfl ?_
  intro p e s m args below meth c s₁ B hml hv
  obtain ⟨rfl, -⟩ := hv
  have hx := B.exec
  have hb := B.bytes
  have hr := B.returns
  have hts := atoms_spec (ws := wsX0_holds) B.pre
  have hown : s.vm.findClass RX0 = some m.cls := findClass_of_methodNamed B.named
  have hlocks := B.notSynchronized
  have hS : va_S (fun _ => False) s.heap s.heap [] := va_S.rf
  have hl := lv_entry [.int w, .int g] (n := 3) (Nat.le_of_ble_eq_true rfl)
  rw [lg_entry_eq]
  generalize (lg_sl [.int w, .int g] ++ List.replicate (3 - (lg_sl [.int w, .int g]).length) Slot.unset).toArray = ls at hl ⊢
  have hl : lv_has ls 3 [(0, .int w), (1, .int g)] := hl
  refine lv_iload_n hx hb dX0_holds_0 rfl (lv_at hl 1 rfl) ?_
  refine lv_iload_n hx hb dX0_holds_1 rfl (lv_at hl 0 rfl) ?_
  refine lv_iconst (v := 1) hx hb dX0_holds_2 (by decide) ?_
  refine lv_ishr hx hb dX0_holds_3 ?_
  refine va_calli (va_runS (As := [.int g, .int (w >>> (1 &&& 31))]) (rest := []) ⟨hx, hb, hml, hown, hts⟩ (c_X0_has l g (w >>> (1 &&& 31))) (va_cwS 2 hts gX0_holds_X0_has rfl rfl rfl (by decide +kernel) ⟨Nat.le_of_ble_eq_true rfl, Nat.le_of_ble_eq_true rfl⟩) ⟨fun a U g mk q => q, fun U hU hW => ⟨rfl, trivial⟩⟩ rfl rfl hl.1 rfl (lv_room (Nat.le_of_ble_eq_true rfl)) dX0_holds_4 ⟨Nat.zero_le _, Nat.zero_le _⟩) hS (fun q _ h => h.elim) (fun q h => h.elim) (fun r1 u t H locs ht hvm hw hB hz1 hk1 hS => ?_)
  have hw : r1 = gB (gHas g (w >>> (1 &&& 31))) := hw
  subst hw
  clear hw
  clear hB hz1 hk1 ht hvm
  refine lv_istore_n (lv' := [(2, .int (gB (gHas g (w >>> (1 &&& 31))))), (0, .int w), (1, .int g)]) hx hb dX0_holds_7 rfl hl (by decide) rfl (fun ls hl => ?_)
  refine lv_iload_n hx hb dX0_holds_8 rfl (lv_at hl 1 rfl) ?_
  refine lv_iconst (v := 1) hx hb dX0_holds_9 (by decide) ?_
  refine lv_iand hx hb dX0_holds_10 ?_
  refine lv_if_ne (tgt := 18) hx hb dX0_holds_11 (by decide) (fun c_11 => ?_) (fun c_11 => ?_)
  · skip
    refine lv_iload_n hx hb dX0_holds_18 rfl (lv_at hl 0 rfl) ?_
    refine lv_if_ne (tgt := 26) hx hb dX0_holds_19 (by decide) (fun c_19 => ?_) (fun c_19 => ?_)
    · skip
      have c_19 := gB_t c_19
      refine lv_iconst (v := 0) hx hb dX0_holds_26 (by decide) ?_
      have hpost : 0 = gB (gHolds w g) := by simp [gB, gHolds, c_11, c_19]
      exact W.zret (ty := .boolean) (v := 0) hx hb hr (by first | rfl | decide | exact gB_nar _) (fun t ht hW => ⟨⟨0, (), rfl, hpost, trivial⟩, hS.F ht⟩) hS.2.2 dX0_holds_27
    · skip
      have c_19 := gB_f c_19
      refine lv_iconst (v := 1) hx hb dX0_holds_22 (by decide) ?_
      refine lv_goto (tgt := 27) hx hb dX0_holds_23 (by decide) ?_
      have hpost : 1 = gB (gHolds w g) := by simp [gB, gHolds, c_11, c_19]
      exact W.zret (ty := .boolean) (v := 1) hx hb hr (by first | rfl | decide | exact gB_nar _) (fun t ht hW => ⟨⟨1, (), rfl, hpost, trivial⟩, hS.F ht⟩) hS.2.2 dX0_holds_27
  · skip
    refine lv_iload_n hx hb dX0_holds_14 rfl (lv_at hl 0 rfl) ?_
    refine lv_goto (tgt := 27) hx hb dX0_holds_15 (by decide) ?_
    have hpost : (gB (gHas g (w >>> (1 &&& 31)))) = gB (gHolds w g) := by simp [gB, gHolds, c_11]
    exact W.zret (ty := .boolean) (v := gB (gHas g (w >>> (1 &&& 31)))) hx hb hr (by first | rfl | decide | exact gB_nar _) (fun t ht hW => ⟨⟨gB (gHas g (w >>> (1 &&& 31))), (), rfl, hpost, trivial⟩, hS.F ht⟩) hS.2.2 dX0_holds_27
set_option maxHeartbeats 4000000 in
set_option maxRecDepth 100000 in
theorem c_X0_at (l : Launch) (dC : Nat → ClassId) (dI : Nat → Nat → Nat) (a : Nat) (k : ClassId) (n : Nat) (f : Nat → Int32) (i : Int32) (hn : n < 2 ^ 31) : Met l yX0_at wsX0_at ({ frames := 0, cells := 0, slots := 0, locals := 0 }) (gcPR (dC, dI) [.ref a, .int i] ([(a, .inl (k, n, .inl f))]) ([(k, .int)])) (va_Qi (fun (rv : Int32) (_u : Unit) => rv = gAt n f i) (fun _ _ => True) (fun _ => False)) 0 0 (fun _ => False) := by
  refine Met.ofW (cc := cX0_at) (maxL := 2) (ret := (some .int)) (by decide) rfl ?_
  intro p e s m args below meth c s₁ B hml hv
  obtain ⟨rfl, hP, hK⟩ := hv
  have hx := B.exec
  have hb := B.bytes
  have hr := B.returns
  have hts := atoms_spec (ws := wsX0_at) B.pre
  have hown : s.vm.findClass RX0 = some m.cls := findClass_of_methodNamed B.named
  have hlocks := B.notSynchronized
  have hS : va_S (fun _ => False) s.heap s.heap [] := va_S.rf
  have hP : va_P (dC, dI) vwCl ([(a, .inl (k, n, .inl f))]) s.heap := hP
  have hl := lv_entry [.ref a, .int i] (n := 2) (Nat.le_of_ble_eq_true rfl)
  rw [lg_entry_eq]
  generalize (lg_sl [.ref a, .int i] ++ List.replicate (2 - (lg_sl [.ref a, .int i]).length) Slot.unset).toArray = ls at hl ⊢
  have hl : lv_has ls 2 [(0, .ref a), (1, .int i)] := hl
  refine lv_iload_n hx hb dX0_at_0 rfl (lv_at hl 1 rfl) ?_
  refine lv_if_lt (tgt := 16) hx hb dX0_at_1 (by decide) (fun c_1 => ?_) (fun c_1 => ?_)
  · skip
    refine lv_iconst (v := 0) hx hb dX0_at_16 (by decide) ?_
    have hpost : 0 = gAt n f i := by simp [gAt, c_1]
    exact W.iret (v := 0) hx hb hr (fun t ht hW => ⟨⟨0, (), rfl, hpost, trivial⟩, hS.F ht⟩) hS.2.2 dX0_at_17
  · skip
    refine lv_iload_n hx hb dX0_at_4 rfl (lv_at hl 1 rfl) ?_
    refine lv_aload_n hx hb dX0_at_5 rfl (lv_at hl 0 rfl) ?_
    refine va_alen hx hb hK hP 0 0 rfl rfl (v := nI n) rfl dX0_at_6 ?_
    refine lv_icmp_ge (tgt := 16) hx hb dX0_at_7 (by decide) (fun c_7 => ?_) (fun c_7 => ?_)
    · skip
      refine lv_iconst (v := 0) hx hb dX0_at_16 (by decide) ?_
      have hpost : 0 = gAt n f i := by simp [gAt, c_1, c_7]
      exact W.iret (v := 0) hx hb hr (fun t ht hW => ⟨⟨0, (), rfl, hpost, trivial⟩, hS.F ht⟩) hS.2.2 dX0_at_17
    · skip
      refine lv_aload_n hx hb dX0_at_10 rfl (lv_at hl 0 rfl) ?_
      refine lv_iload_n hx hb dX0_at_11 rfl (lv_at hl 1 rfl) ?_
      refine va_iald hx hb hK hP 0 0 rfl rfl (gc_in hn c_1 c_7) dX0_at_12 ?_
      refine lv_goto (tgt := 17) hx hb dX0_at_13 (by decide) ?_
      have hpost : (f i.toNatClampNeg) = gAt n f i := by simp [gAt, c_1, c_7]
      exact W.iret (v := f i.toNatClampNeg) hx hb hr (fun t ht hW => ⟨⟨f i.toNatClampNeg, (), rfl, hpost, trivial⟩, hS.F ht⟩) hS.2.2 dX0_at_17
set_option maxHeartbeats 4000000 in
set_option maxRecDepth 100000 in
theorem c_X0_put (l : Launch) (dC : Nat → ClassId) (dI : Nat → Nat → Nat) (a : Nat) (k : ClassId) (n : Nat) (f : Nat → Int32) (i : Int32) (v : Int32) (sz : Nat) (hn : n < 2 ^ 31) : Met l yX0_put wsX0_put ({ frames := 0, cells := 0, slots := 0, locals := 0 }) (gcPM (dC, dI) [.ref a, .int i, .int v] ([(a, .inl (k, n, .inl f))]) ([(k, .int)]) sz) (va_Qv (fun (_u : Unit) => True) (fun _u t => va_P (dC, dI) vwCl ([(a, .inl (k, n, .inl (gPut n f i v)))]) t.heap ∧ va_D (va_A ([(a, .inl (k, n, .inl f))]) sz) ([(a, .inl (k, n, .inl (gPut n f i v)))])) (va_A ([(a, .inl (k, n, .inl f))]) sz)) 0 0 (va_A ([(a, .inl (k, n, .inl f))]) sz) := by
  refine Met.ofW (cc := cX0_put) (maxL := 3) (ret := none) (by decide) rfl ?_
  intro p e s m args below meth c s₁ B hml hv
  obtain ⟨rfl, hsz, hP, hK, hD0⟩ := hv
  have hx := B.exec
  have hb := B.bytes
  have hr := B.returns
  have hts := atoms_spec (ws := wsX0_put) B.pre
  have hown : s.vm.findClass RX0 = some m.cls := findClass_of_methodNamed B.named
  have hlocks := B.notSynchronized
  subst hsz
  have hD := hD0.self (sz := s.heap.size)
  generalize hAe : va_A ([(a, .inl (k, n, .inl f))]) s.heap.size = A at hD ⊢
  have hA : ∀ q : Nat, s.heap.size ≤ q → A q := fun q h => by rw [← hAe]; exact Or.inr h
  have hS : va_S A s.heap s.heap [] := va_S.rf
  have hP : va_P (dC, dI) vwCl ([(a, .inl (k, n, .inl f))]) s.heap := hP
  have hl := lv_entry [.ref a, .int i, .int v] (n := 3) (Nat.le_of_ble_eq_true rfl)
  rw [lg_entry_eq]
  generalize (lg_sl [.ref a, .int i, .int v] ++ List.replicate (3 - (lg_sl [.ref a, .int i, .int v]).length) Slot.unset).toArray = ls at hl ⊢
  have hl : lv_has ls 3 [(0, .ref a), (1, .int i), (2, .int v)] := hl
  refine lv_iload_n hx hb dX0_put_0 rfl (lv_at hl 1 rfl) ?_
  refine lv_if_lt (tgt := 14) hx hb dX0_put_1 (by decide) (fun c_1 => ?_) (fun c_1 => ?_)
  · skip
    have hWe : (([(a, .inl (k, n, .inl f))]) : va_W) = ([(a, .inl (k, n, .inl (gPut n f i v)))]) := by simp [gPut, c_1]
    rw [hWe] at hP hD
    exact W.vret hx hb hr (fun t ht hW => ⟨⟨(), rfl, trivial, ⟨by rw [ht]; exact hP, hD⟩⟩, hS.F ht⟩) hS.2.2 dX0_put_14
  · skip
    refine lv_iload_n hx hb dX0_put_4 rfl (lv_at hl 1 rfl) ?_
    refine lv_aload_n hx hb dX0_put_5 rfl (lv_at hl 0 rfl) ?_
    refine va_alen hx hb hK hP 0 0 rfl rfl (v := nI n) rfl dX0_put_6 ?_
    refine lv_icmp_ge (tgt := 14) hx hb dX0_put_7 (by decide) (fun c_7 => ?_) (fun c_7 => ?_)
    · skip
      have hWe : (([(a, .inl (k, n, .inl f))]) : va_W) = ([(a, .inl (k, n, .inl (gPut n f i v)))]) := by simp [gPut, c_1, c_7]
      rw [hWe] at hP hD
      exact W.vret hx hb hr (fun t ht hW => ⟨⟨(), rfl, trivial, ⟨by rw [ht]; exact hP, hD⟩⟩, hS.F ht⟩) hS.2.2 dX0_put_14
    · skip
      refine lv_aload_n hx hb dX0_put_10 rfl (lv_at hl 0 rfl) ?_
      refine lv_iload_n hx hb dX0_put_11 rfl (lv_at hl 1 rfl) ?_
      refine lv_iload_n hx hb dX0_put_12 rfl (lv_at hl 2 rfl) ?_
      refine va_iast hx hb hK hP hD hS 0 0 rfl rfl (gc_in hn c_1 c_7) dX0_put_13 (fun H locs hP hD hS => ?_)
      have hP : va_P (dC, dI) vwCl ([(a, .inl (k, n, .inl (upd f i.toNatClampNeg v)))]) H := hP
      have hD : va_D A ([(a, .inl (k, n, .inl (upd f i.toNatClampNeg v)))]) := hD
      have hWe : (([(a, .inl (k, n, .inl (upd f i.toNatClampNeg v)))]) : va_W) = ([(a, .inl (k, n, .inl (gPut n f i v)))]) := by simp [gPut, c_1, c_7]
      rw [hWe] at hP hD
      exact W.vret hx hb hr (fun t ht hW => ⟨⟨(), rfl, trivial, ⟨by rw [ht]; exact hP, hD⟩⟩, hS.F ht⟩) hS.2.2 dX0_put_14
set_option maxHeartbeats 4000000 in
set_option maxRecDepth 100000 in
theorem c_X0_isVain (l : Launch) (dC : Nat → ClassId) (dI : Nat → Nat → Nat) (a : Nat) (k : ClassId) (n : Nat) (f : Nat → Int32) (w : Int32) (hn : n < 2 ^ 31) : Met l yX0_isVain wsX0_isVain ({ frames := 1, cells := 0, slots := 0, locals := 21 }) (gcPR (dC, dI) [.ref a, .int w] ([(a, .inl (k, n, .inl f))]) ([(k, .int)])) (va_Qi (fun (rv : Int32) (_u : Unit) => rv = gB (gVain n f w)) (fun _ _ => True) (fun _ => False)) 0 0 (fun _ => False) := by
  refine Met.ofW (cc := cX0_isVain) (maxL := 2) (ret := (some .boolean)) (by decide) rfl ?_
  intro p e s m args below meth c s₁ B hml hv
  obtain ⟨rfl, hP, hK⟩ := hv
  have hx := B.exec
  have hb := B.bytes
  have hr := B.returns
  have hts := atoms_spec (ws := wsX0_isVain) B.pre
  have hown : s.vm.findClass RX0 = some m.cls := findClass_of_methodNamed B.named
  have hlocks := B.notSynchronized
  have hS : va_S (fun _ => False) s.heap s.heap [] := va_S.rf
  have hP : va_P (dC, dI) vwCl ([(a, .inl (k, n, .inl f))]) s.heap := hP
  have hl := lv_entry [.ref a, .int w] (n := 2) (Nat.le_of_ble_eq_true rfl)
  rw [lg_entry_eq]
  generalize (lg_sl [.ref a, .int w] ++ List.replicate (2 - (lg_sl [.ref a, .int w]).length) Slot.unset).toArray = ls at hl ⊢
  have hl : lv_has ls 2 [(0, .ref a), (1, .int w)] := hl
  refine lv_aload_n hx hb dX0_isVain_0 rfl (lv_at hl 0 rfl) ?_
  refine lv_iload_n hx hb dX0_isVain_1 rfl (lv_at hl 1 rfl) ?_
  have hPc : va_P (dC, dI) vwCl ([(a, .inl (k, n, .inl f))]) _ := hP.sub [0] rfl
  have hKc : va_K (dC, dI) vwCl ([(k, .int)]) s := hK.sub [0] rfl
  refine va_calli (va_runS (As := [.ref a, .int w]) (rest := []) ⟨hx, hb, hml, hown, hts⟩ (c_X0_at l dC dI a k n f w (by first | assumption | omega)) (va_cwS 2 hts gX0_isVain_X0_at rfl rfl rfl (by decide +kernel) ⟨Nat.le_of_ble_eq_true rfl, Nat.le_of_ble_eq_true rfl⟩) ⟨gcPR_blind, fun U hU hW => ⟨rfl, by rw [hU]; exact hPc, va_K.moved hW.alike hKc⟩⟩ rfl rfl hl.1 rfl (lv_room (Nat.le_of_ble_eq_true rfl)) dX0_isVain_2 ⟨Nat.zero_le _, Nat.zero_le _⟩) hS (fun q _ h => h.elim) (fun q h => h.elim) (fun r1 u t H locs ht hvm hw hB hz1 hk1 hS => ?_)
  have hP := gc_keep hP hk1
  have hw : r1 = gAt n f w := hw
  subst hw
  clear hw
  clear hB hz1 hk1 ht hvm
  clear hPc hKc
  refine lv_iload_n hx hb dX0_isVain_5 rfl (lv_at hl 1 rfl) ?_
  refine va_calli (va_runS (As := [.int w]) (rest := [.int (gAt n f w)]) ⟨hx, hb, hml, hown, hts⟩ (c_X0_against l w) (va_cwS 1 hts gX0_isVain_X0_against rfl rfl rfl (by decide +kernel) ⟨Nat.le_of_ble_eq_true rfl, Nat.le_of_ble_eq_true rfl⟩) ⟨fun a U g mk q => q, fun U hU hW => ⟨rfl, trivial⟩⟩ rfl rfl hl.1 rfl (lv_room (Nat.le_of_ble_eq_true rfl)) dX0_isVain_6 ⟨Nat.zero_le _, Nat.zero_le _⟩) hS (fun q _ h => h.elim) (fun q h => h.elim) (fun r2 u t H locs ht hvm hw hB hz1 hk1 hS => ?_)
  have hP := gc_keep hP hk1
  have hw : r2 = (w ^^^ 1) := hw
  subst hw
  clear hw
  clear hB hz1 hk1 ht hvm
  refine va_calli (va_runS (As := [.int (gAt n f w), .int (w ^^^ 1)]) (rest := []) ⟨hx, hb, hml, hown, hts⟩ (c_X0_has l (gAt n f w) (w ^^^ 1)) (va_cwS 2 hts gX0_isVain_X0_has rfl rfl rfl (by decide +kernel) ⟨Nat.le_of_ble_eq_true rfl, Nat.le_of_ble_eq_true rfl⟩) ⟨fun a U g mk q => q, fun U hU hW => ⟨rfl, trivial⟩⟩ rfl rfl hl.1 rfl (lv_room (Nat.le_of_ble_eq_true rfl)) dX0_isVain_9 ⟨Nat.zero_le _, Nat.zero_le _⟩) hS (fun q _ h => h.elim) (fun q h => h.elim) (fun r3 u t H locs ht hvm hw hB hz1 hk1 hS => ?_)
  have hP := gc_keep hP hk1
  have hw : r3 = gB (gHas (gAt n f w) (w ^^^ 1)) := hw
  subst hw
  clear hw
  clear hB hz1 hk1 ht hvm
  have hpost : (gB (gHas (gAt n f w) (w ^^^ 1))) = gB (gVain n f w) := by first | rfl | assumption
  exact W.zret (ty := .boolean) (v := gB (gHas (gAt n f w) (w ^^^ 1))) hx hb hr (by first | rfl | decide | exact gB_nar _) (fun t ht hW => ⟨⟨gB (gHas (gAt n f w) (w ^^^ 1)), (), rfl, hpost, trivial⟩, hS.F ht⟩) hS.2.2 dX0_isVain_12
set_option maxHeartbeats 4000000 in
set_option maxRecDepth 100000 in
theorem c_X0_isTorn (l : Launch) (dC : Nat → ClassId) (dI : Nat → Nat → Nat) (a : Nat) (k : ClassId) (n : Nat) (f : Nat → Int32) (g : Int32) (hn : n < 2 ^ 31) : Met l yX0_isTorn wsX0_isTorn ({ frames := 2, cells := 0, slots := 0, locals := 42 }) (gcPR (dC, dI) [.ref a, .int g] ([(a, .inl (k, n, .inl f))]) ([(k, .int)])) (va_Qi (fun (rv : Int32) (_u : Unit) => rv = gB (gTorn n f g)) (fun _ _ => True) (fun _ => False)) 0 0 (fun _ => False) := by
  refine Met.ofW (cc := cX0_isTorn) (maxL := 2) (ret := (some .boolean)) (by decide) rfl ?_
  intro p e s m args below meth c s₁ B hml hv
  obtain ⟨rfl, hP, hK⟩ := hv
  have hx := B.exec
  have hb := B.bytes
  have hr := B.returns
  have hts := atoms_spec (ws := wsX0_isTorn) B.pre
  have hown : s.vm.findClass RX0 = some m.cls := findClass_of_methodNamed B.named
  have hlocks := B.notSynchronized
  have hS : va_S (fun _ => False) s.heap s.heap [] := va_S.rf
  have hP : va_P (dC, dI) vwCl ([(a, .inl (k, n, .inl f))]) s.heap := hP
  have hl := lv_entry [.ref a, .int g] (n := 2) (Nat.le_of_ble_eq_true rfl)
  rw [lg_entry_eq]
  generalize (lg_sl [.ref a, .int g] ++ List.replicate (2 - (lg_sl [.ref a, .int g]).length) Slot.unset).toArray = ls at hl ⊢
  have hl : lv_has ls 2 [(0, .ref a), (1, .int g)] := hl
  refine lv_aload_n hx hb dX0_isTorn_0 rfl (lv_at hl 0 rfl) ?_
  refine lv_iconst (v := 2) hx hb dX0_isTorn_1 (by decide) ?_
  refine lv_iload_n hx hb dX0_isTorn_2 rfl (lv_at hl 1 rfl) ?_
  refine lv_imul hx hb dX0_isTorn_3 ?_
  have hPc : va_P (dC, dI) vwCl ([(a, .inl (k, n, .inl f))]) _ := hP.sub [0] rfl
  have hKc : va_K (dC, dI) vwCl ([(k, .int)]) s := hK.sub [0] rfl
  refine va_calli (va_runS (As := [.ref a, .int (2 * g)]) (rest := []) ⟨hx, hb, hml, hown, hts⟩ (c_X0_isVain l dC dI a k n f (2 * g) (by first | assumption | omega)) (va_cwS 2 hts gX0_isTorn_X0_isVain rfl rfl rfl (by decide +kernel) ⟨Nat.le_of_ble_eq_true rfl, Nat.le_of_ble_eq_true rfl⟩) ⟨gcPR_blind, fun U hU hW => ⟨rfl, by rw [hU]; exact hPc, va_K.moved hW.alike hKc⟩⟩ rfl rfl hl.1 rfl (lv_room (Nat.le_of_ble_eq_true rfl)) dX0_isTorn_4 ⟨Nat.zero_le _, Nat.zero_le _⟩) hS (fun q _ h => h.elim) (fun q h => h.elim) (fun r1 u t H locs ht hvm hw hB hz1 hk1 hS => ?_)
  have hP := gc_keep hP hk1
  have hw : r1 = gB (gVain n f (2 * g)) := hw
  subst hw
  clear hw
  clear hB hz1 hk1 ht hvm
  clear hPc hKc
  refine lv_if_eq (tgt := 26) hx hb dX0_isTorn_7 (by decide) (fun c_7 => ?_) (fun c_7 => ?_)
  · skip
    have c_7 := gB_f c_7
    refine lv_iconst (v := 0) hx hb dX0_isTorn_26 (by decide) ?_
    have hpost : 0 = gB (gTorn n f g) := by simp [gB, gTorn, c_7]
    exact W.zret (ty := .boolean) (v := 0) hx hb hr (by first | rfl | decide | exact gB_nar _) (fun t ht hW => ⟨⟨0, (), rfl, hpost, trivial⟩, hS.F ht⟩) hS.2.2 dX0_isTorn_27
  · skip
    have c_7 := gB_t c_7
    refine lv_aload_n hx hb dX0_isTorn_10 rfl (lv_at hl 0 rfl) ?_
    refine lv_iconst (v := 2) hx hb dX0_isTorn_11 (by decide) ?_
    refine lv_iload_n hx hb dX0_isTorn_12 rfl (lv_at hl 1 rfl) ?_
    refine lv_imul hx hb dX0_isTorn_13 ?_
    refine lv_iconst (v := 1) hx hb dX0_isTorn_14 (by decide) ?_
    refine lv_iadd hx hb dX0_isTorn_15 ?_
    have hPc : va_P (dC, dI) vwCl ([(a, .inl (k, n, .inl f))]) _ := hP.sub [0] rfl
    have hKc : va_K (dC, dI) vwCl ([(k, .int)]) s := hK.sub [0] rfl
    refine va_calli (va_runS (As := [.ref a, .int ((2 * g) + 1)]) (rest := []) ⟨hx, hb, hml, hown, hts⟩ (c_X0_isVain l dC dI a k n f ((2 * g) + 1) (by first | assumption | omega)) (va_cwS 2 hts gX0_isTorn_X0_isVain rfl rfl rfl (by decide +kernel) ⟨Nat.le_of_ble_eq_true rfl, Nat.le_of_ble_eq_true rfl⟩) ⟨gcPR_blind, fun U hU hW => ⟨rfl, by rw [hU]; exact hPc, va_K.moved hW.alike hKc⟩⟩ rfl rfl hl.1 rfl (lv_room (Nat.le_of_ble_eq_true rfl)) dX0_isTorn_16 ⟨Nat.zero_le _, Nat.zero_le _⟩) hS (fun q _ h => h.elim) (fun q h => h.elim) (fun r2 u t H locs ht hvm hw hB hz1 hk1 hS => ?_)
    have hP := gc_keep hP hk1
    have hw : r2 = gB (gVain n f ((2 * g) + 1)) := hw
    subst hw
    clear hw
    clear hB hz1 hk1 ht hvm
    clear hPc hKc
    refine lv_if_eq (tgt := 26) hx hb dX0_isTorn_19 (by decide) (fun c_19 => ?_) (fun c_19 => ?_)
    · skip
      have c_19 := gB_f c_19
      refine lv_iconst (v := 0) hx hb dX0_isTorn_26 (by decide) ?_
      have hpost : 0 = gB (gTorn n f g) := by simp [gB, gTorn, c_7, c_19]
      exact W.zret (ty := .boolean) (v := 0) hx hb hr (by first | rfl | decide | exact gB_nar _) (fun t ht hW => ⟨⟨0, (), rfl, hpost, trivial⟩, hS.F ht⟩) hS.2.2 dX0_isTorn_27
    · skip
      have c_19 := gB_t c_19
      refine lv_iconst (v := 1) hx hb dX0_isTorn_22 (by decide) ?_
      refine lv_goto (tgt := 27) hx hb dX0_isTorn_23 (by decide) ?_
      have hpost : 1 = gB (gTorn n f g) := by simp [gB, gTorn, c_7, c_19]
      exact W.zret (ty := .boolean) (v := 1) hx hb hr (by first | rfl | decide | exact gB_nar _) (fun t ht hW => ⟨⟨1, (), rfl, hpost, trivial⟩, hS.F ht⟩) hS.2.2 dX0_isTorn_27
set_option maxHeartbeats 4000000 in
set_option maxRecDepth 100000 in
theorem c_X0_link (l : Launch) (dC : Nat → ClassId) (dI : Nat → Nat → Nat) (a : Nat) (k : ClassId) (n : Nat) (f : Nat → Int32) (b : Int32) (d : Int32) (sz : Nat) (hn : n < 2 ^ 31) : Met l yX0_link wsX0_link ({ frames := 1, cells := 0, slots := 0, locals := 22 }) (gcPM (dC, dI) [.ref a, .int b, .int d] ([(a, .inl (k, n, .inl f))]) ([(k, .int)]) sz) (va_Qv (fun (_u : Unit) => True) (fun _u t => va_P (dC, dI) vwCl ([(a, .inl (k, n, .inl (gLink n f b d)))]) t.heap ∧ va_D (va_A ([(a, .inl (k, n, .inl f))]) sz) ([(a, .inl (k, n, .inl (gLink n f b d)))])) (va_A ([(a, .inl (k, n, .inl f))]) sz)) 0 0 (va_A ([(a, .inl (k, n, .inl f))]) sz) := by
  refine Met.ofW (cc := cX0_link) (maxL := 3) (ret := none) (by decide) rfl ?_
  intro p e s m args below meth c s₁ B hml hv
  obtain ⟨rfl, hsz, hP, hK, hD0⟩ := hv
  have hx := B.exec
  have hb := B.bytes
  have hr := B.returns
  have hts := atoms_spec (ws := wsX0_link) B.pre
  have hown : s.vm.findClass RX0 = some m.cls := findClass_of_methodNamed B.named
  have hlocks := B.notSynchronized
  subst hsz
  have hD := hD0.self (sz := s.heap.size)
  generalize hAe : va_A ([(a, .inl (k, n, .inl f))]) s.heap.size = A at hD ⊢
  have hA : ∀ q : Nat, s.heap.size ≤ q → A q := fun q h => by rw [← hAe]; exact Or.inr h
  have hS : va_S A s.heap s.heap [] := va_S.rf
  have hP : va_P (dC, dI) vwCl ([(a, .inl (k, n, .inl f))]) s.heap := hP
  have hl := lv_entry [.ref a, .int b, .int d] (n := 3) (Nat.le_of_ble_eq_true rfl)
  rw [lg_entry_eq]
  generalize (lg_sl [.ref a, .int b, .int d] ++ List.replicate (3 - (lg_sl [.ref a, .int b, .int d]).length) Slot.unset).toArray = ls at hl ⊢
  have hl : lv_has ls 3 [(0, .ref a), (1, .int b), (2, .int d)] := hl
  refine lv_aload_n hx hb dX0_link_0 rfl (lv_at hl 0 rfl) ?_
  refine lv_iload_n hx hb dX0_link_1 rfl (lv_at hl 1 rfl) ?_
  refine lv_aload_n hx hb dX0_link_2 rfl (lv_at hl 0 rfl) ?_
  refine lv_iload_n hx hb dX0_link_3 rfl (lv_at hl 1 rfl) ?_
  have hPc : va_P (dC, dI) vwCl ([(a, .inl (k, n, .inl f))]) _ := hP.sub [0] rfl
  have hKc : va_K (dC, dI) vwCl ([(k, .int)]) s := hK.sub [0] rfl
  refine va_calli (va_runS (As := [.ref a, .int b]) (rest := [.int b, .ref a]) ⟨hx, hb, hml, hown, hts⟩ (c_X0_at l dC dI a k n f b (by first | assumption | omega)) (va_cwS 2 hts gX0_link_X0_at rfl rfl rfl (by decide +kernel) ⟨Nat.le_of_ble_eq_true rfl, Nat.le_of_ble_eq_true rfl⟩) ⟨gcPR_blind, fun U hU hW => ⟨rfl, by rw [hU]; exact hPc, va_K.moved hW.alike hKc⟩⟩ rfl rfl hl.1 rfl (lv_room (Nat.le_of_ble_eq_true rfl)) dX0_link_4 ⟨Nat.zero_le _, Nat.zero_le _⟩) hS (fun q _ h => h.elim) (fun q h => h.elim) (fun r1 u t H locs ht hvm hw hB hz1 hk1 hS => ?_)
  have hP := gc_keep hP hk1
  have hw : r1 = gAt n f b := hw
  subst hw
  clear hw
  clear hB hz1 hk1 ht hvm
  clear hPc hKc
  refine lv_iconst (v := 1) hx hb dX0_link_7 (by decide) ?_
  refine lv_iload_n hx hb dX0_link_8 rfl (lv_at hl 2 rfl) ?_
  refine lv_ishl hx hb dX0_link_9 ?_
  refine lv_ior hx hb dX0_link_10 ?_
  have hPc : va_P (dC, dI) vwCl ([(a, .inl (k, n, .inl f))]) _ := hP.sub [0] rfl
  have hKc : va_K (dC, dI) vwCl ([(k, .int)]) s := hK.sub [0] rfl
  have hDc : va_D A ([(a, .inl (k, n, .inl f))]) := hD.sub [0] (by decide) rfl
  have hFc := va_free (wc := ([(a, .inl (k, n, .inl f))])) hD hS hA [0] rfl
  refine va_callv (va_runS (As := [.ref a, .int b, .int (gAt n f b ||| ((1 : Int32) <<< (d &&& 31)))]) (rest := []) ⟨hx, hb, hml, hown, hts⟩ (c_X0_put l dC dI a k n f b (gAt n f b ||| ((1 : Int32) <<< (d &&& 31))) H.size (by first | assumption | omega)) (va_cwS 3 hts gX0_link_X0_put rfl rfl rfl (by decide +kernel) ⟨Nat.le_of_ble_eq_true rfl, Nat.le_of_ble_eq_true rfl⟩) ⟨gcPM_blind, fun U hU hW => ⟨rfl, by rw [hU], by rw [hU]; exact hPc, va_K.moved hW.alike hKc, hDc.weaken (fun _ _ _ _ => trivial)⟩⟩ rfl rfl hl.1 rfl (lv_room (Nat.le_of_ble_eq_true rfl)) dX0_link_11 ⟨Nat.zero_le _, Nat.zero_le _⟩) hS (fun q _ h => hFc q h) hFc (fun u t H locs ht hvm hw hB hz1 hk1 hS => ?_)
  obtain ⟨hP1, hD1⟩ := hB
  rw [ht] at hP1
  obtain ⟨hP, hD⟩ := va_join (wr := []) (w1 := ([(a, .inl (k, n, .inl (gPut n f b (gAt n f b ||| ((1 : Int32) <<< (d &&& 31))))))])) hP hD [0] [] rfl rfl (by decide) (by decide) hk1 hFc hP1 hD1
  have hP : va_P (dC, dI) vwCl ([(a, .inl (k, n, .inl (gPut n f b (gAt n f b ||| ((1 : Int32) <<< (d &&& 31))))))]) H := hP.sub [0] rfl
  have hD : va_D A ([(a, .inl (k, n, .inl (gPut n f b (gAt n f b ||| ((1 : Int32) <<< (d &&& 31))))))]) := hD.sub [0] (by decide) rfl
  clear hz1 hk1 ht hvm hP1 hD1 hFc hDc
  clear hPc hKc
  have hWe : (([(a, .inl (k, n, .inl (gPut n f b (gAt n f b ||| ((1 : Int32) <<< (d &&& 31))))))]) : va_W) = ([(a, .inl (k, n, .inl (gLink n f b d)))]) := rfl
  rw [hWe] at hP hD
  exact W.vret hx hb hr (fun t ht hW => ⟨⟨(), rfl, trivial, ⟨by rw [ht]; exact hP, hD⟩⟩, hS.F ht⟩) hS.2.2 dX0_link_14
set_option maxHeartbeats 4000000 in
set_option maxRecDepth 100000 in
theorem c_X0_close (l : Launch) (dC : Nat → ClassId) (dI : Nat → Nat → Nat) (a : Nat) (k : ClassId) (f : Nat → Int32) (sz : Nat) : Met l yX0_close wsX0_close ({ frames := 1, cells := 0, slots := 0, locals := 21 }) (gcPM (dC, dI) [.ref a] ([(a, .inl (k, 20, .inl f))]) ([(k, .int)]) sz) (va_Qv (fun (_u : Unit) => True) (fun _u t => va_P (dC, dI) vwCl ([(a, .inl (k, 20, .inl (gCl f 20)))]) t.heap ∧ va_D (va_A ([(a, .inl (k, 20, .inl f))]) sz) ([(a, .inl (k, 20, .inl (gCl f 20)))])) (va_A ([(a, .inl (k, 20, .inl f))]) sz)) 0 0 (va_A ([(a, .inl (k, 20, .inl f))]) sz) := by
  refine Met.ofW (cc := cX0_close) (maxL := 3) (ret := none) (by decide) rfl ?_
  intro p e s m args below meth c s₁ B hml hv
  obtain ⟨rfl, hsz, hP, hK, hD0⟩ := hv
  have hx := B.exec
  have hb := B.bytes
  have hr := B.returns
  have hts := atoms_spec (ws := wsX0_close) B.pre
  have hown : s.vm.findClass RX0 = some m.cls := findClass_of_methodNamed B.named
  have hlocks := B.notSynchronized
  subst hsz
  have hD := hD0.self (sz := s.heap.size)
  generalize hAe : va_A ([(a, .inl (k, 20, .inl f))]) s.heap.size = A at hD ⊢
  have hA : ∀ q : Nat, s.heap.size ≤ q → A q := fun q h => by rw [← hAe]; exact Or.inr h
  have hS : va_S A s.heap s.heap [] := va_S.rf
  have hP : va_P (dC, dI) vwCl ([(a, .inl (k, 20, .inl f))]) s.heap := hP
  have hl := lv_entry [.ref a] (n := 3) (Nat.le_of_ble_eq_true rfl)
  rw [lg_entry_eq]
  generalize (lg_sl [.ref a] ++ List.replicate (3 - (lg_sl [.ref a]).length) Slot.unset).toArray = ls at hl ⊢
  have hl : lv_has ls 3 [(0, .ref a)] := hl
  refine lv_iconst (v := 0) hx hb dX0_close_0 (by decide) ?_
  refine lv_istore_n (lv' := [(1, .int 0), (0, .ref a)]) hx hb dX0_close_1 rfl hl (by decide) rfl (fun ls hl => ?_)
  refine gc_loop (20) (fun (i : Nat) (H : Heap) (locs : List Loc) (ls : Array Slot) => ∃ (fm : Nat → Int32), fm = gCl f i ∧ va_P (dC, dI) vwCl ([(a, .inl (k, 20, .inl fm))]) H ∧ va_D A ([(a, .inl (k, 20, .inl fm))]) ∧ va_S A s.heap H locs ∧ lv_has ls 3 [(1, .int (nI i)), (0, .ref a)]) 0 (Nat.zero_le _) ⟨f, (by first | rfl | assumption | omega), hP, hD, hS, lv_sub hl [0, 1] rfl⟩ ?_
  intro i H locs ls hi hI ihi
  obtain ⟨fm, e_fm, hP, hD, hS, hl⟩ := hI
  refine lv_iload_n hx hb dX0_close_2 rfl (lv_at hl 0 rfl) ?_
  refine lv_aload_n hx hb dX0_close_3 rfl (lv_at hl 1 rfl) ?_
  refine va_alen hx hb hK hP 0 0 rfl rfl (v := nI 20) rfl dX0_close_4 ?_
  refine lv_icmp_ge (tgt := 47) hx hb dX0_close_5 (by decide) (fun c_5 => ?_) (fun c_5 => ?_)
  · skip
    have hEi : i = 20 := gc_ge c_5 (by omega) (by omega)
    have hWe : (([(a, .inl (k, 20, .inl fm))]) : va_W) = ([(a, .inl (k, 20, .inl (gCl f 20)))]) := by rw [e_fm, hEi]
    rw [hWe] at hP hD
    exact W.vret hx hb hr (fun t ht hW => ⟨⟨(), rfl, trivial, ⟨by rw [ht]; exact hP, hD⟩⟩, hS.F ht⟩) hS.2.2 dX0_close_47
  · skip
    have hLi : i < 20 := gc_lt c_5 (by omega) (by omega)
    refine lv_iconst (v := 0) hx hb dX0_close_8 (by decide) ?_
    refine lv_istore_n (lv' := [(2, .int 0), (1, .int (nI i)), (0, .ref a)]) hx hb dX0_close_9 rfl hl (by decide) rfl (fun ls hl => ?_)
    refine gc_loop (20) (fun (w : Nat) (H : Heap) (locs : List Loc) (ls : Array Slot) => ∃ (fw : Nat → Int32), fw = gClB fm i w ∧ va_P (dC, dI) vwCl ([(a, .inl (k, 20, .inl fw))]) H ∧ va_D A ([(a, .inl (k, 20, .inl fw))]) ∧ va_S A s.heap H locs ∧ lv_has ls 3 [(2, .int (nI w)), (1, .int (nI i)), (0, .ref a)]) 0 (Nat.zero_le _) ⟨fm, (by first | rfl | assumption | omega), hP, hD, hS, lv_sub hl [0, 1, 2] rfl⟩ ?_
    intro w H locs ls hw hI ihw
    obtain ⟨fw, e_fw, hP, hD, hS, hl⟩ := hI
    refine lv_iload_n hx hb dX0_close_10 rfl (lv_at hl 0 rfl) ?_
    refine lv_aload_n hx hb dX0_close_11 rfl (lv_at hl 2 rfl) ?_
    refine va_alen hx hb hK hP 0 0 rfl rfl (v := nI 20) rfl dX0_close_12 ?_
    refine lv_icmp_ge (tgt := 41) hx hb dX0_close_13 (by decide) (fun c_13 => ?_) (fun c_13 => ?_)
    · skip
      have hEw : w = 20 := gc_ge c_13 (by omega) (by omega)
      refine lv_iinc (v := nI (i + 1)) (lv' := [(1, .int (nI (i + 1))), (2, .int (nI w)), (0, .ref a)]) hx hb dX0_close_41 hl (k := 1) rfl (nI_1 i) (by decide) rfl (fun ls hl => ?_)
      refine lv_goto (tgt := 2) hx hb dX0_close_44 (by decide) ?_
      exact ihi H _ ls (by omega) ⟨fw, (by rw [e_fw, hEw, e_fm]; rfl), hP, hD, hS, lv_sub hl [0, 2] rfl⟩
    · skip
      have hLw : w < 20 := gc_lt c_13 (by omega) (by omega)
      refine lv_aload_n hx hb dX0_close_16 rfl (lv_at hl 2 rfl) ?_
      refine lv_iload_n hx hb dX0_close_17 rfl (lv_at hl 0 rfl) ?_
      refine va_iald hx hb hK hP 0 0 rfl rfl (vp_in_nI (n := w) (by omega) (by decide)) dX0_close_18 ?_
      rw [nI_clamp (n := w) (by omega)]
      refine lv_iload_n hx hb dX0_close_19 rfl (lv_at hl 1 rfl) ?_
      refine va_calli (va_runS (As := [.int (fw w), .int (nI i)]) (rest := []) ⟨hx, hb, hml, hown, hts⟩ (c_X0_has l (fw w) (nI i)) (va_cwS 2 hts gX0_close_X0_has rfl rfl rfl (by decide +kernel) ⟨Nat.le_of_ble_eq_true rfl, Nat.le_of_ble_eq_true rfl⟩) ⟨fun a U g mk q => q, fun U hU hW => ⟨rfl, trivial⟩⟩ rfl rfl hl.1 rfl (lv_room (Nat.le_of_ble_eq_true rfl)) dX0_close_20 ⟨Nat.zero_le _, Nat.zero_le _⟩) hS (fun q _ h => h.elim) (fun q h => h.elim) (fun r1 u t H locs ht hvm hw hB hz1 hk1 hS => ?_)
      have hP := gc_keep hP hk1
      have hw : r1 = gB (gHas (fw w) (nI i)) := hw
      subst hw
      clear hw
      clear hB hz1 hk1 ht hvm
      refine lv_if_eq (tgt := 35) hx hb dX0_close_23 (by decide) (fun c_23 => ?_) (fun c_23 => ?_)
      · skip
        have c_23 := gB_f c_23
        refine lv_iinc (v := nI (w + 1)) (lv' := [(2, .int (nI (w + 1))), (1, .int (nI i)), (0, .ref a)]) hx hb dX0_close_35 hl (k := 0) rfl (nI_1 w) (by decide) rfl (fun ls hl => ?_)
        refine lv_goto (tgt := 10) hx hb dX0_close_38 (by decide) ?_
        exact ihw H _ ls (by omega) ⟨fw, (by simp only [gClB, ← e_fw]; simp [gClB, c_23]), hP, hD, hS, lv_sub hl [0, 1, 2] rfl⟩
      · skip
        have c_23 := gB_t c_23
        refine lv_aload_n hx hb dX0_close_26 rfl (lv_at hl 2 rfl) ?_
        refine lv_iload_n hx hb dX0_close_27 rfl (lv_at hl 0 rfl) ?_
        refine lv_dup2_11 hx hb dX0_close_28 rfl rfl ?_
        refine va_iald hx hb hK hP 0 0 rfl rfl (vp_in_nI (n := w) (by omega) (by decide)) dX0_close_29 ?_
        rw [nI_clamp (n := w) (by omega)]
        refine lv_aload_n hx hb dX0_close_30 rfl (lv_at hl 2 rfl) ?_
        refine lv_iload_n hx hb dX0_close_31 rfl (lv_at hl 1 rfl) ?_
        refine va_iald hx hb hK hP 0 0 rfl rfl (vp_in_nI (n := i) (by omega) (by decide)) dX0_close_32 ?_
        rw [nI_clamp (n := i) (by omega)]
        refine lv_ior hx hb dX0_close_33 ?_
        refine va_iast hx hb hK hP hD hS 0 0 rfl rfl (vp_in_nI (n := w) (by omega) (by decide)) dX0_close_34 (fun H locs hP hD hS => ?_)
        rw [nI_clamp (n := w) (by omega)] at hP hD
        have hP : va_P (dC, dI) vwCl ([(a, .inl (k, 20, .inl (upd fw w (fw w ||| fw i))))]) H := hP
        have hD : va_D A ([(a, .inl (k, 20, .inl (upd fw w (fw w ||| fw i))))]) := hD
        refine lv_iinc (v := nI (w + 1)) (lv' := [(2, .int (nI (w + 1))), (1, .int (nI i)), (0, .ref a)]) hx hb dX0_close_35 hl (k := 0) rfl (nI_1 w) (by decide) rfl (fun ls hl => ?_)
        refine lv_goto (tgt := 10) hx hb dX0_close_38 (by decide) ?_
        exact ihw H _ ls (by omega) ⟨(upd fw w (fw w ||| fw i)), (by simp only [gClB, ← e_fw]; simp [gClB, c_23]), hP, hD, hS, lv_sub hl [0, 1, 2] rfl⟩
end
section
/-! THE BOOK'S OWN METHODS, in words of its rows. -/
def gCT (f : Nat → Int32) : Nat → Int32
  | 0 => 0
  | i + 1 => gCT f i + gB (gTorn 20 f (nI i))
def gCV (f : Nat → Int32) : Nat → Int32
  | 0 => 0
  | i + 1 => gCV f i + gB (gVain 20 f (nI i))
def gCP (f : Nat → Int32) : Nat → Int32
  | 0 => 0
  | i + 1 => gCP f i + (gBC (gAt 20 f (nI i)) - 1)
def gOS (dr : Nat → Int32) (x : Int32) : Nat → Int32
  | 0 => x
  | i + 1 => if gHas x (nI i) = true then gOS dr x i ||| gAt 20 dr (nI i) else gOS dr x i
def gGB (cl : Nat → Int32) (x : Int32) : Nat → Int32
  | 0 => 0
  | i + 1 => if gHas (gAt 20 cl x) (nI i) = true ∧ gHas (gAt 20 cl (nI i)) x = true then gGB cl x i ||| ((1 : Int32) <<< ((nI i >>> (1 &&& 31)) &&& 31)) else gGB cl x i
def gGC (x : Int32) : Nat → Int32
  | 0 => 0
  | i + 1 => if gHas x (2 * nI i) = true then gGC x i ||| ((1 : Int32) <<< (nI i &&& 31)) else gGC x i
def gIn (f : Nat → Int32) : Nat → (Nat → Int32)
  | 0 => f
  | i + 1 => upd (gIn f i) i ((1 : Int32) <<< (nI i &&& 31))
def gLk (f1 f2 : Nat → Int32) (inf left : Int32) (f : Nat → Int32) : Nat → (Nat → Int32)
  | 0 => f
  | i + 1 => if nI i = left then gLk f1 f2 inf left f i else if gHas inf (nI i) = true then gLink 20 (gLink 20 (gLk f1 f2 inf left f i) (gAt 30 f1 (nI i)) (gAt 30 f2 (nI i))) (gAt 30 f2 (nI i) ^^^ 1) (gAt 30 f1 (nI i) ^^^ 1) else gLk f1 f2 inf left f i
def gLA (f1 f2 : Nat → Int32) (inf left : Int32) (r : Nat) (f : Nat → Int32) : Nat → Int32 := gLk f1 f2 inf left (gIn f 20) r
def gFt (cl : Nat → Int32) (g : Nat) : Bool := decide (gCT cl g = 0)
def gF0 (cl : Nat → Int32) (g : Nat) : Nat := if gFt cl g = true then 1 else 0
/-- the seatings' row and how many, after i of them were settled for the wish co -/
def gSt (cl : Nat → Int32) (co : Int32) (se : Nat → Int32) (c : Nat) : Nat → (Nat → Int32) × Nat
  | 0 => (se, c)
  | i + 1 =>
    if gHas (gAt 1024 (gSt cl co se c i).1 (nI i)) co = true ∨ gHas (gAt 1024 (gSt cl co se c i).1 (nI i)) (co ^^^ 1) = true then gSt cl co se c i
    else if gVain 20 cl co = true then (gPut 1024 (gSt cl co se c i).1 (nI i) (gAt 1024 (gSt cl co se c i).1 (nI i) ||| gAt 20 cl (co ^^^ 1)), (gSt cl co se c i).2)
    else if gVain 20 cl (co ^^^ 1) = true then (gPut 1024 (gSt cl co se c i).1 (nI i) (gAt 1024 (gSt cl co se c i).1 (nI i) ||| gAt 20 cl co), (gSt cl co se c i).2)
    else (gPut 1024 (gPut 1024 (gSt cl co se c i).1 (nI i) (gAt 1024 (gSt cl co se c i).1 (nI i) ||| gAt 20 cl co)) (nI (gSt cl co se c i).2) (gAt 1024 (gSt cl co se c i).1 (nI i) ||| gAt 20 cl (co ^^^ 1)), (gSt cl co se c i).2 + 1)
def gLs (cl se : Nat → Int32) (g : Nat) : Nat → (Nat → Int32) × Nat
  | 0 => (gPut 1024 se 0 0, gF0 cl g)
  | i + 1 => gSt cl (2 * nI i) (gLs cl se g i).1 (gLs cl se g i).2 (gLs cl se g i).2
theorem gSt_le (cl : Nat → Int32) (co : Int32) (se : Nat → Int32) (c : Nat) : ∀ i, (gSt cl co se c i).2 ≤ c + i
  | 0 => Nat.le_refl _
  | i + 1 => by
    have h := gSt_le cl co se c i
    simp only [gSt]
    split
    · omega
    · split
      · show (gSt cl co se c i).2 ≤ _; omega
      · split
        · show (gSt cl co se c i).2 ≤ _; omega
        · show (gSt cl co se c i).2 + 1 ≤ _; omega
theorem gLs_le (cl se : Nat → Int32) (g : Nat) : ∀ i, (gLs cl se g i).2 ≤ 2 ^ i
  | 0 => by simp only [gLs, gF0]; split <;> omega
  | i + 1 => by
    have h := gLs_le cl se g i
    have h2 := gSt_le cl (2 * nI i) (gLs cl se g i).1 (gLs cl se g i).2 (gLs cl se g i).2
    simp only [gLs]
    rw [Nat.pow_succ]
    omega
theorem gLs_le' (cl se : Nat → Int32) (g : Nat) {i : Nat} (h : i ≤ 10) : (gLs cl se g i).2 ≤ 1024 :=
  Nat.le_trans (gLs_le cl se g i) (Nat.pow_le_pow_right (by decide) h)
theorem gF0_eq (cl : Nat → Int32) (g : Nat) : gB (gFt cl g) = nI (gF0 cl g) := by
  simp only [gB, gF0]; split <;> rfl
def gFe (se : Nat → Int32) : Nat → Int32
  | 0 => -1
  | i + 1 => if nI i = 0 ∨ gBC (gAt 1024 se (nI i) &&& 349525) < gFe se i then gBC (gAt 1024 se (nI i) &&& 349525) else gFe se i
def gMo (se : Nat → Int32) : Nat → Int32
  | 0 => -1
  | i + 1 => if gMo se i < gBC (gAt 1024 se (nI i) &&& 349525) then gBC (gAt 1024 se (nI i) &&& 349525) else gMo se i
def gSu (se : Nat → Int32) : Nat → Int32
  | 0 => 0
  | i + 1 => gSu se i + gBC (gAt 1024 se (nI i) &&& 349525)
def gTi (se : Nat → Int32) (a b : Int32) : Nat → Nat
  | 0 => 0
  | i + 1 => if gHas (gAt 1024 se (nI i)) a = true ∧ gHas (gAt 1024 se (nI i)) b = false then gTi se a b i + 1 else gTi se a b i
/-- the first place below n where p holds, -1 if there is none -/
def gFst (p : Nat → Bool) : Nat → Int32
  | 0 => -1
  | n + 1 => if gFst p n = -1 then (if p n = true then nI n else -1) else gFst p n
theorem gFst_no {p : Nat → Bool} : ∀ {n : Nat}, (∀ j, j < n → p j = false) → gFst p n = -1
  | 0, _ => rfl
  | n + 1, h => by
    have h1 := gFst_no (p := p) (n := n) (fun j hj => h j (by omega))
    simp [gFst, h1, h n (by omega)]
theorem nI_nm1 {n : Nat} (h : n < 2 ^ 31) : ¬ nI n = -1 := by
  intro e
  have h1 := nI_toInt h
  rw [e] at h1
  have h2 : (-1 : Int32).toInt = -1 := by decide
  omega
theorem gFst_hit {p : Nat → Bool} {i : Nat} (hi : i < 2 ^ 31) (hp : p i = true) (h : ∀ j, j < i → p j = false) : ∀ {n : Nat}, i < n → gFst p n = nI i
  | 0, h0 => absurd h0 (Nat.not_lt_zero i)
  | n + 1, h0 => by
    rcases Nat.lt_or_ge i n with q | q
    · have h1 := gFst_hit hi hp h q
      simp [gFst, h1, nI_nm1 hi]
    · have e : i = n := by omega
      subst e
      simp [gFst, gFst_no h, hp]
def gBr (f1 f2 : Nat → Int32) (inf x : Int32) (j : Nat) : Bool := gHas inf (nI j) && gHolds (gAt 30 f1 (nI j)) x && !gHolds (gAt 30 f2 (nI j)) x
set_option maxHeartbeats 4000000 in
set_option maxRecDepth 100000 in
theorem c_X0_wishCount (l : Launch) (dC : Nat → ClassId) (dI : Nat → Nat → Nat) (h : Nat → Nat) (kc : Nat → ClassId) (f1 : Nat → Int32) (f2 : Nat → Int32) (dr : Nat → Int32) (cl : Nat → Int32) (tr : Nat → Int32) (se : Nat → Int32) (g : Nat) (r : Nat) (inf : Int32) (ct : Nat) : Met l yX0_wishCount wsX0_wishCount ({ frames := 0, cells := 0, slots := 0, locals := 0 }) (gcPR (dC, dI) [.ref (h 0)] (gcW h kc f1 f2 dr cl tr se (nI g) (nI r) inf (nI ct)) (gcT kc)) (va_Qi (fun (rv : Int32) (_u : Unit) => rv = nI (2 * g)) (fun _ _ => True) (fun _ => False)) 0 0 (fun _ => False) := by
  refine Met.ofW (cc := cX0_wishCount) (maxL := 1) (ret := (some .int)) (by decide) rfl ?_
  intro p e s m args below meth c s₁ B hml hv
  obtain ⟨rfl, hP, hK⟩ := hv
  have hx := B.exec
  have hb := B.bytes
  have hr := B.returns
  have hts := atoms_spec (ws := wsX0_wishCount) B.pre
  have hown : s.vm.findClass RX0 = some m.cls := findClass_of_methodNamed B.named
  have hlocks := B.notSynchronized
  have hS : va_S (fun _ => False) s.heap s.heap [] := va_S.rf
  have hP : va_P (dC, dI) vwCl (gcW h kc f1 f2 dr cl tr se (nI g) (nI r) inf (nI ct)) s.heap := hP
  have hin0 : ∀ w ∈ wsX00, w ∈ wsX0_wishCount := by decide +kernel
  have hl := lv_entry [.ref (h 0)] (n := 1) (Nat.le_of_ble_eq_true rfl)
  rw [lg_entry_eq]
  generalize (lg_sl [.ref (h 0)] ++ List.replicate (1 - (lg_sl [.ref (h 0)]).length) Slot.unset).toArray = ls at hl ⊢
  have hl : lv_has ls 1 [(0, .ref (h 0))] := hl
  refine lv_iconst (v := 2) hx hb dX0_wishCount_0 (by decide) ?_
  refine lv_aload_n hx hb dX0_wishCount_1 rfl (lv_at hl 0 rfl) ?_
  refine va_get (D := (dC, dI)) (ci := 0) (v := .int (nI g)) (C := RX0) (T := TX0) (N := 10) hx hb hts hin0 hown hK hP 0 rfl rfl 6 (by decide) (hts (.fieldLink RX0 31 "GuestChairs" "guestCount" "I") (by decide +kernel)) (fun _ h9 => h9) rfl dX0_wishCount_2 ?_
  refine lv_imul hx hb dX0_wishCount_5 ?_
  refine gc_topi (y := nI (2 * g)) (pk_mul 2 g) ?_
  have hpost : (nI (2 * g)) = nI (2 * g) := by first | rfl | assumption
  exact W.iret (v := nI (2 * g)) hx hb hr (fun t ht hW => ⟨⟨nI (2 * g), (), rfl, hpost, trivial⟩, hS.F ht⟩) hS.2.2 dX0_wishCount_6
set_option maxHeartbeats 4000000 in
set_option maxRecDepth 100000 in
theorem c_X0_countTorn_cl (l : Launch) (dC : Nat → ClassId) (dI : Nat → Nat → Nat) (h : Nat → Nat) (kc : Nat → ClassId) (f1 : Nat → Int32) (f2 : Nat → Int32) (dr : Nat → Int32) (cl : Nat → Int32) (tr : Nat → Int32) (se : Nat → Int32) (g : Nat) (r : Nat) (inf : Int32) (ct : Nat) (hg : g ≤ 10) : Met l yX0_countTorn wsX0_countTorn ({ frames := 3, cells := 0, slots := 0, locals := 63 }) (gcPR (dC, dI) [.ref (h 0), .ref (h 4)] (gcW h kc f1 f2 dr cl tr se (nI g) (nI r) inf (nI ct)) (gcT kc)) (va_Qi (fun (rv : Int32) (_u : Unit) => rv = gCT cl g) (fun _ _ => True) (fun _ => False)) 0 0 (fun _ => False) := by
  refine Met.ofW (cc := cX0_countTorn) (maxL := 4) (ret := (some .int)) (by decide) rfl ?_
  intro p e s m args below meth c s₁ B hml hv
  obtain ⟨rfl, hP, hK⟩ := hv
  have hx := B.exec
  have hb := B.bytes
  have hr := B.returns
  have hts := atoms_spec (ws := wsX0_countTorn) B.pre
  have hown : s.vm.findClass RX0 = some m.cls := findClass_of_methodNamed B.named
  have hlocks := B.notSynchronized
  have hS : va_S (fun _ => False) s.heap s.heap [] := va_S.rf
  have hP : va_P (dC, dI) vwCl (gcW h kc f1 f2 dr cl tr se (nI g) (nI r) inf (nI ct)) s.heap := hP
  have hin0 : ∀ w ∈ wsX00, w ∈ wsX0_countTorn := by decide +kernel
  have hl := lv_entry [.ref (h 0), .ref (h 4)] (n := 4) (Nat.le_of_ble_eq_true rfl)
  rw [lg_entry_eq]
  generalize (lg_sl [.ref (h 0), .ref (h 4)] ++ List.replicate (4 - (lg_sl [.ref (h 0), .ref (h 4)]).length) Slot.unset).toArray = ls at hl ⊢
  have hl : lv_has ls 4 [(0, .ref (h 0)), (1, .ref (h 4))] := hl
  refine lv_iconst (v := 0) hx hb dX0_countTorn_0 (by decide) ?_
  refine lv_istore_n (lv' := [(2, .int 0), (0, .ref (h 0)), (1, .ref (h 4))]) hx hb dX0_countTorn_1 rfl hl (by decide) rfl (fun ls hl => ?_)
  refine lv_iconst (v := 0) hx hb dX0_countTorn_2 (by decide) ?_
  refine lv_istore_n (lv' := [(3, .int 0), (2, .int 0), (0, .ref (h 0)), (1, .ref (h 4))]) hx hb dX0_countTorn_3 rfl hl (by decide) rfl (fun ls hl => ?_)
  refine gc_loop (g) (fun (i : Nat) (H : Heap) (locs : List Loc) (ls : Array Slot) => ∃ (x : Int32), x = gCT cl i ∧ va_P (dC, dI) vwCl (gcW h kc f1 f2 dr cl tr se (nI g) (nI r) inf (nI ct)) H ∧ va_S (fun _ => False) s.heap H locs ∧ lv_has ls 4 [(3, .int (nI i)), (2, .int x), (0, .ref (h 0)), (1, .ref (h 4))]) 0 (Nat.zero_le _) ⟨0, (by first | rfl | assumption | omega), hP, hS, lv_sub hl [0, 1, 2, 3] rfl⟩ ?_
  intro i H locs ls hi hI ihi
  obtain ⟨x, e_x, hP, hS, hl⟩ := hI
  refine lv_iload_n hx hb dX0_countTorn_4 rfl (lv_at hl 0 rfl) ?_
  refine lv_aload_n hx hb dX0_countTorn_5 rfl (lv_at hl 2 rfl) ?_
  refine va_get (D := (dC, dI)) (ci := 0) (v := .int (nI g)) (C := RX0) (T := TX0) (N := 10) hx hb hts hin0 hown hK hP 0 rfl rfl 6 (by decide) (hts (.fieldLink RX0 31 "GuestChairs" "guestCount" "I") (by decide +kernel)) (fun _ h9 => h9) rfl dX0_countTorn_6 ?_
  refine lv_icmp_ge (tgt := 29) hx hb dX0_countTorn_9 (by decide) (fun c_9 => ?_) (fun c_9 => ?_)
  · skip
    have hEi : i = g := gc_ge c_9 (by omega) (by omega)
    refine lv_iload_n hx hb dX0_countTorn_29 rfl (lv_at hl 1 rfl) ?_
    have hpost : x = gCT cl g := by rw [e_x, hEi]
    exact W.iret (v := x) hx hb hr (fun t ht hW => ⟨⟨x, (), rfl, hpost, trivial⟩, hS.F ht⟩) hS.2.2 dX0_countTorn_30
  · skip
    have hLi : i < g := gc_lt c_9 (by omega) (by omega)
    refine lv_iload_n hx hb dX0_countTorn_12 rfl (lv_at hl 1 rfl) ?_
    refine lv_aload_n hx hb dX0_countTorn_13 rfl (lv_at hl 3 rfl) ?_
    refine lv_iload_n hx hb dX0_countTorn_14 rfl (lv_at hl 0 rfl) ?_
    have hPc : va_P (dC, dI) vwCl ([((h 4), .inl ((kc 4), 20, .inl cl))]) _ := hP.sub [4] rfl
    have hKc : va_K (dC, dI) vwCl ([((kc 4), .int)]) s := hK.sub [3] rfl
    refine va_calli (va_runS (As := [.ref (h 4), .int (nI i)]) (rest := [.int x]) ⟨hx, hb, hml, hown, hts⟩ (c_X0_isTorn l dC dI (h 4) (kc 4) 20 cl (nI i) (by decide)) (va_cwS 2 hts gX0_countTorn_X0_isTorn rfl rfl rfl (by decide +kernel) ⟨Nat.le_of_ble_eq_true rfl, Nat.le_of_ble_eq_true rfl⟩) ⟨gcPR_blind, fun U hU hW => ⟨rfl, by rw [hU]; exact hPc, va_K.moved hW.alike hKc⟩⟩ rfl rfl hl.1 rfl (lv_room (Nat.le_of_ble_eq_true rfl)) dX0_countTorn_15 ⟨Nat.zero_le _, Nat.zero_le _⟩) hS (fun q _ h => h.elim) (fun q h => h.elim) (fun r1 u t H locs ht hvm hw hB hz1 hk1 hS => ?_)
    have hP := gc_keep hP hk1
    have hw : r1 = gB (gTorn 20 cl (nI i)) := hw
    subst hw
    clear hw
    clear hB hz1 hk1 ht hvm
    clear hPc hKc
    refine va_calli (va_runS (As := [.int (gB (gTorn 20 cl (nI i)))]) (rest := [.int x]) ⟨hx, hb, hml, hown, hts⟩ (c_X0_oneIf l (gTorn 20 cl (nI i))) (va_cwS 1 hts gX0_countTorn_X0_oneIf rfl rfl rfl (by decide +kernel) ⟨Nat.le_of_ble_eq_true rfl, Nat.le_of_ble_eq_true rfl⟩) ⟨fun a U g mk q => q, fun U hU hW => ⟨rfl, trivial⟩⟩ rfl rfl hl.1 rfl (lv_room (Nat.le_of_ble_eq_true rfl)) dX0_countTorn_18 ⟨Nat.zero_le _, Nat.zero_le _⟩) hS (fun q _ h => h.elim) (fun q h => h.elim) (fun r2 u t H locs ht hvm hw hB hz1 hk1 hS => ?_)
    have hP := gc_keep hP hk1
    have hw : r2 = gB (gTorn 20 cl (nI i)) := hw
    subst hw
    clear hw
    clear hB hz1 hk1 ht hvm
    refine lv_iadd hx hb dX0_countTorn_21 ?_
    refine lv_istore_n (lv' := [(2, .int (x + gB (gTorn 20 cl (nI i)))), (3, .int (nI i)), (0, .ref (h 0)), (1, .ref (h 4))]) hx hb dX0_countTorn_22 rfl hl (by decide) rfl (fun ls hl => ?_)
    refine lv_iinc (v := nI (i + 1)) (lv' := [(3, .int (nI (i + 1))), (2, .int (x + gB (gTorn 20 cl (nI i)))), (0, .ref (h 0)), (1, .ref (h 4))]) hx hb dX0_countTorn_23 hl (k := 1) rfl (nI_1 i) (by decide) rfl (fun ls hl => ?_)
    refine lv_goto (tgt := 4) hx hb dX0_countTorn_26 (by decide) ?_
    exact ihi H _ ls (by omega) ⟨(x + gB (gTorn 20 cl (nI i))), (by rw [e_x]; rfl), hP, hS, lv_sub hl [0, 1, 2, 3] rfl⟩
set_option maxHeartbeats 4000000 in
set_option maxRecDepth 100000 in
theorem c_X0_countTorn_tr (l : Launch) (dC : Nat → ClassId) (dI : Nat → Nat → Nat) (h : Nat → Nat) (kc : Nat → ClassId) (f1 : Nat → Int32) (f2 : Nat → Int32) (dr : Nat → Int32) (cl : Nat → Int32) (tr : Nat → Int32) (se : Nat → Int32) (g : Nat) (r : Nat) (inf : Int32) (ct : Nat) (hg : g ≤ 10) : Met l yX0_countTorn wsX0_countTorn ({ frames := 3, cells := 0, slots := 0, locals := 63 }) (gcPR (dC, dI) [.ref (h 0), .ref (h 5)] (gcW h kc f1 f2 dr cl tr se (nI g) (nI r) inf (nI ct)) (gcT kc)) (va_Qi (fun (rv : Int32) (_u : Unit) => rv = gCT tr g) (fun _ _ => True) (fun _ => False)) 0 0 (fun _ => False) := by
  refine Met.ofW (cc := cX0_countTorn) (maxL := 4) (ret := (some .int)) (by decide) rfl ?_
  intro p e s m args below meth c s₁ B hml hv
  obtain ⟨rfl, hP, hK⟩ := hv
  have hx := B.exec
  have hb := B.bytes
  have hr := B.returns
  have hts := atoms_spec (ws := wsX0_countTorn) B.pre
  have hown : s.vm.findClass RX0 = some m.cls := findClass_of_methodNamed B.named
  have hlocks := B.notSynchronized
  have hS : va_S (fun _ => False) s.heap s.heap [] := va_S.rf
  have hP : va_P (dC, dI) vwCl (gcW h kc f1 f2 dr cl tr se (nI g) (nI r) inf (nI ct)) s.heap := hP
  have hin0 : ∀ w ∈ wsX00, w ∈ wsX0_countTorn := by decide +kernel
  have hl := lv_entry [.ref (h 0), .ref (h 5)] (n := 4) (Nat.le_of_ble_eq_true rfl)
  rw [lg_entry_eq]
  generalize (lg_sl [.ref (h 0), .ref (h 5)] ++ List.replicate (4 - (lg_sl [.ref (h 0), .ref (h 5)]).length) Slot.unset).toArray = ls at hl ⊢
  have hl : lv_has ls 4 [(0, .ref (h 0)), (1, .ref (h 5))] := hl
  refine lv_iconst (v := 0) hx hb dX0_countTorn_0 (by decide) ?_
  refine lv_istore_n (lv' := [(2, .int 0), (0, .ref (h 0)), (1, .ref (h 5))]) hx hb dX0_countTorn_1 rfl hl (by decide) rfl (fun ls hl => ?_)
  refine lv_iconst (v := 0) hx hb dX0_countTorn_2 (by decide) ?_
  refine lv_istore_n (lv' := [(3, .int 0), (2, .int 0), (0, .ref (h 0)), (1, .ref (h 5))]) hx hb dX0_countTorn_3 rfl hl (by decide) rfl (fun ls hl => ?_)
  refine gc_loop (g) (fun (i : Nat) (H : Heap) (locs : List Loc) (ls : Array Slot) => ∃ (x : Int32), x = gCT tr i ∧ va_P (dC, dI) vwCl (gcW h kc f1 f2 dr cl tr se (nI g) (nI r) inf (nI ct)) H ∧ va_S (fun _ => False) s.heap H locs ∧ lv_has ls 4 [(3, .int (nI i)), (2, .int x), (0, .ref (h 0)), (1, .ref (h 5))]) 0 (Nat.zero_le _) ⟨0, (by first | rfl | assumption | omega), hP, hS, lv_sub hl [0, 1, 2, 3] rfl⟩ ?_
  intro i H locs ls hi hI ihi
  obtain ⟨x, e_x, hP, hS, hl⟩ := hI
  refine lv_iload_n hx hb dX0_countTorn_4 rfl (lv_at hl 0 rfl) ?_
  refine lv_aload_n hx hb dX0_countTorn_5 rfl (lv_at hl 2 rfl) ?_
  refine va_get (D := (dC, dI)) (ci := 0) (v := .int (nI g)) (C := RX0) (T := TX0) (N := 10) hx hb hts hin0 hown hK hP 0 rfl rfl 6 (by decide) (hts (.fieldLink RX0 31 "GuestChairs" "guestCount" "I") (by decide +kernel)) (fun _ h9 => h9) rfl dX0_countTorn_6 ?_
  refine lv_icmp_ge (tgt := 29) hx hb dX0_countTorn_9 (by decide) (fun c_9 => ?_) (fun c_9 => ?_)
  · skip
    have hEi : i = g := gc_ge c_9 (by omega) (by omega)
    refine lv_iload_n hx hb dX0_countTorn_29 rfl (lv_at hl 1 rfl) ?_
    have hpost : x = gCT tr g := by rw [e_x, hEi]
    exact W.iret (v := x) hx hb hr (fun t ht hW => ⟨⟨x, (), rfl, hpost, trivial⟩, hS.F ht⟩) hS.2.2 dX0_countTorn_30
  · skip
    have hLi : i < g := gc_lt c_9 (by omega) (by omega)
    refine lv_iload_n hx hb dX0_countTorn_12 rfl (lv_at hl 1 rfl) ?_
    refine lv_aload_n hx hb dX0_countTorn_13 rfl (lv_at hl 3 rfl) ?_
    refine lv_iload_n hx hb dX0_countTorn_14 rfl (lv_at hl 0 rfl) ?_
    have hPc : va_P (dC, dI) vwCl ([((h 5), .inl ((kc 5), 20, .inl tr))]) _ := hP.sub [5] rfl
    have hKc : va_K (dC, dI) vwCl ([((kc 5), .int)]) s := hK.sub [4] rfl
    refine va_calli (va_runS (As := [.ref (h 5), .int (nI i)]) (rest := [.int x]) ⟨hx, hb, hml, hown, hts⟩ (c_X0_isTorn l dC dI (h 5) (kc 5) 20 tr (nI i) (by decide)) (va_cwS 2 hts gX0_countTorn_X0_isTorn rfl rfl rfl (by decide +kernel) ⟨Nat.le_of_ble_eq_true rfl, Nat.le_of_ble_eq_true rfl⟩) ⟨gcPR_blind, fun U hU hW => ⟨rfl, by rw [hU]; exact hPc, va_K.moved hW.alike hKc⟩⟩ rfl rfl hl.1 rfl (lv_room (Nat.le_of_ble_eq_true rfl)) dX0_countTorn_15 ⟨Nat.zero_le _, Nat.zero_le _⟩) hS (fun q _ h => h.elim) (fun q h => h.elim) (fun r1 u t H locs ht hvm hw hB hz1 hk1 hS => ?_)
    have hP := gc_keep hP hk1
    have hw : r1 = gB (gTorn 20 tr (nI i)) := hw
    subst hw
    clear hw
    clear hB hz1 hk1 ht hvm
    clear hPc hKc
    refine va_calli (va_runS (As := [.int (gB (gTorn 20 tr (nI i)))]) (rest := [.int x]) ⟨hx, hb, hml, hown, hts⟩ (c_X0_oneIf l (gTorn 20 tr (nI i))) (va_cwS 1 hts gX0_countTorn_X0_oneIf rfl rfl rfl (by decide +kernel) ⟨Nat.le_of_ble_eq_true rfl, Nat.le_of_ble_eq_true rfl⟩) ⟨fun a U g mk q => q, fun U hU hW => ⟨rfl, trivial⟩⟩ rfl rfl hl.1 rfl (lv_room (Nat.le_of_ble_eq_true rfl)) dX0_countTorn_18 ⟨Nat.zero_le _, Nat.zero_le _⟩) hS (fun q _ h => h.elim) (fun q h => h.elim) (fun r2 u t H locs ht hvm hw hB hz1 hk1 hS => ?_)
    have hP := gc_keep hP hk1
    have hw : r2 = gB (gTorn 20 tr (nI i)) := hw
    subst hw
    clear hw
    clear hB hz1 hk1 ht hvm
    refine lv_iadd hx hb dX0_countTorn_21 ?_
    refine lv_istore_n (lv' := [(2, .int (x + gB (gTorn 20 tr (nI i)))), (3, .int (nI i)), (0, .ref (h 0)), (1, .ref (h 5))]) hx hb dX0_countTorn_22 rfl hl (by decide) rfl (fun ls hl => ?_)
    refine lv_iinc (v := nI (i + 1)) (lv' := [(3, .int (nI (i + 1))), (2, .int (x + gB (gTorn 20 tr (nI i)))), (0, .ref (h 0)), (1, .ref (h 5))]) hx hb dX0_countTorn_23 hl (k := 1) rfl (nI_1 i) (by decide) rfl (fun ls hl => ?_)
    refine lv_goto (tgt := 4) hx hb dX0_countTorn_26 (by decide) ?_
    exact ihi H _ ls (by omega) ⟨(x + gB (gTorn 20 tr (nI i))), (by rw [e_x]; rfl), hP, hS, lv_sub hl [0, 1, 2, 3] rfl⟩
set_option maxHeartbeats 4000000 in
set_option maxRecDepth 100000 in
theorem c_X0_fits (l : Launch) (dC : Nat → ClassId) (dI : Nat → Nat → Nat) (h : Nat → Nat) (kc : Nat → ClassId) (f1 : Nat → Int32) (f2 : Nat → Int32) (dr : Nat → Int32) (cl : Nat → Int32) (tr : Nat → Int32) (se : Nat → Int32) (g : Nat) (r : Nat) (inf : Int32) (ct : Nat) (hg : g ≤ 10) : Met l yX0_fits wsX0_fits ({ frames := 4, cells := 0, slots := 0, locals := 86 }) (gcPR (dC, dI) [.ref (h 0)] (gcW h kc f1 f2 dr cl tr se (nI g) (nI r) inf (nI ct)) (gcT kc)) (va_Qi (fun (rv : Int32) (_u : Unit) => rv = gB (gFt cl g)) (fun _ _ => True) (fun _ => False)) 0 0 (fun _ => False) := by
  refine Met.ofW (cc := cX0_fits) (maxL := 1) (ret := (some .boolean)) (by decide) rfl ?_
  intro p e s m args below meth c s₁ B hml hv
  obtain ⟨rfl, hP, hK⟩ := hv
  have hx := B.exec
  have hb := B.bytes
  have hr := B.returns
  have hts := atoms_spec (ws := wsX0_fits) B.pre
  have hown : s.vm.findClass RX0 = some m.cls := findClass_of_methodNamed B.named
  have hlocks := B.notSynchronized
  have hS : va_S (fun _ => False) s.heap s.heap [] := va_S.rf
  have hP : va_P (dC, dI) vwCl (gcW h kc f1 f2 dr cl tr se (nI g) (nI r) inf (nI ct)) s.heap := hP
  have hin0 : ∀ w ∈ wsX00, w ∈ wsX0_fits := by decide +kernel
  have hl := lv_entry [.ref (h 0)] (n := 1) (Nat.le_of_ble_eq_true rfl)
  rw [lg_entry_eq]
  generalize (lg_sl [.ref (h 0)] ++ List.replicate (1 - (lg_sl [.ref (h 0)]).length) Slot.unset).toArray = ls at hl ⊢
  have hl : lv_has ls 1 [(0, .ref (h 0))] := hl
  refine lv_aload_n hx hb dX0_fits_0 rfl (lv_at hl 0 rfl) ?_
  refine lv_aload_n hx hb dX0_fits_1 rfl (lv_at hl 0 rfl) ?_
  refine va_get (D := (dC, dI)) (ci := 0) (v := .ref (h 4)) (C := RX0) (T := TX0) (N := 10) hx hb hts hin0 hown hK hP 0 rfl rfl 3 (by decide) (hts (.fieldLink RX0 19 "GuestChairs" "closed" "[I") (by decide +kernel)) (fun _ h9 => h9) rfl dX0_fits_2 ?_
  have hPc : va_P (dC, dI) vwCl (gcW h kc f1 f2 dr cl tr se (nI g) (nI r) inf (nI ct)) _ := hP.sub [0, 1, 2, 3, 4, 5, 6] rfl
  have hKc : va_K (dC, dI) vwCl (gcT kc) s := hK.sub [0, 1, 2, 3, 4, 5] rfl
  refine va_calli (va_runV (As := [.ref (h 4)]) (rest := []) ⟨hx, hb, hml, hown, hts⟩ (c_X0_countTorn_cl l dC dI h kc f1 f2 dr cl tr se g r inf ct (by first | assumption | omega)) (cwV 1 hts gX0_fits_X0_countTorn rfl rfl rfl (by decide +kernel) ⟨Nat.le_of_ble_eq_true rfl, Nat.le_of_ble_eq_true rfl⟩) ⟨gcPR_blind, va_recv hK hP (ci := 0) (q0 := 0) rfl rfl, fun U hU hW => ⟨rfl, by rw [hU]; exact hPc, va_K.moved hW.alike hKc⟩⟩ rfl rfl hl.1 rfl (lv_room (Nat.le_of_ble_eq_true rfl)) dX0_fits_5 ⟨Nat.zero_le _, Nat.zero_le _⟩) hS (fun q _ h => h.elim) (fun q h => h.elim) (fun r1 u t H locs ht hvm hw hB hz1 hk1 hS => ?_)
  have hP := gc_keep hP hk1
  have hw : r1 = gCT cl g := hw
  subst hw
  clear hw
  clear hB hz1 hk1 ht hvm
  clear hPc hKc
  refine lv_if_ne (tgt := 15) hx hb dX0_fits_8 (by decide) (fun c_8 => ?_) (fun c_8 => ?_)
  · skip
    refine lv_iconst (v := 0) hx hb dX0_fits_15 (by decide) ?_
    have hpost : 0 = gB (gFt cl g) := by simp [gB, gFt, c_8]
    exact W.zret (ty := .boolean) (v := 0) hx hb hr (by first | rfl | decide | exact gB_nar _) (fun t ht hW => ⟨⟨0, (), rfl, hpost, trivial⟩, hS.F ht⟩) hS.2.2 dX0_fits_16
  · skip
    refine lv_iconst (v := 1) hx hb dX0_fits_11 (by decide) ?_
    refine lv_goto (tgt := 16) hx hb dX0_fits_12 (by decide) ?_
    have hpost : 1 = gB (gFt cl g) := by simp [gB, gFt, c_8]
    exact W.zret (ty := .boolean) (v := 1) hx hb hr (by first | rfl | decide | exact gB_nar _) (fun t ht hW => ⟨⟨1, (), rfl, hpost, trivial⟩, hS.F ht⟩) hS.2.2 dX0_fits_16
set_option maxHeartbeats 4000000 in
set_option maxRecDepth 100000 in
theorem c_X0_countVain (l : Launch) (dC : Nat → ClassId) (dI : Nat → Nat → Nat) (h : Nat → Nat) (kc : Nat → ClassId) (f1 : Nat → Int32) (f2 : Nat → Int32) (dr : Nat → Int32) (cl : Nat → Int32) (tr : Nat → Int32) (se : Nat → Int32) (g : Nat) (r : Nat) (inf : Int32) (ct : Nat) (hg : g ≤ 10) : Met l yX0_countVain wsX0_countVain ({ frames := 2, cells := 0, slots := 0, locals := 42 }) (gcPR (dC, dI) [.ref (h 0)] (gcW h kc f1 f2 dr cl tr se (nI g) (nI r) inf (nI ct)) (gcT kc)) (va_Qi (fun (rv : Int32) (_u : Unit) => rv = gCV cl (2 * g)) (fun _ _ => True) (fun _ => False)) 0 0 (fun _ => False) := by
  refine Met.ofW (cc := cX0_countVain) (maxL := 3) (ret := (some .int)) (by decide) rfl ?_
  intro p e s m args below meth c s₁ B hml hv
  obtain ⟨rfl, hP, hK⟩ := hv
  have hx := B.exec
  have hb := B.bytes
  have hr := B.returns
  have hts := atoms_spec (ws := wsX0_countVain) B.pre
  have hown : s.vm.findClass RX0 = some m.cls := findClass_of_methodNamed B.named
  have hlocks := B.notSynchronized
  have hS : va_S (fun _ => False) s.heap s.heap [] := va_S.rf
  have hP : va_P (dC, dI) vwCl (gcW h kc f1 f2 dr cl tr se (nI g) (nI r) inf (nI ct)) s.heap := hP
  have hin0 : ∀ w ∈ wsX00, w ∈ wsX0_countVain := by decide +kernel
  have hl := lv_entry [.ref (h 0)] (n := 3) (Nat.le_of_ble_eq_true rfl)
  rw [lg_entry_eq]
  generalize (lg_sl [.ref (h 0)] ++ List.replicate (3 - (lg_sl [.ref (h 0)]).length) Slot.unset).toArray = ls at hl ⊢
  have hl : lv_has ls 3 [(0, .ref (h 0))] := hl
  refine lv_iconst (v := 0) hx hb dX0_countVain_0 (by decide) ?_
  refine lv_istore_n (lv' := [(1, .int 0), (0, .ref (h 0))]) hx hb dX0_countVain_1 rfl hl (by decide) rfl (fun ls hl => ?_)
  refine lv_iconst (v := 0) hx hb dX0_countVain_2 (by decide) ?_
  refine lv_istore_n (lv' := [(2, .int 0), (1, .int 0), (0, .ref (h 0))]) hx hb dX0_countVain_3 rfl hl (by decide) rfl (fun ls hl => ?_)
  refine gc_loop (2 * g) (fun (i : Nat) (H : Heap) (locs : List Loc) (ls : Array Slot) => ∃ (x : Int32), x = gCV cl i ∧ va_P (dC, dI) vwCl (gcW h kc f1 f2 dr cl tr se (nI g) (nI r) inf (nI ct)) H ∧ va_S (fun _ => False) s.heap H locs ∧ lv_has ls 3 [(2, .int (nI i)), (1, .int x), (0, .ref (h 0))]) 0 (Nat.zero_le _) ⟨0, (by first | rfl | assumption | omega), hP, hS, lv_sub hl [0, 1, 2] rfl⟩ ?_
  intro i H locs ls hi hI ihi
  obtain ⟨x, e_x, hP, hS, hl⟩ := hI
  refine lv_iload_n hx hb dX0_countVain_4 rfl (lv_at hl 0 rfl) ?_
  refine lv_aload_n hx hb dX0_countVain_5 rfl (lv_at hl 2 rfl) ?_
  have hPc : va_P (dC, dI) vwCl (gcW h kc f1 f2 dr cl tr se (nI g) (nI r) inf (nI ct)) _ := hP.sub [0, 1, 2, 3, 4, 5, 6] rfl
  have hKc : va_K (dC, dI) vwCl (gcT kc) s := hK.sub [0, 1, 2, 3, 4, 5] rfl
  refine va_calli (va_runV (As := []) (rest := [.int (nI i)]) ⟨hx, hb, hml, hown, hts⟩ (c_X0_wishCount l dC dI h kc f1 f2 dr cl tr se g r inf ct) (cwV 0 hts gX0_countVain_X0_wishCount rfl rfl rfl (by decide +kernel) ⟨Nat.le_of_ble_eq_true rfl, Nat.le_of_ble_eq_true rfl⟩) ⟨gcPR_blind, va_recv hK hP (ci := 0) (q0 := 0) rfl rfl, fun U hU hW => ⟨rfl, by rw [hU]; exact hPc, va_K.moved hW.alike hKc⟩⟩ rfl rfl hl.1 rfl (lv_room (Nat.le_of_ble_eq_true rfl)) dX0_countVain_6 ⟨Nat.zero_le _, Nat.zero_le _⟩) hS (fun q _ h => h.elim) (fun q h => h.elim) (fun r1 u t H locs ht hvm hw hB hz1 hk1 hS => ?_)
  have hP := gc_keep hP hk1
  have hw : r1 = nI (2 * g) := hw
  subst hw
  clear hw
  clear hB hz1 hk1 ht hvm
  clear hPc hKc
  refine lv_icmp_ge (tgt := 32) hx hb dX0_countVain_9 (by decide) (fun c_9 => ?_) (fun c_9 => ?_)
  · skip
    have hEi : i = 2 * g := gc_ge c_9 (by omega) (by omega)
    refine lv_iload_n hx hb dX0_countVain_32 rfl (lv_at hl 1 rfl) ?_
    have hpost : x = gCV cl (2 * g) := by rw [e_x, hEi]
    exact W.iret (v := x) hx hb hr (fun t ht hW => ⟨⟨x, (), rfl, hpost, trivial⟩, hS.F ht⟩) hS.2.2 dX0_countVain_33
  · skip
    have hLi : i < 2 * g := gc_lt c_9 (by omega) (by omega)
    refine lv_iload_n hx hb dX0_countVain_12 rfl (lv_at hl 1 rfl) ?_
    refine lv_aload_n hx hb dX0_countVain_13 rfl (lv_at hl 2 rfl) ?_
    refine va_get (D := (dC, dI)) (ci := 0) (v := .ref (h 4)) (C := RX0) (T := TX0) (N := 10) hx hb hts hin0 hown hK hP 0 rfl rfl 3 (by decide) (hts (.fieldLink RX0 19 "GuestChairs" "closed" "[I") (by decide +kernel)) (fun _ h9 => h9) rfl dX0_countVain_14 ?_
    refine lv_iload_n hx hb dX0_countVain_17 rfl (lv_at hl 0 rfl) ?_
    have hPc : va_P (dC, dI) vwCl ([((h 4), .inl ((kc 4), 20, .inl cl))]) _ := hP.sub [4] rfl
    have hKc : va_K (dC, dI) vwCl ([((kc 4), .int)]) s := hK.sub [3] rfl
    refine va_calli (va_runS (As := [.ref (h 4), .int (nI i)]) (rest := [.int x]) ⟨hx, hb, hml, hown, hts⟩ (c_X0_isVain l dC dI (h 4) (kc 4) 20 cl (nI i) (by decide)) (va_cwS 2 hts gX0_countVain_X0_isVain rfl rfl rfl (by decide +kernel) ⟨Nat.le_of_ble_eq_true rfl, Nat.le_of_ble_eq_true rfl⟩) ⟨gcPR_blind, fun U hU hW => ⟨rfl, by rw [hU]; exact hPc, va_K.moved hW.alike hKc⟩⟩ rfl rfl hl.1 rfl (lv_room (Nat.le_of_ble_eq_true rfl)) dX0_countVain_18 ⟨Nat.zero_le _, Nat.zero_le _⟩) hS (fun q _ h => h.elim) (fun q h => h.elim) (fun r2 u t H locs ht hvm hw hB hz1 hk1 hS => ?_)
    have hP := gc_keep hP hk1
    have hw : r2 = gB (gVain 20 cl (nI i)) := hw
    subst hw
    clear hw
    clear hB hz1 hk1 ht hvm
    clear hPc hKc
    refine va_calli (va_runS (As := [.int (gB (gVain 20 cl (nI i)))]) (rest := [.int x]) ⟨hx, hb, hml, hown, hts⟩ (c_X0_oneIf l (gVain 20 cl (nI i))) (va_cwS 1 hts gX0_countVain_X0_oneIf rfl rfl rfl (by decide +kernel) ⟨Nat.le_of_ble_eq_true rfl, Nat.le_of_ble_eq_true rfl⟩) ⟨fun a U g mk q => q, fun U hU hW => ⟨rfl, trivial⟩⟩ rfl rfl hl.1 rfl (lv_room (Nat.le_of_ble_eq_true rfl)) dX0_countVain_21 ⟨Nat.zero_le _, Nat.zero_le _⟩) hS (fun q _ h => h.elim) (fun q h => h.elim) (fun r3 u t H locs ht hvm hw hB hz1 hk1 hS => ?_)
    have hP := gc_keep hP hk1
    have hw : r3 = gB (gVain 20 cl (nI i)) := hw
    subst hw
    clear hw
    clear hB hz1 hk1 ht hvm
    refine lv_iadd hx hb dX0_countVain_24 ?_
    refine lv_istore_n (lv' := [(1, .int (x + gB (gVain 20 cl (nI i)))), (2, .int (nI i)), (0, .ref (h 0))]) hx hb dX0_countVain_25 rfl hl (by decide) rfl (fun ls hl => ?_)
    refine lv_iinc (v := nI (i + 1)) (lv' := [(2, .int (nI (i + 1))), (1, .int (x + gB (gVain 20 cl (nI i)))), (0, .ref (h 0))]) hx hb dX0_countVain_26 hl (k := 1) rfl (nI_1 i) (by decide) rfl (fun ls hl => ?_)
    refine lv_goto (tgt := 4) hx hb dX0_countVain_29 (by decide) ?_
    exact ihi H _ ls (by omega) ⟨(x + gB (gVain 20 cl (nI i))), (by rw [e_x]; rfl), hP, hS, lv_sub hl [0, 1, 2] rfl⟩
set_option maxHeartbeats 4000000 in
set_option maxRecDepth 100000 in
theorem c_X0_countPairs (l : Launch) (dC : Nat → ClassId) (dI : Nat → Nat → Nat) (h : Nat → Nat) (kc : Nat → ClassId) (f1 : Nat → Int32) (f2 : Nat → Int32) (dr : Nat → Int32) (cl : Nat → Int32) (tr : Nat → Int32) (se : Nat → Int32) (g : Nat) (r : Nat) (inf : Int32) (ct : Nat) (hg : g ≤ 10) : Met l yX0_countPairs wsX0_countPairs ({ frames := 1, cells := 0, slots := 0, locals := 21 }) (gcPR (dC, dI) [.ref (h 0)] (gcW h kc f1 f2 dr cl tr se (nI g) (nI r) inf (nI ct)) (gcT kc)) (va_Qi (fun (rv : Int32) (_u : Unit) => rv = gCP cl (2 * g)) (fun _ _ => True) (fun _ => False)) 0 0 (fun _ => False) := by
  refine Met.ofW (cc := cX0_countPairs) (maxL := 3) (ret := (some .int)) (by decide) rfl ?_
  intro p e s m args below meth c s₁ B hml hv
  obtain ⟨rfl, hP, hK⟩ := hv
  have hx := B.exec
  have hb := B.bytes
  have hr := B.returns
  have hts := atoms_spec (ws := wsX0_countPairs) B.pre
  have hown : s.vm.findClass RX0 = some m.cls := findClass_of_methodNamed B.named
  have hlocks := B.notSynchronized
  have hS : va_S (fun _ => False) s.heap s.heap [] := va_S.rf
  have hP : va_P (dC, dI) vwCl (gcW h kc f1 f2 dr cl tr se (nI g) (nI r) inf (nI ct)) s.heap := hP
  have hin0 : ∀ w ∈ wsX00, w ∈ wsX0_countPairs := by decide +kernel
  have hl := lv_entry [.ref (h 0)] (n := 3) (Nat.le_of_ble_eq_true rfl)
  rw [lg_entry_eq]
  generalize (lg_sl [.ref (h 0)] ++ List.replicate (3 - (lg_sl [.ref (h 0)]).length) Slot.unset).toArray = ls at hl ⊢
  have hl : lv_has ls 3 [(0, .ref (h 0))] := hl
  refine lv_iconst (v := 0) hx hb dX0_countPairs_0 (by decide) ?_
  refine lv_istore_n (lv' := [(1, .int 0), (0, .ref (h 0))]) hx hb dX0_countPairs_1 rfl hl (by decide) rfl (fun ls hl => ?_)
  refine lv_iconst (v := 0) hx hb dX0_countPairs_2 (by decide) ?_
  refine lv_istore_n (lv' := [(2, .int 0), (1, .int 0), (0, .ref (h 0))]) hx hb dX0_countPairs_3 rfl hl (by decide) rfl (fun ls hl => ?_)
  refine gc_loop (2 * g) (fun (i : Nat) (H : Heap) (locs : List Loc) (ls : Array Slot) => ∃ (x : Int32), x = gCP cl i ∧ va_P (dC, dI) vwCl (gcW h kc f1 f2 dr cl tr se (nI g) (nI r) inf (nI ct)) H ∧ va_S (fun _ => False) s.heap H locs ∧ lv_has ls 3 [(2, .int (nI i)), (1, .int x), (0, .ref (h 0))]) 0 (Nat.zero_le _) ⟨0, (by first | rfl | assumption | omega), hP, hS, lv_sub hl [0, 1, 2] rfl⟩ ?_
  intro i H locs ls hi hI ihi
  obtain ⟨x, e_x, hP, hS, hl⟩ := hI
  refine lv_iload_n hx hb dX0_countPairs_4 rfl (lv_at hl 0 rfl) ?_
  refine lv_aload_n hx hb dX0_countPairs_5 rfl (lv_at hl 2 rfl) ?_
  have hPc : va_P (dC, dI) vwCl (gcW h kc f1 f2 dr cl tr se (nI g) (nI r) inf (nI ct)) _ := hP.sub [0, 1, 2, 3, 4, 5, 6] rfl
  have hKc : va_K (dC, dI) vwCl (gcT kc) s := hK.sub [0, 1, 2, 3, 4, 5] rfl
  refine va_calli (va_runV (As := []) (rest := [.int (nI i)]) ⟨hx, hb, hml, hown, hts⟩ (c_X0_wishCount l dC dI h kc f1 f2 dr cl tr se g r inf ct) (cwV 0 hts gX0_countPairs_X0_wishCount rfl rfl rfl (by decide +kernel) ⟨Nat.le_of_ble_eq_true rfl, Nat.le_of_ble_eq_true rfl⟩) ⟨gcPR_blind, va_recv hK hP (ci := 0) (q0 := 0) rfl rfl, fun U hU hW => ⟨rfl, by rw [hU]; exact hPc, va_K.moved hW.alike hKc⟩⟩ rfl rfl hl.1 rfl (lv_room (Nat.le_of_ble_eq_true rfl)) dX0_countPairs_6 ⟨Nat.zero_le _, Nat.zero_le _⟩) hS (fun q _ h => h.elim) (fun q h => h.elim) (fun r1 u t H locs ht hvm hw hB hz1 hk1 hS => ?_)
  have hP := gc_keep hP hk1
  have hw : r1 = nI (2 * g) := hw
  subst hw
  clear hw
  clear hB hz1 hk1 ht hvm
  clear hPc hKc
  refine lv_icmp_ge (tgt := 34) hx hb dX0_countPairs_9 (by decide) (fun c_9 => ?_) (fun c_9 => ?_)
  · skip
    have hEi : i = 2 * g := gc_ge c_9 (by omega) (by omega)
    refine lv_iload_n hx hb dX0_countPairs_34 rfl (lv_at hl 1 rfl) ?_
    have hpost : x = gCP cl (2 * g) := by rw [e_x, hEi]
    exact W.iret (v := x) hx hb hr (fun t ht hW => ⟨⟨x, (), rfl, hpost, trivial⟩, hS.F ht⟩) hS.2.2 dX0_countPairs_35
  · skip
    have hLi : i < 2 * g := gc_lt c_9 (by omega) (by omega)
    refine lv_iload_n hx hb dX0_countPairs_12 rfl (lv_at hl 1 rfl) ?_
    refine lv_aload_n hx hb dX0_countPairs_13 rfl (lv_at hl 2 rfl) ?_
    refine va_get (D := (dC, dI)) (ci := 0) (v := .ref (h 4)) (C := RX0) (T := TX0) (N := 10) hx hb hts hin0 hown hK hP 0 rfl rfl 3 (by decide) (hts (.fieldLink RX0 19 "GuestChairs" "closed" "[I") (by decide +kernel)) (fun _ h9 => h9) rfl dX0_countPairs_14 ?_
    refine lv_iload_n hx hb dX0_countPairs_17 rfl (lv_at hl 0 rfl) ?_
    have hPc : va_P (dC, dI) vwCl ([((h 4), .inl ((kc 4), 20, .inl cl))]) _ := hP.sub [4] rfl
    have hKc : va_K (dC, dI) vwCl ([((kc 4), .int)]) s := hK.sub [3] rfl
    refine va_calli (va_runS (As := [.ref (h 4), .int (nI i)]) (rest := [.int x]) ⟨hx, hb, hml, hown, hts⟩ (c_X0_at l dC dI (h 4) (kc 4) 20 cl (nI i) (by decide)) (va_cwS 2 hts gX0_countPairs_X0_at rfl rfl rfl (by decide +kernel) ⟨Nat.le_of_ble_eq_true rfl, Nat.le_of_ble_eq_true rfl⟩) ⟨gcPR_blind, fun U hU hW => ⟨rfl, by rw [hU]; exact hPc, va_K.moved hW.alike hKc⟩⟩ rfl rfl hl.1 rfl (lv_room (Nat.le_of_ble_eq_true rfl)) dX0_countPairs_18 ⟨Nat.zero_le _, Nat.zero_le _⟩) hS (fun q _ h => h.elim) (fun q h => h.elim) (fun r2 u t H locs ht hvm hw hB hz1 hk1 hS => ?_)
    have hP := gc_keep hP hk1
    have hw : r2 = gAt 20 cl (nI i) := hw
    subst hw
    clear hw
    clear hB hz1 hk1 ht hvm
    clear hPc hKc
    refine va_calli (va_runS (As := [.int (gAt 20 cl (nI i))]) (rest := [.int x]) ⟨hx, hb, hml, hown, hts⟩ (c_J6_bitCount_0f7a4 l (gAt 20 cl (nI i))) (va_cwS 1 hts gX0_countPairs_J6_bitCount_0f7a4 rfl rfl rfl (by decide +kernel) ⟨Nat.le_of_ble_eq_true rfl, Nat.le_of_ble_eq_true rfl⟩) ⟨fun a U g mk q => q, fun U hU hW => ⟨rfl, trivial⟩⟩ rfl rfl hl.1 rfl (lv_room (Nat.le_of_ble_eq_true rfl)) dX0_countPairs_21 ⟨Nat.zero_le _, Nat.zero_le _⟩) hS (fun q _ h => h.elim) (fun q h => h.elim) (fun r3 u t H locs ht hvm hw hB hz1 hk1 hS => ?_)
    have hP := gc_keep hP hk1
    have hw : r3 = gBC (gAt 20 cl (nI i)) := hw
    subst hw
    clear hw
    clear hB hz1 hk1 ht hvm
    refine lv_iconst (v := 1) hx hb dX0_countPairs_24 (by decide) ?_
    refine lv_isub hx hb dX0_countPairs_25 ?_
    refine lv_iadd hx hb dX0_countPairs_26 ?_
    refine lv_istore_n (lv' := [(1, .int (x + (gBC (gAt 20 cl (nI i)) - 1))), (2, .int (nI i)), (0, .ref (h 0))]) hx hb dX0_countPairs_27 rfl hl (by decide) rfl (fun ls hl => ?_)
    refine lv_iinc (v := nI (i + 1)) (lv' := [(2, .int (nI (i + 1))), (1, .int (x + (gBC (gAt 20 cl (nI i)) - 1))), (0, .ref (h 0))]) hx hb dX0_countPairs_28 hl (k := 1) rfl (nI_1 i) (by decide) rfl (fun ls hl => ?_)
    refine lv_goto (tgt := 4) hx hb dX0_countPairs_31 (by decide) ?_
    exact ihi H _ ls (by omega) ⟨(x + (gBC (gAt 20 cl (nI i)) - 1)), (by rw [e_x]; rfl), hP, hS, lv_sub hl [0, 1, 2] rfl⟩
set_option maxHeartbeats 4000000 in
set_option maxRecDepth 100000 in
theorem c_X0_oneStepOn (l : Launch) (dC : Nat → ClassId) (dI : Nat → Nat → Nat) (h : Nat → Nat) (kc : Nat → ClassId) (f1 : Nat → Int32) (f2 : Nat → Int32) (dr : Nat → Int32) (cl : Nat → Int32) (tr : Nat → Int32) (se : Nat → Int32) (g : Nat) (r : Nat) (inf : Int32) (ct : Nat) (w : Int32) (hg : g ≤ 10) : Met l yX0_oneStepOn wsX0_oneStepOn ({ frames := 1, cells := 0, slots := 0, locals := 21 }) (gcPR (dC, dI) [.ref (h 0), .int w] (gcW h kc f1 f2 dr cl tr se (nI g) (nI r) inf (nI ct)) (gcT kc)) (va_Qi (fun (rv : Int32) (_u : Unit) => rv = gOS dr w (2 * g)) (fun _ _ => True) (fun _ => False)) 0 0 (fun _ => False) := by
  refine Met.ofW (cc := cX0_oneStepOn) (maxL := 4) (ret := (some .int)) (by decide) rfl ?_
  intro p e s m args below meth c s₁ B hml hv
  obtain ⟨rfl, hP, hK⟩ := hv
  have hx := B.exec
  have hb := B.bytes
  have hr := B.returns
  have hts := atoms_spec (ws := wsX0_oneStepOn) B.pre
  have hown : s.vm.findClass RX0 = some m.cls := findClass_of_methodNamed B.named
  have hlocks := B.notSynchronized
  have hS : va_S (fun _ => False) s.heap s.heap [] := va_S.rf
  have hP : va_P (dC, dI) vwCl (gcW h kc f1 f2 dr cl tr se (nI g) (nI r) inf (nI ct)) s.heap := hP
  have hin0 : ∀ w ∈ wsX00, w ∈ wsX0_oneStepOn := by decide +kernel
  have hl := lv_entry [.ref (h 0), .int w] (n := 4) (Nat.le_of_ble_eq_true rfl)
  rw [lg_entry_eq]
  generalize (lg_sl [.ref (h 0), .int w] ++ List.replicate (4 - (lg_sl [.ref (h 0), .int w]).length) Slot.unset).toArray = ls at hl ⊢
  have hl : lv_has ls 4 [(0, .ref (h 0)), (1, .int w)] := hl
  refine lv_iload_n hx hb dX0_oneStepOn_0 rfl (lv_at hl 1 rfl) ?_
  refine lv_istore_n (lv' := [(2, .int w), (0, .ref (h 0)), (1, .int w)]) hx hb dX0_oneStepOn_1 rfl hl (by decide) rfl (fun ls hl => ?_)
  refine lv_iconst (v := 0) hx hb dX0_oneStepOn_2 (by decide) ?_
  refine lv_istore_n (lv' := [(3, .int 0), (2, .int w), (0, .ref (h 0)), (1, .int w)]) hx hb dX0_oneStepOn_3 rfl hl (by decide) rfl (fun ls hl => ?_)
  refine gc_loop (2 * g) (fun (i : Nat) (H : Heap) (locs : List Loc) (ls : Array Slot) => ∃ (x : Int32), x = gOS dr w i ∧ va_P (dC, dI) vwCl (gcW h kc f1 f2 dr cl tr se (nI g) (nI r) inf (nI ct)) H ∧ va_S (fun _ => False) s.heap H locs ∧ lv_has ls 4 [(3, .int (nI i)), (2, .int x), (0, .ref (h 0)), (1, .int w)]) 0 (Nat.zero_le _) ⟨w, (by first | rfl | assumption | omega), hP, hS, lv_sub hl [0, 1, 2, 3] rfl⟩ ?_
  intro i H locs ls hi hI ihi
  obtain ⟨x, e_x, hP, hS, hl⟩ := hI
  refine lv_iload_n hx hb dX0_oneStepOn_4 rfl (lv_at hl 0 rfl) ?_
  refine lv_aload_n hx hb dX0_oneStepOn_5 rfl (lv_at hl 2 rfl) ?_
  have hPc : va_P (dC, dI) vwCl (gcW h kc f1 f2 dr cl tr se (nI g) (nI r) inf (nI ct)) _ := hP.sub [0, 1, 2, 3, 4, 5, 6] rfl
  have hKc : va_K (dC, dI) vwCl (gcT kc) s := hK.sub [0, 1, 2, 3, 4, 5] rfl
  refine va_calli (va_runV (As := []) (rest := [.int (nI i)]) ⟨hx, hb, hml, hown, hts⟩ (c_X0_wishCount l dC dI h kc f1 f2 dr cl tr se g r inf ct) (cwV 0 hts gX0_oneStepOn_X0_wishCount rfl rfl rfl (by decide +kernel) ⟨Nat.le_of_ble_eq_true rfl, Nat.le_of_ble_eq_true rfl⟩) ⟨gcPR_blind, va_recv hK hP (ci := 0) (q0 := 0) rfl rfl, fun U hU hW => ⟨rfl, by rw [hU]; exact hPc, va_K.moved hW.alike hKc⟩⟩ rfl rfl hl.1 rfl (lv_room (Nat.le_of_ble_eq_true rfl)) dX0_oneStepOn_6 ⟨Nat.zero_le _, Nat.zero_le _⟩) hS (fun q _ h => h.elim) (fun q h => h.elim) (fun r1 u t H locs ht hvm hw hB hz1 hk1 hS => ?_)
  have hP := gc_keep hP hk1
  have hw : r1 = nI (2 * g) := hw
  subst hw
  clear hw
  clear hB hz1 hk1 ht hvm
  clear hPc hKc
  refine lv_icmp_ge (tgt := 37) hx hb dX0_oneStepOn_9 (by decide) (fun c_9 => ?_) (fun c_9 => ?_)
  · skip
    have hEi : i = 2 * g := gc_ge c_9 (by omega) (by omega)
    refine lv_iload_n hx hb dX0_oneStepOn_37 rfl (lv_at hl 1 rfl) ?_
    have hpost : x = gOS dr w (2 * g) := by rw [e_x, hEi]
    exact W.iret (v := x) hx hb hr (fun t ht hW => ⟨⟨x, (), rfl, hpost, trivial⟩, hS.F ht⟩) hS.2.2 dX0_oneStepOn_38
  · skip
    have hLi : i < 2 * g := gc_lt c_9 (by omega) (by omega)
    refine lv_iload_n hx hb dX0_oneStepOn_12 rfl (lv_at hl 3 rfl) ?_
    refine lv_iload_n hx hb dX0_oneStepOn_13 rfl (lv_at hl 0 rfl) ?_
    refine va_calli (va_runS (As := [.int w, .int (nI i)]) (rest := []) ⟨hx, hb, hml, hown, hts⟩ (c_X0_has l w (nI i)) (va_cwS 2 hts gX0_oneStepOn_X0_has rfl rfl rfl (by decide +kernel) ⟨Nat.le_of_ble_eq_true rfl, Nat.le_of_ble_eq_true rfl⟩) ⟨fun a U g mk q => q, fun U hU hW => ⟨rfl, trivial⟩⟩ rfl rfl hl.1 rfl (lv_room (Nat.le_of_ble_eq_true rfl)) dX0_oneStepOn_14 ⟨Nat.zero_le _, Nat.zero_le _⟩) hS (fun q _ h => h.elim) (fun q h => h.elim) (fun r2 u t H locs ht hvm hw hB hz1 hk1 hS => ?_)
    have hP := gc_keep hP hk1
    have hw : r2 = gB (gHas w (nI i)) := hw
    subst hw
    clear hw
    clear hB hz1 hk1 ht hvm
    refine lv_if_eq (tgt := 31) hx hb dX0_oneStepOn_17 (by decide) (fun c_17 => ?_) (fun c_17 => ?_)
    · skip
      have c_17 := gB_f c_17
      refine lv_iinc (v := nI (i + 1)) (lv' := [(3, .int (nI (i + 1))), (2, .int x), (0, .ref (h 0)), (1, .int w)]) hx hb dX0_oneStepOn_31 hl (k := 0) rfl (nI_1 i) (by decide) rfl (fun ls hl => ?_)
      refine lv_goto (tgt := 4) hx hb dX0_oneStepOn_34 (by decide) ?_
      exact ihi H _ ls (by omega) ⟨x, (by simp only [gOS, ← e_x]; simp [gOS, c_17]), hP, hS, lv_sub hl [0, 1, 2, 3] rfl⟩
    · skip
      have c_17 := gB_t c_17
      refine lv_iload_n hx hb dX0_oneStepOn_20 rfl (lv_at hl 1 rfl) ?_
      refine lv_aload_n hx hb dX0_oneStepOn_21 rfl (lv_at hl 2 rfl) ?_
      refine va_get (D := (dC, dI)) (ci := 0) (v := .ref (h 3)) (C := RX0) (T := TX0) (N := 10) hx hb hts hin0 hown hK hP 0 rfl rfl 2 (by decide) (hts (.fieldLink RX0 16 "GuestChairs" "direct" "[I") (by decide +kernel)) (fun _ h9 => h9) rfl dX0_oneStepOn_22 ?_
      refine lv_iload_n hx hb dX0_oneStepOn_25 rfl (lv_at hl 0 rfl) ?_
      have hPc : va_P (dC, dI) vwCl ([((h 3), .inl ((kc 3), 20, .inl dr))]) _ := hP.sub [3] rfl
      have hKc : va_K (dC, dI) vwCl ([((kc 3), .int)]) s := hK.sub [2] rfl
      refine va_calli (va_runS (As := [.ref (h 3), .int (nI i)]) (rest := [.int x]) ⟨hx, hb, hml, hown, hts⟩ (c_X0_at l dC dI (h 3) (kc 3) 20 dr (nI i) (by decide)) (va_cwS 2 hts gX0_oneStepOn_X0_at rfl rfl rfl (by decide +kernel) ⟨Nat.le_of_ble_eq_true rfl, Nat.le_of_ble_eq_true rfl⟩) ⟨gcPR_blind, fun U hU hW => ⟨rfl, by rw [hU]; exact hPc, va_K.moved hW.alike hKc⟩⟩ rfl rfl hl.1 rfl (lv_room (Nat.le_of_ble_eq_true rfl)) dX0_oneStepOn_26 ⟨Nat.zero_le _, Nat.zero_le _⟩) hS (fun q _ h => h.elim) (fun q h => h.elim) (fun r3 u t H locs ht hvm hw hB hz1 hk1 hS => ?_)
      have hP := gc_keep hP hk1
      have hw : r3 = gAt 20 dr (nI i) := hw
      subst hw
      clear hw
      clear hB hz1 hk1 ht hvm
      clear hPc hKc
      refine lv_ior hx hb dX0_oneStepOn_29 ?_
      refine lv_istore_n (lv' := [(2, .int (x ||| gAt 20 dr (nI i))), (3, .int (nI i)), (0, .ref (h 0)), (1, .int w)]) hx hb dX0_oneStepOn_30 rfl hl (by decide) rfl (fun ls hl => ?_)
      refine lv_iinc (v := nI (i + 1)) (lv' := [(3, .int (nI (i + 1))), (2, .int (x ||| gAt 20 dr (nI i))), (0, .ref (h 0)), (1, .int w)]) hx hb dX0_oneStepOn_31 hl (k := 1) rfl (nI_1 i) (by decide) rfl (fun ls hl => ?_)
      refine lv_goto (tgt := 4) hx hb dX0_oneStepOn_34 (by decide) ?_
      exact ihi H _ ls (by omega) ⟨(x ||| gAt 20 dr (nI i)), (by simp only [gOS, ← e_x]; simp [gOS, c_17]), hP, hS, lv_sub hl [0, 1, 2, 3] rfl⟩
set_option maxHeartbeats 4000000 in
set_option maxRecDepth 100000 in
theorem c_X0_guestsBoundTo (l : Launch) (dC : Nat → ClassId) (dI : Nat → Nat → Nat) (h : Nat → Nat) (kc : Nat → ClassId) (f1 : Nat → Int32) (f2 : Nat → Int32) (dr : Nat → Int32) (cl : Nat → Int32) (tr : Nat → Int32) (se : Nat → Int32) (g : Nat) (r : Nat) (inf : Int32) (ct : Nat) (w : Int32) (hg : g ≤ 10) : Met l yX0_guestsBoundTo wsX0_guestsBoundTo ({ frames := 1, cells := 0, slots := 0, locals := 21 }) (gcPR (dC, dI) [.ref (h 0), .int w] (gcW h kc f1 f2 dr cl tr se (nI g) (nI r) inf (nI ct)) (gcT kc)) (va_Qi (fun (rv : Int32) (_u : Unit) => rv = gGB cl w (2 * g)) (fun _ _ => True) (fun _ => False)) 0 0 (fun _ => False) := by
  refine Met.ofW (cc := cX0_guestsBoundTo) (maxL := 4) (ret := (some .int)) (by decide) rfl ?_
  intro p e s m args below meth c s₁ B hml hv
  obtain ⟨rfl, hP, hK⟩ := hv
  have hx := B.exec
  have hb := B.bytes
  have hr := B.returns
  have hts := atoms_spec (ws := wsX0_guestsBoundTo) B.pre
  have hown : s.vm.findClass RX0 = some m.cls := findClass_of_methodNamed B.named
  have hlocks := B.notSynchronized
  have hS : va_S (fun _ => False) s.heap s.heap [] := va_S.rf
  have hP : va_P (dC, dI) vwCl (gcW h kc f1 f2 dr cl tr se (nI g) (nI r) inf (nI ct)) s.heap := hP
  have hin0 : ∀ w ∈ wsX00, w ∈ wsX0_guestsBoundTo := by decide +kernel
  have hl := lv_entry [.ref (h 0), .int w] (n := 4) (Nat.le_of_ble_eq_true rfl)
  rw [lg_entry_eq]
  generalize (lg_sl [.ref (h 0), .int w] ++ List.replicate (4 - (lg_sl [.ref (h 0), .int w]).length) Slot.unset).toArray = ls at hl ⊢
  have hl : lv_has ls 4 [(0, .ref (h 0)), (1, .int w)] := hl
  refine lv_iconst (v := 0) hx hb dX0_guestsBoundTo_0 (by decide) ?_
  refine lv_istore_n (lv' := [(2, .int 0), (0, .ref (h 0)), (1, .int w)]) hx hb dX0_guestsBoundTo_1 rfl hl (by decide) rfl (fun ls hl => ?_)
  refine lv_iconst (v := 0) hx hb dX0_guestsBoundTo_2 (by decide) ?_
  refine lv_istore_n (lv' := [(3, .int 0), (2, .int 0), (0, .ref (h 0)), (1, .int w)]) hx hb dX0_guestsBoundTo_3 rfl hl (by decide) rfl (fun ls hl => ?_)
  refine gc_loop (2 * g) (fun (i : Nat) (H : Heap) (locs : List Loc) (ls : Array Slot) => ∃ (x : Int32), x = gGB cl w i ∧ va_P (dC, dI) vwCl (gcW h kc f1 f2 dr cl tr se (nI g) (nI r) inf (nI ct)) H ∧ va_S (fun _ => False) s.heap H locs ∧ lv_has ls 4 [(3, .int (nI i)), (2, .int x), (0, .ref (h 0)), (1, .int w)]) 0 (Nat.zero_le _) ⟨0, (by first | rfl | assumption | omega), hP, hS, lv_sub hl [0, 1, 2, 3] rfl⟩ ?_
  intro i H locs ls hi hI ihi
  obtain ⟨x, e_x, hP, hS, hl⟩ := hI
  refine lv_iload_n hx hb dX0_guestsBoundTo_4 rfl (lv_at hl 0 rfl) ?_
  refine lv_aload_n hx hb dX0_guestsBoundTo_5 rfl (lv_at hl 2 rfl) ?_
  have hPc : va_P (dC, dI) vwCl (gcW h kc f1 f2 dr cl tr se (nI g) (nI r) inf (nI ct)) _ := hP.sub [0, 1, 2, 3, 4, 5, 6] rfl
  have hKc : va_K (dC, dI) vwCl (gcT kc) s := hK.sub [0, 1, 2, 3, 4, 5] rfl
  refine va_calli (va_runV (As := []) (rest := [.int (nI i)]) ⟨hx, hb, hml, hown, hts⟩ (c_X0_wishCount l dC dI h kc f1 f2 dr cl tr se g r inf ct) (cwV 0 hts gX0_guestsBoundTo_X0_wishCount rfl rfl rfl (by decide +kernel) ⟨Nat.le_of_ble_eq_true rfl, Nat.le_of_ble_eq_true rfl⟩) ⟨gcPR_blind, va_recv hK hP (ci := 0) (q0 := 0) rfl rfl, fun U hU hW => ⟨rfl, by rw [hU]; exact hPc, va_K.moved hW.alike hKc⟩⟩ rfl rfl hl.1 rfl (lv_room (Nat.le_of_ble_eq_true rfl)) dX0_guestsBoundTo_6 ⟨Nat.zero_le _, Nat.zero_le _⟩) hS (fun q _ h => h.elim) (fun q h => h.elim) (fun r1 u t H locs ht hvm hw hB hz1 hk1 hS => ?_)
  have hP := gc_keep hP hk1
  have hw : r1 = nI (2 * g) := hw
  subst hw
  clear hw
  clear hB hz1 hk1 ht hvm
  clear hPc hKc
  refine lv_icmp_ge (tgt := 56) hx hb dX0_guestsBoundTo_9 (by decide) (fun c_9 => ?_) (fun c_9 => ?_)
  · skip
    have hEi : i = 2 * g := gc_ge c_9 (by omega) (by omega)
    refine lv_iload_n hx hb dX0_guestsBoundTo_56 rfl (lv_at hl 1 rfl) ?_
    have hpost : x = gGB cl w (2 * g) := by rw [e_x, hEi]
    exact W.iret (v := x) hx hb hr (fun t ht hW => ⟨⟨x, (), rfl, hpost, trivial⟩, hS.F ht⟩) hS.2.2 dX0_guestsBoundTo_57
  · skip
    have hLi : i < 2 * g := gc_lt c_9 (by omega) (by omega)
    refine lv_aload_n hx hb dX0_guestsBoundTo_12 rfl (lv_at hl 2 rfl) ?_
    refine va_get (D := (dC, dI)) (ci := 0) (v := .ref (h 4)) (C := RX0) (T := TX0) (N := 10) hx hb hts hin0 hown hK hP 0 rfl rfl 3 (by decide) (hts (.fieldLink RX0 19 "GuestChairs" "closed" "[I") (by decide +kernel)) (fun _ h9 => h9) rfl dX0_guestsBoundTo_13 ?_
    refine lv_iload_n hx hb dX0_guestsBoundTo_16 rfl (lv_at hl 3 rfl) ?_
    have hPc : va_P (dC, dI) vwCl ([((h 4), .inl ((kc 4), 20, .inl cl))]) _ := hP.sub [4] rfl
    have hKc : va_K (dC, dI) vwCl ([((kc 4), .int)]) s := hK.sub [3] rfl
    refine va_calli (va_runS (As := [.ref (h 4), .int w]) (rest := []) ⟨hx, hb, hml, hown, hts⟩ (c_X0_at l dC dI (h 4) (kc 4) 20 cl w (by decide)) (va_cwS 2 hts gX0_guestsBoundTo_X0_at rfl rfl rfl (by decide +kernel) ⟨Nat.le_of_ble_eq_true rfl, Nat.le_of_ble_eq_true rfl⟩) ⟨gcPR_blind, fun U hU hW => ⟨rfl, by rw [hU]; exact hPc, va_K.moved hW.alike hKc⟩⟩ rfl rfl hl.1 rfl (lv_room (Nat.le_of_ble_eq_true rfl)) dX0_guestsBoundTo_17 ⟨Nat.zero_le _, Nat.zero_le _⟩) hS (fun q _ h => h.elim) (fun q h => h.elim) (fun r2 u t H locs ht hvm hw hB hz1 hk1 hS => ?_)
    have hP := gc_keep hP hk1
    have hw : r2 = gAt 20 cl w := hw
    subst hw
    clear hw
    clear hB hz1 hk1 ht hvm
    clear hPc hKc
    refine lv_iload_n hx hb dX0_guestsBoundTo_20 rfl (lv_at hl 0 rfl) ?_
    refine va_calli (va_runS (As := [.int (gAt 20 cl w), .int (nI i)]) (rest := []) ⟨hx, hb, hml, hown, hts⟩ (c_X0_has l (gAt 20 cl w) (nI i)) (va_cwS 2 hts gX0_guestsBoundTo_X0_has rfl rfl rfl (by decide +kernel) ⟨Nat.le_of_ble_eq_true rfl, Nat.le_of_ble_eq_true rfl⟩) ⟨fun a U g mk q => q, fun U hU hW => ⟨rfl, trivial⟩⟩ rfl rfl hl.1 rfl (lv_room (Nat.le_of_ble_eq_true rfl)) dX0_guestsBoundTo_21 ⟨Nat.zero_le _, Nat.zero_le _⟩) hS (fun q _ h => h.elim) (fun q h => h.elim) (fun r3 u t H locs ht hvm hw hB hz1 hk1 hS => ?_)
    have hP := gc_keep hP hk1
    have hw : r3 = gB (gHas (gAt 20 cl w) (nI i)) := hw
    subst hw
    clear hw
    clear hB hz1 hk1 ht hvm
    refine lv_if_eq (tgt := 50) hx hb dX0_guestsBoundTo_24 (by decide) (fun c_24 => ?_) (fun c_24 => ?_)
    · skip
      have c_24 := gB_f c_24
      refine lv_iinc (v := nI (i + 1)) (lv' := [(3, .int (nI (i + 1))), (2, .int x), (0, .ref (h 0)), (1, .int w)]) hx hb dX0_guestsBoundTo_50 hl (k := 0) rfl (nI_1 i) (by decide) rfl (fun ls hl => ?_)
      refine lv_goto (tgt := 4) hx hb dX0_guestsBoundTo_53 (by decide) ?_
      exact ihi H _ ls (by omega) ⟨x, (by simp only [gGB, ← e_x]; simp [gGB, c_24]), hP, hS, lv_sub hl [0, 1, 2, 3] rfl⟩
    · skip
      have c_24 := gB_t c_24
      refine lv_aload_n hx hb dX0_guestsBoundTo_27 rfl (lv_at hl 2 rfl) ?_
      refine va_get (D := (dC, dI)) (ci := 0) (v := .ref (h 4)) (C := RX0) (T := TX0) (N := 10) hx hb hts hin0 hown hK hP 0 rfl rfl 3 (by decide) (hts (.fieldLink RX0 19 "GuestChairs" "closed" "[I") (by decide +kernel)) (fun _ h9 => h9) rfl dX0_guestsBoundTo_28 ?_
      refine lv_iload_n hx hb dX0_guestsBoundTo_31 rfl (lv_at hl 0 rfl) ?_
      have hPc : va_P (dC, dI) vwCl ([((h 4), .inl ((kc 4), 20, .inl cl))]) _ := hP.sub [4] rfl
      have hKc : va_K (dC, dI) vwCl ([((kc 4), .int)]) s := hK.sub [3] rfl
      refine va_calli (va_runS (As := [.ref (h 4), .int (nI i)]) (rest := []) ⟨hx, hb, hml, hown, hts⟩ (c_X0_at l dC dI (h 4) (kc 4) 20 cl (nI i) (by decide)) (va_cwS 2 hts gX0_guestsBoundTo_X0_at rfl rfl rfl (by decide +kernel) ⟨Nat.le_of_ble_eq_true rfl, Nat.le_of_ble_eq_true rfl⟩) ⟨gcPR_blind, fun U hU hW => ⟨rfl, by rw [hU]; exact hPc, va_K.moved hW.alike hKc⟩⟩ rfl rfl hl.1 rfl (lv_room (Nat.le_of_ble_eq_true rfl)) dX0_guestsBoundTo_32 ⟨Nat.zero_le _, Nat.zero_le _⟩) hS (fun q _ h => h.elim) (fun q h => h.elim) (fun r4 u t H locs ht hvm hw hB hz1 hk1 hS => ?_)
      have hP := gc_keep hP hk1
      have hw : r4 = gAt 20 cl (nI i) := hw
      subst hw
      clear hw
      clear hB hz1 hk1 ht hvm
      clear hPc hKc
      refine lv_iload_n hx hb dX0_guestsBoundTo_35 rfl (lv_at hl 3 rfl) ?_
      refine va_calli (va_runS (As := [.int (gAt 20 cl (nI i)), .int w]) (rest := []) ⟨hx, hb, hml, hown, hts⟩ (c_X0_has l (gAt 20 cl (nI i)) w) (va_cwS 2 hts gX0_guestsBoundTo_X0_has rfl rfl rfl (by decide +kernel) ⟨Nat.le_of_ble_eq_true rfl, Nat.le_of_ble_eq_true rfl⟩) ⟨fun a U g mk q => q, fun U hU hW => ⟨rfl, trivial⟩⟩ rfl rfl hl.1 rfl (lv_room (Nat.le_of_ble_eq_true rfl)) dX0_guestsBoundTo_36 ⟨Nat.zero_le _, Nat.zero_le _⟩) hS (fun q _ h => h.elim) (fun q h => h.elim) (fun r5 u t H locs ht hvm hw hB hz1 hk1 hS => ?_)
      have hP := gc_keep hP hk1
      have hw : r5 = gB (gHas (gAt 20 cl (nI i)) w) := hw
      subst hw
      clear hw
      clear hB hz1 hk1 ht hvm
      refine lv_if_eq (tgt := 50) hx hb dX0_guestsBoundTo_39 (by decide) (fun c_39 => ?_) (fun c_39 => ?_)
      · skip
        have c_39 := gB_f c_39
        refine lv_iinc (v := nI (i + 1)) (lv' := [(3, .int (nI (i + 1))), (2, .int x), (0, .ref (h 0)), (1, .int w)]) hx hb dX0_guestsBoundTo_50 hl (k := 0) rfl (nI_1 i) (by decide) rfl (fun ls hl => ?_)
        refine lv_goto (tgt := 4) hx hb dX0_guestsBoundTo_53 (by decide) ?_
        exact ihi H _ ls (by omega) ⟨x, (by simp only [gGB, ← e_x]; simp [gGB, c_24, c_39]), hP, hS, lv_sub hl [0, 1, 2, 3] rfl⟩
      · skip
        have c_39 := gB_t c_39
        refine lv_iload_n hx hb dX0_guestsBoundTo_42 rfl (lv_at hl 1 rfl) ?_
        refine lv_iconst (v := 1) hx hb dX0_guestsBoundTo_43 (by decide) ?_
        refine lv_iload_n hx hb dX0_guestsBoundTo_44 rfl (lv_at hl 0 rfl) ?_
        refine lv_iconst (v := 1) hx hb dX0_guestsBoundTo_45 (by decide) ?_
        refine lv_ishr hx hb dX0_guestsBoundTo_46 ?_
        refine lv_ishl hx hb dX0_guestsBoundTo_47 ?_
        refine lv_ior hx hb dX0_guestsBoundTo_48 ?_
        refine lv_istore_n (lv' := [(2, .int (x ||| ((1 : Int32) <<< ((nI i >>> (1 &&& 31)) &&& 31)))), (3, .int (nI i)), (0, .ref (h 0)), (1, .int w)]) hx hb dX0_guestsBoundTo_49 rfl hl (by decide) rfl (fun ls hl => ?_)
        refine lv_iinc (v := nI (i + 1)) (lv' := [(3, .int (nI (i + 1))), (2, .int (x ||| ((1 : Int32) <<< ((nI i >>> (1 &&& 31)) &&& 31)))), (0, .ref (h 0)), (1, .int w)]) hx hb dX0_guestsBoundTo_50 hl (k := 1) rfl (nI_1 i) (by decide) rfl (fun ls hl => ?_)
        refine lv_goto (tgt := 4) hx hb dX0_guestsBoundTo_53 (by decide) ?_
        exact ihi H _ ls (by omega) ⟨(x ||| ((1 : Int32) <<< ((nI i >>> (1 &&& 31)) &&& 31))), (by simp only [gGB, ← e_x]; simp [gGB, c_24, c_39]), hP, hS, lv_sub hl [0, 1, 2, 3] rfl⟩
set_option maxHeartbeats 4000000 in
set_option maxRecDepth 100000 in
theorem c_X0_guestsComing (l : Launch) (dC : Nat → ClassId) (dI : Nat → Nat → Nat) (h : Nat → Nat) (kc : Nat → ClassId) (f1 : Nat → Int32) (f2 : Nat → Int32) (dr : Nat → Int32) (cl : Nat → Int32) (tr : Nat → Int32) (se : Nat → Int32) (g : Nat) (r : Nat) (inf : Int32) (ct : Nat) (w : Int32) (hg : g ≤ 10) : Met l yX0_guestsComing wsX0_guestsComing ({ frames := 1, cells := 0, slots := 0, locals := 21 }) (gcPR (dC, dI) [.ref (h 0), .int w] (gcW h kc f1 f2 dr cl tr se (nI g) (nI r) inf (nI ct)) (gcT kc)) (va_Qi (fun (rv : Int32) (_u : Unit) => rv = gGC w g) (fun _ _ => True) (fun _ => False)) 0 0 (fun _ => False) := by
  refine Met.ofW (cc := cX0_guestsComing) (maxL := 4) (ret := (some .int)) (by decide) rfl ?_
  intro p e s m args below meth c s₁ B hml hv
  obtain ⟨rfl, hP, hK⟩ := hv
  have hx := B.exec
  have hb := B.bytes
  have hr := B.returns
  have hts := atoms_spec (ws := wsX0_guestsComing) B.pre
  have hown : s.vm.findClass RX0 = some m.cls := findClass_of_methodNamed B.named
  have hlocks := B.notSynchronized
  have hS : va_S (fun _ => False) s.heap s.heap [] := va_S.rf
  have hP : va_P (dC, dI) vwCl (gcW h kc f1 f2 dr cl tr se (nI g) (nI r) inf (nI ct)) s.heap := hP
  have hin0 : ∀ w ∈ wsX00, w ∈ wsX0_guestsComing := by decide +kernel
  have hl := lv_entry [.ref (h 0), .int w] (n := 4) (Nat.le_of_ble_eq_true rfl)
  rw [lg_entry_eq]
  generalize (lg_sl [.ref (h 0), .int w] ++ List.replicate (4 - (lg_sl [.ref (h 0), .int w]).length) Slot.unset).toArray = ls at hl ⊢
  have hl : lv_has ls 4 [(0, .ref (h 0)), (1, .int w)] := hl
  refine lv_iconst (v := 0) hx hb dX0_guestsComing_0 (by decide) ?_
  refine lv_istore_n (lv' := [(2, .int 0), (0, .ref (h 0)), (1, .int w)]) hx hb dX0_guestsComing_1 rfl hl (by decide) rfl (fun ls hl => ?_)
  refine lv_iconst (v := 0) hx hb dX0_guestsComing_2 (by decide) ?_
  refine lv_istore_n (lv' := [(3, .int 0), (2, .int 0), (0, .ref (h 0)), (1, .int w)]) hx hb dX0_guestsComing_3 rfl hl (by decide) rfl (fun ls hl => ?_)
  refine gc_loop (g) (fun (i : Nat) (H : Heap) (locs : List Loc) (ls : Array Slot) => ∃ (x : Int32), x = gGC w i ∧ va_P (dC, dI) vwCl (gcW h kc f1 f2 dr cl tr se (nI g) (nI r) inf (nI ct)) H ∧ va_S (fun _ => False) s.heap H locs ∧ lv_has ls 4 [(3, .int (nI i)), (2, .int x), (0, .ref (h 0)), (1, .int w)]) 0 (Nat.zero_le _) ⟨0, (by first | rfl | assumption | omega), hP, hS, lv_sub hl [0, 1, 2, 3] rfl⟩ ?_
  intro i H locs ls hi hI ihi
  obtain ⟨x, e_x, hP, hS, hl⟩ := hI
  refine lv_iload_n hx hb dX0_guestsComing_4 rfl (lv_at hl 0 rfl) ?_
  refine lv_aload_n hx hb dX0_guestsComing_5 rfl (lv_at hl 2 rfl) ?_
  refine va_get (D := (dC, dI)) (ci := 0) (v := .int (nI g)) (C := RX0) (T := TX0) (N := 10) hx hb hts hin0 hown hK hP 0 rfl rfl 6 (by decide) (hts (.fieldLink RX0 31 "GuestChairs" "guestCount" "I") (by decide +kernel)) (fun _ h9 => h9) rfl dX0_guestsComing_6 ?_
  refine lv_icmp_ge (tgt := 34) hx hb dX0_guestsComing_9 (by decide) (fun c_9 => ?_) (fun c_9 => ?_)
  · skip
    have hEi : i = g := gc_ge c_9 (by omega) (by omega)
    refine lv_iload_n hx hb dX0_guestsComing_34 rfl (lv_at hl 1 rfl) ?_
    have hpost : x = gGC w g := by rw [e_x, hEi]
    exact W.iret (v := x) hx hb hr (fun t ht hW => ⟨⟨x, (), rfl, hpost, trivial⟩, hS.F ht⟩) hS.2.2 dX0_guestsComing_35
  · skip
    have hLi : i < g := gc_lt c_9 (by omega) (by omega)
    refine lv_iload_n hx hb dX0_guestsComing_12 rfl (lv_at hl 3 rfl) ?_
    refine lv_iconst (v := 2) hx hb dX0_guestsComing_13 (by decide) ?_
    refine lv_iload_n hx hb dX0_guestsComing_14 rfl (lv_at hl 0 rfl) ?_
    refine lv_imul hx hb dX0_guestsComing_15 ?_
    refine va_calli (va_runS (As := [.int w, .int (2 * nI i)]) (rest := []) ⟨hx, hb, hml, hown, hts⟩ (c_X0_has l w (2 * nI i)) (va_cwS 2 hts gX0_guestsComing_X0_has rfl rfl rfl (by decide +kernel) ⟨Nat.le_of_ble_eq_true rfl, Nat.le_of_ble_eq_true rfl⟩) ⟨fun a U g mk q => q, fun U hU hW => ⟨rfl, trivial⟩⟩ rfl rfl hl.1 rfl (lv_room (Nat.le_of_ble_eq_true rfl)) dX0_guestsComing_16 ⟨Nat.zero_le _, Nat.zero_le _⟩) hS (fun q _ h => h.elim) (fun q h => h.elim) (fun r1 u t H locs ht hvm hw hB hz1 hk1 hS => ?_)
    have hP := gc_keep hP hk1
    have hw : r1 = gB (gHas w (2 * nI i)) := hw
    subst hw
    clear hw
    clear hB hz1 hk1 ht hvm
    refine lv_if_eq (tgt := 28) hx hb dX0_guestsComing_19 (by decide) (fun c_19 => ?_) (fun c_19 => ?_)
    · skip
      have c_19 := gB_f c_19
      refine lv_iinc (v := nI (i + 1)) (lv' := [(3, .int (nI (i + 1))), (2, .int x), (0, .ref (h 0)), (1, .int w)]) hx hb dX0_guestsComing_28 hl (k := 0) rfl (nI_1 i) (by decide) rfl (fun ls hl => ?_)
      refine lv_goto (tgt := 4) hx hb dX0_guestsComing_31 (by decide) ?_
      exact ihi H _ ls (by omega) ⟨x, (by simp only [gGC, ← e_x]; simp [gGC, c_19]), hP, hS, lv_sub hl [0, 1, 2, 3] rfl⟩
    · skip
      have c_19 := gB_t c_19
      refine lv_iload_n hx hb dX0_guestsComing_22 rfl (lv_at hl 1 rfl) ?_
      refine lv_iconst (v := 1) hx hb dX0_guestsComing_23 (by decide) ?_
      refine lv_iload_n hx hb dX0_guestsComing_24 rfl (lv_at hl 0 rfl) ?_
      refine lv_ishl hx hb dX0_guestsComing_25 ?_
      refine lv_ior hx hb dX0_guestsComing_26 ?_
      refine lv_istore_n (lv' := [(2, .int (x ||| ((1 : Int32) <<< (nI i &&& 31)))), (3, .int (nI i)), (0, .ref (h 0)), (1, .int w)]) hx hb dX0_guestsComing_27 rfl hl (by decide) rfl (fun ls hl => ?_)
      refine lv_iinc (v := nI (i + 1)) (lv' := [(3, .int (nI (i + 1))), (2, .int (x ||| ((1 : Int32) <<< (nI i &&& 31)))), (0, .ref (h 0)), (1, .int w)]) hx hb dX0_guestsComing_28 hl (k := 1) rfl (nI_1 i) (by decide) rfl (fun ls hl => ?_)
      refine lv_goto (tgt := 4) hx hb dX0_guestsComing_31 (by decide) ?_
      exact ihi H _ ls (by omega) ⟨(x ||| ((1 : Int32) <<< (nI i &&& 31))), (by simp only [gGC, ← e_x]; simp [gGC, c_19]), hP, hS, lv_sub hl [0, 1, 2, 3] rfl⟩
end
section
set_option maxHeartbeats 4000000 in
set_option maxRecDepth 100000 in
theorem c_X0_linkAllBut_dr (l : Launch) (dC : Nat → ClassId) (dI : Nat → Nat → Nat) (h : Nat → Nat) (kc : Nat → ClassId) (f1 : Nat → Int32) (f2 : Nat → Int32) (dr : Nat → Int32) (cl : Nat → Int32) (tr : Nat → Int32) (se : Nat → Int32) (g : Nat) (r : Nat) (inf : Int32) (ct : Nat) (left : Int32) (sz : Nat) (hr30 : r ≤ 30) : Met l yX0_linkAllBut wsX0_linkAllBut ({ frames := 2, cells := 0, slots := 0, locals := 44 }) (gcPM (dC, dI) [.ref (h 0), .int left, .ref (h 3)] (gcW h kc f1 f2 dr cl tr se (nI g) (nI r) inf (nI ct)) (gcT kc) sz) (va_Qv (fun (_u : Unit) => True) (fun _u t => va_P (dC, dI) vwCl (gcW h kc f1 f2 (gLA f1 f2 inf left r dr) cl tr se (nI g) (nI r) inf (nI ct)) t.heap ∧ va_D (va_A (gcW h kc f1 f2 dr cl tr se (nI g) (nI r) inf (nI ct)) sz) (gcW h kc f1 f2 (gLA f1 f2 inf left r dr) cl tr se (nI g) (nI r) inf (nI ct))) (va_A (gcW h kc f1 f2 dr cl tr se (nI g) (nI r) inf (nI ct)) sz)) 0 0 (va_A (gcW h kc f1 f2 dr cl tr se (nI g) (nI r) inf (nI ct)) sz) := by
  refine Met.ofW (cc := cX0_linkAllBut) (maxL := 6) (ret := none) (by decide) rfl ?_
  intro p e s m args below meth c s₁ B hml hv
  obtain ⟨rfl, hsz, hP, hK, hD0⟩ := hv
  have hx := B.exec
  have hb := B.bytes
  have hr := B.returns
  have hts := atoms_spec (ws := wsX0_linkAllBut) B.pre
  have hown : s.vm.findClass RX0 = some m.cls := findClass_of_methodNamed B.named
  have hlocks := B.notSynchronized
  subst hsz
  have hD := hD0.self (sz := s.heap.size)
  generalize hAe : va_A (gcW h kc f1 f2 dr cl tr se (nI g) (nI r) inf (nI ct)) s.heap.size = A at hD ⊢
  have hA : ∀ q : Nat, s.heap.size ≤ q → A q := fun q h => by rw [← hAe]; exact Or.inr h
  have hS : va_S A s.heap s.heap [] := va_S.rf
  have hP : va_P (dC, dI) vwCl (gcW h kc f1 f2 dr cl tr se (nI g) (nI r) inf (nI ct)) s.heap := hP
  have hin0 : ∀ w ∈ wsX00, w ∈ wsX0_linkAllBut := by decide +kernel
  have hl := lv_entry [.ref (h 0), .int left, .ref (h 3)] (n := 6) (Nat.le_of_ble_eq_true rfl)
  rw [lg_entry_eq]
  generalize (lg_sl [.ref (h 0), .int left, .ref (h 3)] ++ List.replicate (6 - (lg_sl [.ref (h 0), .int left, .ref (h 3)]).length) Slot.unset).toArray = ls at hl ⊢
  have hl : lv_has ls 6 [(0, .ref (h 0)), (1, .int left), (2, .ref (h 3))] := hl
  refine lv_iconst (v := 0) hx hb dX0_linkAllBut_0 (by decide) ?_
  refine lv_istore_n (lv' := [(3, .int 0), (0, .ref (h 0)), (1, .int left), (2, .ref (h 3))]) hx hb dX0_linkAllBut_1 rfl hl (by decide) rfl (fun ls hl => ?_)
  refine gc_loop (20) (fun (a : Nat) (H : Heap) (locs : List Loc) (ls : Array Slot) => ∃ (fa : Nat → Int32), fa = gIn dr a ∧ va_P (dC, dI) vwCl (gcW h kc f1 f2 fa cl tr se (nI g) (nI r) inf (nI ct)) H ∧ va_D A (gcW h kc f1 f2 fa cl tr se (nI g) (nI r) inf (nI ct)) ∧ va_S A s.heap H locs ∧ lv_has ls 6 [(3, .int (nI a)), (0, .ref (h 0)), (1, .int left), (2, .ref (h 3))]) 0 (Nat.zero_le _) ⟨dr, (by first | rfl | assumption | omega), hP, hD, hS, lv_sub hl [0, 1, 2, 3] rfl⟩ ?_
  intro a H locs ls ha hI iha
  obtain ⟨fa, e_fa, hP, hD, hS, hl⟩ := hI
  refine lv_iload_n hx hb dX0_linkAllBut_2 rfl (lv_at hl 0 rfl) ?_
  refine lv_aload_n hx hb dX0_linkAllBut_3 rfl (lv_at hl 3 rfl) ?_
  refine va_alen hx hb hK hP 3 2 rfl rfl (v := nI 20) rfl dX0_linkAllBut_4 ?_
  refine lv_icmp_ge (tgt := 20) hx hb dX0_linkAllBut_5 (by decide) (fun c_5 => ?_) (fun c_5 => ?_)
  · skip
    have hEa : a = 20 := gc_ge c_5 (by omega) (by omega)
    refine lv_iconst (v := 0) hx hb dX0_linkAllBut_20 (by decide) ?_
    refine lv_istore_n (lv' := [(3, .int 0), (0, .ref (h 0)), (1, .int left), (2, .ref (h 3))]) hx hb dX0_linkAllBut_21 rfl hl (by decide) rfl (fun ls hl => ?_)
    refine gc_loop (r) (fun (i : Nat) (H : Heap) (locs : List Loc) (ls : Array Slot) => ∃ (fb : Nat → Int32), fb = gLk f1 f2 inf left (gIn dr 20) i ∧ va_P (dC, dI) vwCl (gcW h kc f1 f2 fb cl tr se (nI g) (nI r) inf (nI ct)) H ∧ va_D A (gcW h kc f1 f2 fb cl tr se (nI g) (nI r) inf (nI ct)) ∧ va_S A s.heap H locs ∧ lv_has ls 6 [(3, .int (nI i)), (0, .ref (h 0)), (1, .int left), (2, .ref (h 3))]) 0 (Nat.zero_le _) ⟨fa, (by rw [e_fa, hEa]; rfl), hP, hD, hS, lv_sub hl [0, 1, 2, 3] rfl⟩ ?_
    intro i H locs ls hi hI ihi
    obtain ⟨fb, e_fb, hP, hD, hS, hl⟩ := hI
    refine lv_iload_n hx hb dX0_linkAllBut_22 rfl (lv_at hl 0 rfl) ?_
    refine lv_aload_n hx hb dX0_linkAllBut_23 rfl (lv_at hl 1 rfl) ?_
    refine va_get (D := (dC, dI)) (ci := 0) (v := .int (nI r)) (C := RX0) (T := TX0) (N := 10) hx hb hts hin0 hown hK hP 0 rfl rfl 7 (by decide) (hts (.fieldLink RX0 51 "GuestChairs" "ruleCount" "I") (by decide +kernel)) (fun _ h9 => h9) rfl dX0_linkAllBut_24 ?_
    refine lv_icmp_ge (tgt := 94) hx hb dX0_linkAllBut_27 (by decide) (fun c_27 => ?_) (fun c_27 => ?_)
    · skip
      have hEi : i = r := gc_ge c_27 (by omega) (by omega)
      have hWe : ((gcW h kc f1 f2 fb cl tr se (nI g) (nI r) inf (nI ct)) : va_W) = (gcW h kc f1 f2 (gLA f1 f2 inf left r dr) cl tr se (nI g) (nI r) inf (nI ct)) := by rw [e_fb, hEi]; rfl
      rw [hWe] at hP hD
      exact W.vret hx hb hr (fun t ht hW => ⟨⟨(), rfl, trivial, ⟨by rw [ht]; exact hP, hD⟩⟩, hS.F ht⟩) hS.2.2 dX0_linkAllBut_94
    · skip
      have hLi : i < r := gc_lt c_27 (by omega) (by omega)
      refine lv_iload_n hx hb dX0_linkAllBut_30 rfl (lv_at hl 0 rfl) ?_
      refine lv_iload_n hx hb dX0_linkAllBut_31 rfl (lv_at hl 2 rfl) ?_
      refine lv_icmp_eq (tgt := 88) hx hb dX0_linkAllBut_32 (by decide) (fun c_32 => ?_) (fun c_32 => ?_)
      · skip
        refine lv_iinc (v := nI (i + 1)) (lv' := [(3, .int (nI (i + 1))), (0, .ref (h 0)), (1, .int left), (2, .ref (h 3))]) hx hb dX0_linkAllBut_88 hl (k := 0) rfl (nI_1 i) (by decide) rfl (fun ls hl => ?_)
        refine lv_goto (tgt := 22) hx hb dX0_linkAllBut_91 (by decide) ?_
        exact ihi H _ ls (by omega) ⟨fb, (by simp only [gLk, ← e_fb]; simp [gLk, c_32]), hP, hD, hS, lv_sub hl [0, 1, 2, 3] rfl⟩
      · skip
        refine lv_aload_n hx hb dX0_linkAllBut_35 rfl (lv_at hl 1 rfl) ?_
        refine va_get (D := (dC, dI)) (ci := 0) (v := .int inf) (C := RX0) (T := TX0) (N := 10) hx hb hts hin0 hown hK hP 0 rfl rfl 8 (by decide) (hts (.fieldLink RX0 60 "GuestChairs" "inForce" "I") (by decide +kernel)) (fun _ h9 => h9) rfl dX0_linkAllBut_36 ?_
        refine lv_iload_n hx hb dX0_linkAllBut_39 rfl (lv_at hl 0 rfl) ?_
        refine va_calli (va_runS (As := [.int inf, .int (nI i)]) (rest := []) ⟨hx, hb, hml, hown, hts⟩ (c_X0_has l inf (nI i)) (va_cwS 2 hts gX0_linkAllBut_X0_has rfl rfl rfl (by decide +kernel) ⟨Nat.le_of_ble_eq_true rfl, Nat.le_of_ble_eq_true rfl⟩) ⟨fun a U g mk q => q, fun U hU hW => ⟨rfl, trivial⟩⟩ rfl rfl hl.1 rfl (lv_room (Nat.le_of_ble_eq_true rfl)) dX0_linkAllBut_40 ⟨Nat.zero_le _, Nat.zero_le _⟩) hS (fun q _ h => h.elim) (fun q h => h.elim) (fun r1 u t H locs ht hvm hw hB hz1 hk1 hS => ?_)
        have hP := gc_keep hP hk1
        have hw : r1 = gB (gHas inf (nI i)) := hw
        subst hw
        clear hw
        clear hB hz1 hk1 ht hvm
        refine lv_if_eq (tgt := 88) hx hb dX0_linkAllBut_43 (by decide) (fun c_43 => ?_) (fun c_43 => ?_)
        · skip
          have c_43 := gB_f c_43
          refine lv_iinc (v := nI (i + 1)) (lv' := [(3, .int (nI (i + 1))), (0, .ref (h 0)), (1, .int left), (2, .ref (h 3))]) hx hb dX0_linkAllBut_88 hl (k := 0) rfl (nI_1 i) (by decide) rfl (fun ls hl => ?_)
          refine lv_goto (tgt := 22) hx hb dX0_linkAllBut_91 (by decide) ?_
          exact ihi H _ ls (by omega) ⟨fb, (by simp only [gLk, ← e_fb]; simp [gLk, c_32, c_43]), hP, hD, hS, lv_sub hl [0, 1, 2, 3] rfl⟩
        · skip
          have c_43 := gB_t c_43
          refine lv_aload_n hx hb dX0_linkAllBut_46 rfl (lv_at hl 1 rfl) ?_
          refine va_get (D := (dC, dI)) (ci := 0) (v := .ref (h 1)) (C := RX0) (T := TX0) (N := 10) hx hb hts hin0 hown hK hP 0 rfl rfl 0 (by decide) (hts (.fieldLink RX0 9 "GuestChairs" "firsts" "[I") (by decide +kernel)) (fun _ h9 => h9) rfl dX0_linkAllBut_47 ?_
          refine lv_iload_n hx hb dX0_linkAllBut_50 rfl (lv_at hl 0 rfl) ?_
          have hPc : va_P (dC, dI) vwCl ([((h 1), .inl ((kc 1), 30, .inl f1))]) _ := hP.sub [1] rfl
          have hKc : va_K (dC, dI) vwCl ([((kc 1), .int)]) s := hK.sub [0] rfl
          refine va_calli (va_runS (As := [.ref (h 1), .int (nI i)]) (rest := []) ⟨hx, hb, hml, hown, hts⟩ (c_X0_at l dC dI (h 1) (kc 1) 30 f1 (nI i) (by decide)) (va_cwS 2 hts gX0_linkAllBut_X0_at rfl rfl rfl (by decide +kernel) ⟨Nat.le_of_ble_eq_true rfl, Nat.le_of_ble_eq_true rfl⟩) ⟨gcPR_blind, fun U hU hW => ⟨rfl, by rw [hU]; exact hPc, va_K.moved hW.alike hKc⟩⟩ rfl rfl hl.1 rfl (lv_room (Nat.le_of_ble_eq_true rfl)) dX0_linkAllBut_51 ⟨Nat.zero_le _, Nat.zero_le _⟩) hS (fun q _ h => h.elim) (fun q h => h.elim) (fun r2 u t H locs ht hvm hw hB hz1 hk1 hS => ?_)
          have hP := gc_keep hP hk1
          have hw : r2 = gAt 30 f1 (nI i) := hw
          subst hw
          clear hw
          clear hB hz1 hk1 ht hvm
          clear hPc hKc
          refine lv_istore (lv' := [(4, .int (gAt 30 f1 (nI i))), (3, .int (nI i)), (0, .ref (h 0)), (1, .int left), (2, .ref (h 3))]) hx hb dX0_linkAllBut_54 hl (by decide) rfl (fun ls hl => ?_)
          refine lv_aload_n hx hb dX0_linkAllBut_56 rfl (lv_at hl 2 rfl) ?_
          refine va_get (D := (dC, dI)) (ci := 0) (v := .ref (h 2)) (C := RX0) (T := TX0) (N := 10) hx hb hts hin0 hown hK hP 0 rfl rfl 1 (by decide) (hts (.fieldLink RX0 13 "GuestChairs" "seconds" "[I") (by decide +kernel)) (fun _ h9 => h9) rfl dX0_linkAllBut_57 ?_
          refine lv_iload_n hx hb dX0_linkAllBut_60 rfl (lv_at hl 1 rfl) ?_
          have hPc : va_P (dC, dI) vwCl ([((h 2), .inl ((kc 2), 30, .inl f2))]) _ := hP.sub [2] rfl
          have hKc : va_K (dC, dI) vwCl ([((kc 2), .int)]) s := hK.sub [1] rfl
          refine va_calli (va_runS (As := [.ref (h 2), .int (nI i)]) (rest := []) ⟨hx, hb, hml, hown, hts⟩ (c_X0_at l dC dI (h 2) (kc 2) 30 f2 (nI i) (by decide)) (va_cwS 2 hts gX0_linkAllBut_X0_at rfl rfl rfl (by decide +kernel) ⟨Nat.le_of_ble_eq_true rfl, Nat.le_of_ble_eq_true rfl⟩) ⟨gcPR_blind, fun U hU hW => ⟨rfl, by rw [hU]; exact hPc, va_K.moved hW.alike hKc⟩⟩ rfl rfl hl.1 rfl (lv_room (Nat.le_of_ble_eq_true rfl)) dX0_linkAllBut_61 ⟨Nat.zero_le _, Nat.zero_le _⟩) hS (fun q _ h => h.elim) (fun q h => h.elim) (fun r3 u t H locs ht hvm hw hB hz1 hk1 hS => ?_)
          have hP := gc_keep hP hk1
          have hw : r3 = gAt 30 f2 (nI i) := hw
          subst hw
          clear hw
          clear hB hz1 hk1 ht hvm
          clear hPc hKc
          refine lv_istore (lv' := [(5, .int (gAt 30 f2 (nI i))), (4, .int (gAt 30 f1 (nI i))), (3, .int (nI i)), (0, .ref (h 0)), (1, .int left), (2, .ref (h 3))]) hx hb dX0_linkAllBut_64 hl (by decide) rfl (fun ls hl => ?_)
          refine lv_aload_n hx hb dX0_linkAllBut_66 rfl (lv_at hl 5 rfl) ?_
          refine lv_iload hx hb dX0_linkAllBut_67 (lv_at hl 1 rfl) ?_
          refine lv_iload hx hb dX0_linkAllBut_69 (lv_at hl 0 rfl) ?_
          have hPc : va_P (dC, dI) vwCl ([((h 3), .inl ((kc 3), 20, .inl fb))]) _ := hP.sub [3] rfl
          have hKc : va_K (dC, dI) vwCl ([((kc 3), .int)]) s := hK.sub [2] rfl
          have hDc : va_D A ([((h 3), .inl ((kc 3), 20, .inl fb))]) := hD.sub [3] (by decide) rfl
          have hFc := va_free (wc := ([((h 3), .inl ((kc 3), 20, .inl fb))])) hD hS hA [3] rfl
          refine va_callv (va_runS (As := [.ref (h 3), .int (gAt 30 f1 (nI i)), .int (gAt 30 f2 (nI i))]) (rest := []) ⟨hx, hb, hml, hown, hts⟩ (c_X0_link l dC dI (h 3) (kc 3) 20 fb (gAt 30 f1 (nI i)) (gAt 30 f2 (nI i)) H.size (by decide)) (va_cwS 3 hts gX0_linkAllBut_X0_link rfl rfl rfl (by decide +kernel) ⟨Nat.le_of_ble_eq_true rfl, Nat.le_of_ble_eq_true rfl⟩) ⟨gcPM_blind, fun U hU hW => ⟨rfl, by rw [hU], by rw [hU]; exact hPc, va_K.moved hW.alike hKc, hDc.weaken (fun _ _ _ _ => trivial)⟩⟩ rfl rfl hl.1 rfl (lv_room (Nat.le_of_ble_eq_true rfl)) dX0_linkAllBut_71 ⟨Nat.zero_le _, Nat.zero_le _⟩) hS (fun q _ h => hFc q h) hFc (fun u t H locs ht hvm hw hB hz1 hk1 hS => ?_)
          obtain ⟨hP1, hD1⟩ := hB
          rw [ht] at hP1
          obtain ⟨hP, hD⟩ := va_join (wr := [(h 0, .inr (0, [.ref (h 1), .ref (h 2), .ref (h 3), .ref (h 4), .ref (h 5), .ref (h 6), .int (nI g), .int (nI r), .int inf, .int (nI ct)])), (h 1, .inl (kc 1, 30, .inl f1)), (h 2, .inl (kc 2, 30, .inl f2)), (h 4, .inl (kc 4, 20, .inl cl)), (h 5, .inl (kc 5, 20, .inl tr)), (h 6, .inl (kc 6, 1024, .inl se))]) (w1 := ([((h 3), .inl ((kc 3), 20, .inl (gLink 20 fb (gAt 30 f1 (nI i)) (gAt 30 f2 (nI i)))))])) hP hD [3] [0, 1, 2, 4, 5, 6] rfl rfl (by decide) (by decide) hk1 hFc hP1 hD1
          have hP : va_P (dC, dI) vwCl (gcW h kc f1 f2 (gLink 20 fb (gAt 30 f1 (nI i)) (gAt 30 f2 (nI i))) cl tr se (nI g) (nI r) inf (nI ct)) H := hP.sub [0, 1, 2, 6, 3, 4, 5] rfl
          have hD : va_D A (gcW h kc f1 f2 (gLink 20 fb (gAt 30 f1 (nI i)) (gAt 30 f2 (nI i))) cl tr se (nI g) (nI r) inf (nI ct)) := hD.sub [0, 1, 2, 6, 3, 4, 5] (by decide) rfl
          clear hz1 hk1 ht hvm hP1 hD1 hFc hDc
          clear hPc hKc
          refine lv_aload_n hx hb dX0_linkAllBut_74 rfl (lv_at hl 5 rfl) ?_
          refine lv_iload hx hb dX0_linkAllBut_75 (lv_at hl 0 rfl) ?_
          refine va_calli (va_runS (As := [.int (gAt 30 f2 (nI i))]) (rest := [.ref (h 3)]) ⟨hx, hb, hml, hown, hts⟩ (c_X0_against l (gAt 30 f2 (nI i))) (va_cwS 1 hts gX0_linkAllBut_X0_against rfl rfl rfl (by decide +kernel) ⟨Nat.le_of_ble_eq_true rfl, Nat.le_of_ble_eq_true rfl⟩) ⟨fun a U g mk q => q, fun U hU hW => ⟨rfl, trivial⟩⟩ rfl rfl hl.1 rfl (lv_room (Nat.le_of_ble_eq_true rfl)) dX0_linkAllBut_77 ⟨Nat.zero_le _, Nat.zero_le _⟩) hS (fun q _ h => h.elim) (fun q h => h.elim) (fun r5 u t H locs ht hvm hw hB hz1 hk1 hS => ?_)
          have hP := gc_keep hP hk1
          have hw : r5 = ((gAt 30 f2 (nI i)) ^^^ 1) := hw
          subst hw
          clear hw
          clear hB hz1 hk1 ht hvm
          refine lv_iload hx hb dX0_linkAllBut_80 (lv_at hl 1 rfl) ?_
          refine va_calli (va_runS (As := [.int (gAt 30 f1 (nI i))]) (rest := [.int ((gAt 30 f2 (nI i)) ^^^ 1), .ref (h 3)]) ⟨hx, hb, hml, hown, hts⟩ (c_X0_against l (gAt 30 f1 (nI i))) (va_cwS 1 hts gX0_linkAllBut_X0_against rfl rfl rfl (by decide +kernel) ⟨Nat.le_of_ble_eq_true rfl, Nat.le_of_ble_eq_true rfl⟩) ⟨fun a U g mk q => q, fun U hU hW => ⟨rfl, trivial⟩⟩ rfl rfl hl.1 rfl (lv_room (Nat.le_of_ble_eq_true rfl)) dX0_linkAllBut_82 ⟨Nat.zero_le _, Nat.zero_le _⟩) hS (fun q _ h => h.elim) (fun q h => h.elim) (fun r6 u t H locs ht hvm hw hB hz1 hk1 hS => ?_)
          have hP := gc_keep hP hk1
          have hw : r6 = ((gAt 30 f1 (nI i)) ^^^ 1) := hw
          subst hw
          clear hw
          clear hB hz1 hk1 ht hvm
          have hPc : va_P (dC, dI) vwCl ([((h 3), .inl ((kc 3), 20, .inl (gLink 20 fb (gAt 30 f1 (nI i)) (gAt 30 f2 (nI i)))))]) _ := hP.sub [3] rfl
          have hKc : va_K (dC, dI) vwCl ([((kc 3), .int)]) s := hK.sub [2] rfl
          have hDc : va_D A ([((h 3), .inl ((kc 3), 20, .inl (gLink 20 fb (gAt 30 f1 (nI i)) (gAt 30 f2 (nI i)))))]) := hD.sub [3] (by decide) rfl
          have hFc := va_free (wc := ([((h 3), .inl ((kc 3), 20, .inl (gLink 20 fb (gAt 30 f1 (nI i)) (gAt 30 f2 (nI i)))))])) hD hS hA [3] rfl
          refine va_callv (va_runS (As := [.ref (h 3), .int ((gAt 30 f2 (nI i)) ^^^ 1), .int ((gAt 30 f1 (nI i)) ^^^ 1)]) (rest := []) ⟨hx, hb, hml, hown, hts⟩ (c_X0_link l dC dI (h 3) (kc 3) 20 (gLink 20 fb (gAt 30 f1 (nI i)) (gAt 30 f2 (nI i))) ((gAt 30 f2 (nI i)) ^^^ 1) ((gAt 30 f1 (nI i)) ^^^ 1) H.size (by decide)) (va_cwS 3 hts gX0_linkAllBut_X0_link rfl rfl rfl (by decide +kernel) ⟨Nat.le_of_ble_eq_true rfl, Nat.le_of_ble_eq_true rfl⟩) ⟨gcPM_blind, fun U hU hW => ⟨rfl, by rw [hU], by rw [hU]; exact hPc, va_K.moved hW.alike hKc, hDc.weaken (fun _ _ _ _ => trivial)⟩⟩ rfl rfl hl.1 rfl (lv_room (Nat.le_of_ble_eq_true rfl)) dX0_linkAllBut_85 ⟨Nat.zero_le _, Nat.zero_le _⟩) hS (fun q _ h => hFc q h) hFc (fun u t H locs ht hvm hw hB hz1 hk1 hS => ?_)
          obtain ⟨hP1, hD1⟩ := hB
          rw [ht] at hP1
          obtain ⟨hP, hD⟩ := va_join (wr := [(h 0, .inr (0, [.ref (h 1), .ref (h 2), .ref (h 3), .ref (h 4), .ref (h 5), .ref (h 6), .int (nI g), .int (nI r), .int inf, .int (nI ct)])), (h 1, .inl (kc 1, 30, .inl f1)), (h 2, .inl (kc 2, 30, .inl f2)), (h 4, .inl (kc 4, 20, .inl cl)), (h 5, .inl (kc 5, 20, .inl tr)), (h 6, .inl (kc 6, 1024, .inl se))]) (w1 := ([((h 3), .inl ((kc 3), 20, .inl (gLink 20 (gLink 20 fb (gAt 30 f1 (nI i)) (gAt 30 f2 (nI i))) ((gAt 30 f2 (nI i)) ^^^ 1) ((gAt 30 f1 (nI i)) ^^^ 1))))])) hP hD [3] [0, 1, 2, 4, 5, 6] rfl rfl (by decide) (by decide) hk1 hFc hP1 hD1
          have hP : va_P (dC, dI) vwCl (gcW h kc f1 f2 (gLink 20 (gLink 20 fb (gAt 30 f1 (nI i)) (gAt 30 f2 (nI i))) ((gAt 30 f2 (nI i)) ^^^ 1) ((gAt 30 f1 (nI i)) ^^^ 1)) cl tr se (nI g) (nI r) inf (nI ct)) H := hP.sub [0, 1, 2, 6, 3, 4, 5] rfl
          have hD : va_D A (gcW h kc f1 f2 (gLink 20 (gLink 20 fb (gAt 30 f1 (nI i)) (gAt 30 f2 (nI i))) ((gAt 30 f2 (nI i)) ^^^ 1) ((gAt 30 f1 (nI i)) ^^^ 1)) cl tr se (nI g) (nI r) inf (nI ct)) := hD.sub [0, 1, 2, 6, 3, 4, 5] (by decide) rfl
          clear hz1 hk1 ht hvm hP1 hD1 hFc hDc
          clear hPc hKc
          refine lv_iinc (v := nI (i + 1)) (lv' := [(3, .int (nI (i + 1))), (5, .int (gAt 30 f2 (nI i))), (4, .int (gAt 30 f1 (nI i))), (0, .ref (h 0)), (1, .int left), (2, .ref (h 3))]) hx hb dX0_linkAllBut_88 hl (k := 2) rfl (nI_1 i) (by decide) rfl (fun ls hl => ?_)
          refine lv_goto (tgt := 22) hx hb dX0_linkAllBut_91 (by decide) ?_
          exact ihi H _ ls (by omega) ⟨(gLink 20 (gLink 20 fb (gAt 30 f1 (nI i)) (gAt 30 f2 (nI i))) ((gAt 30 f2 (nI i)) ^^^ 1) ((gAt 30 f1 (nI i)) ^^^ 1)), (by simp only [gLk, ← e_fb]; simp [gLk, c_32, c_43]), hP, hD, hS, lv_sub hl [0, 3, 4, 5] rfl⟩
  · skip
    have hLa : a < 20 := gc_lt c_5 (by omega) (by omega)
    refine lv_aload_n hx hb dX0_linkAllBut_8 rfl (lv_at hl 3 rfl) ?_
    refine lv_iload_n hx hb dX0_linkAllBut_9 rfl (lv_at hl 0 rfl) ?_
    refine lv_iconst (v := 1) hx hb dX0_linkAllBut_10 (by decide) ?_
    refine lv_iload_n hx hb dX0_linkAllBut_11 rfl (lv_at hl 0 rfl) ?_
    refine lv_ishl hx hb dX0_linkAllBut_12 ?_
    refine va_iast hx hb hK hP hD hS 3 2 rfl rfl (vp_in_nI (n := a) (by omega) (by decide)) dX0_linkAllBut_13 (fun H locs hP hD hS => ?_)
    rw [nI_clamp (n := a) (by omega)] at hP hD
    have hP : va_P (dC, dI) vwCl (gcW h kc f1 f2 (upd fa a ((1 : Int32) <<< (nI a &&& 31))) cl tr se (nI g) (nI r) inf (nI ct)) H := hP
    have hD : va_D A (gcW h kc f1 f2 (upd fa a ((1 : Int32) <<< (nI a &&& 31))) cl tr se (nI g) (nI r) inf (nI ct)) := hD
    refine lv_iinc (v := nI (a + 1)) (lv' := [(3, .int (nI (a + 1))), (0, .ref (h 0)), (1, .int left), (2, .ref (h 3))]) hx hb dX0_linkAllBut_14 hl (k := 0) rfl (nI_1 a) (by decide) rfl (fun ls hl => ?_)
    refine lv_goto (tgt := 2) hx hb dX0_linkAllBut_17 (by decide) ?_
    exact iha H _ ls (by omega) ⟨(upd fa a ((1 : Int32) <<< (nI a &&& 31))), (by rw [e_fa]; rfl), hP, hD, hS, lv_sub hl [0, 1, 2, 3] rfl⟩
set_option maxHeartbeats 4000000 in
set_option maxRecDepth 100000 in
theorem c_X0_linkAllBut_cl (l : Launch) (dC : Nat → ClassId) (dI : Nat → Nat → Nat) (h : Nat → Nat) (kc : Nat → ClassId) (f1 : Nat → Int32) (f2 : Nat → Int32) (dr : Nat → Int32) (cl : Nat → Int32) (tr : Nat → Int32) (se : Nat → Int32) (g : Nat) (r : Nat) (inf : Int32) (ct : Nat) (left : Int32) (sz : Nat) (hr30 : r ≤ 30) : Met l yX0_linkAllBut wsX0_linkAllBut ({ frames := 2, cells := 0, slots := 0, locals := 44 }) (gcPM (dC, dI) [.ref (h 0), .int left, .ref (h 4)] (gcW h kc f1 f2 dr cl tr se (nI g) (nI r) inf (nI ct)) (gcT kc) sz) (va_Qv (fun (_u : Unit) => True) (fun _u t => va_P (dC, dI) vwCl (gcW h kc f1 f2 dr (gLA f1 f2 inf left r cl) tr se (nI g) (nI r) inf (nI ct)) t.heap ∧ va_D (va_A (gcW h kc f1 f2 dr cl tr se (nI g) (nI r) inf (nI ct)) sz) (gcW h kc f1 f2 dr (gLA f1 f2 inf left r cl) tr se (nI g) (nI r) inf (nI ct))) (va_A (gcW h kc f1 f2 dr cl tr se (nI g) (nI r) inf (nI ct)) sz)) 0 0 (va_A (gcW h kc f1 f2 dr cl tr se (nI g) (nI r) inf (nI ct)) sz) := by
  refine Met.ofW (cc := cX0_linkAllBut) (maxL := 6) (ret := none) (by decide) rfl ?_
  intro p e s m args below meth c s₁ B hml hv
  obtain ⟨rfl, hsz, hP, hK, hD0⟩ := hv
  have hx := B.exec
  have hb := B.bytes
  have hr := B.returns
  have hts := atoms_spec (ws := wsX0_linkAllBut) B.pre
  have hown : s.vm.findClass RX0 = some m.cls := findClass_of_methodNamed B.named
  have hlocks := B.notSynchronized
  subst hsz
  have hD := hD0.self (sz := s.heap.size)
  generalize hAe : va_A (gcW h kc f1 f2 dr cl tr se (nI g) (nI r) inf (nI ct)) s.heap.size = A at hD ⊢
  have hA : ∀ q : Nat, s.heap.size ≤ q → A q := fun q h => by rw [← hAe]; exact Or.inr h
  have hS : va_S A s.heap s.heap [] := va_S.rf
  have hP : va_P (dC, dI) vwCl (gcW h kc f1 f2 dr cl tr se (nI g) (nI r) inf (nI ct)) s.heap := hP
  have hin0 : ∀ w ∈ wsX00, w ∈ wsX0_linkAllBut := by decide +kernel
  have hl := lv_entry [.ref (h 0), .int left, .ref (h 4)] (n := 6) (Nat.le_of_ble_eq_true rfl)
  rw [lg_entry_eq]
  generalize (lg_sl [.ref (h 0), .int left, .ref (h 4)] ++ List.replicate (6 - (lg_sl [.ref (h 0), .int left, .ref (h 4)]).length) Slot.unset).toArray = ls at hl ⊢
  have hl : lv_has ls 6 [(0, .ref (h 0)), (1, .int left), (2, .ref (h 4))] := hl
  refine lv_iconst (v := 0) hx hb dX0_linkAllBut_0 (by decide) ?_
  refine lv_istore_n (lv' := [(3, .int 0), (0, .ref (h 0)), (1, .int left), (2, .ref (h 4))]) hx hb dX0_linkAllBut_1 rfl hl (by decide) rfl (fun ls hl => ?_)
  refine gc_loop (20) (fun (a : Nat) (H : Heap) (locs : List Loc) (ls : Array Slot) => ∃ (fa : Nat → Int32), fa = gIn cl a ∧ va_P (dC, dI) vwCl (gcW h kc f1 f2 dr fa tr se (nI g) (nI r) inf (nI ct)) H ∧ va_D A (gcW h kc f1 f2 dr fa tr se (nI g) (nI r) inf (nI ct)) ∧ va_S A s.heap H locs ∧ lv_has ls 6 [(3, .int (nI a)), (0, .ref (h 0)), (1, .int left), (2, .ref (h 4))]) 0 (Nat.zero_le _) ⟨cl, (by first | rfl | assumption | omega), hP, hD, hS, lv_sub hl [0, 1, 2, 3] rfl⟩ ?_
  intro a H locs ls ha hI iha
  obtain ⟨fa, e_fa, hP, hD, hS, hl⟩ := hI
  refine lv_iload_n hx hb dX0_linkAllBut_2 rfl (lv_at hl 0 rfl) ?_
  refine lv_aload_n hx hb dX0_linkAllBut_3 rfl (lv_at hl 3 rfl) ?_
  refine va_alen hx hb hK hP 4 3 rfl rfl (v := nI 20) rfl dX0_linkAllBut_4 ?_
  refine lv_icmp_ge (tgt := 20) hx hb dX0_linkAllBut_5 (by decide) (fun c_5 => ?_) (fun c_5 => ?_)
  · skip
    have hEa : a = 20 := gc_ge c_5 (by omega) (by omega)
    refine lv_iconst (v := 0) hx hb dX0_linkAllBut_20 (by decide) ?_
    refine lv_istore_n (lv' := [(3, .int 0), (0, .ref (h 0)), (1, .int left), (2, .ref (h 4))]) hx hb dX0_linkAllBut_21 rfl hl (by decide) rfl (fun ls hl => ?_)
    refine gc_loop (r) (fun (i : Nat) (H : Heap) (locs : List Loc) (ls : Array Slot) => ∃ (fb : Nat → Int32), fb = gLk f1 f2 inf left (gIn cl 20) i ∧ va_P (dC, dI) vwCl (gcW h kc f1 f2 dr fb tr se (nI g) (nI r) inf (nI ct)) H ∧ va_D A (gcW h kc f1 f2 dr fb tr se (nI g) (nI r) inf (nI ct)) ∧ va_S A s.heap H locs ∧ lv_has ls 6 [(3, .int (nI i)), (0, .ref (h 0)), (1, .int left), (2, .ref (h 4))]) 0 (Nat.zero_le _) ⟨fa, (by rw [e_fa, hEa]; rfl), hP, hD, hS, lv_sub hl [0, 1, 2, 3] rfl⟩ ?_
    intro i H locs ls hi hI ihi
    obtain ⟨fb, e_fb, hP, hD, hS, hl⟩ := hI
    refine lv_iload_n hx hb dX0_linkAllBut_22 rfl (lv_at hl 0 rfl) ?_
    refine lv_aload_n hx hb dX0_linkAllBut_23 rfl (lv_at hl 1 rfl) ?_
    refine va_get (D := (dC, dI)) (ci := 0) (v := .int (nI r)) (C := RX0) (T := TX0) (N := 10) hx hb hts hin0 hown hK hP 0 rfl rfl 7 (by decide) (hts (.fieldLink RX0 51 "GuestChairs" "ruleCount" "I") (by decide +kernel)) (fun _ h9 => h9) rfl dX0_linkAllBut_24 ?_
    refine lv_icmp_ge (tgt := 94) hx hb dX0_linkAllBut_27 (by decide) (fun c_27 => ?_) (fun c_27 => ?_)
    · skip
      have hEi : i = r := gc_ge c_27 (by omega) (by omega)
      have hWe : ((gcW h kc f1 f2 dr fb tr se (nI g) (nI r) inf (nI ct)) : va_W) = (gcW h kc f1 f2 dr (gLA f1 f2 inf left r cl) tr se (nI g) (nI r) inf (nI ct)) := by rw [e_fb, hEi]; rfl
      rw [hWe] at hP hD
      exact W.vret hx hb hr (fun t ht hW => ⟨⟨(), rfl, trivial, ⟨by rw [ht]; exact hP, hD⟩⟩, hS.F ht⟩) hS.2.2 dX0_linkAllBut_94
    · skip
      have hLi : i < r := gc_lt c_27 (by omega) (by omega)
      refine lv_iload_n hx hb dX0_linkAllBut_30 rfl (lv_at hl 0 rfl) ?_
      refine lv_iload_n hx hb dX0_linkAllBut_31 rfl (lv_at hl 2 rfl) ?_
      refine lv_icmp_eq (tgt := 88) hx hb dX0_linkAllBut_32 (by decide) (fun c_32 => ?_) (fun c_32 => ?_)
      · skip
        refine lv_iinc (v := nI (i + 1)) (lv' := [(3, .int (nI (i + 1))), (0, .ref (h 0)), (1, .int left), (2, .ref (h 4))]) hx hb dX0_linkAllBut_88 hl (k := 0) rfl (nI_1 i) (by decide) rfl (fun ls hl => ?_)
        refine lv_goto (tgt := 22) hx hb dX0_linkAllBut_91 (by decide) ?_
        exact ihi H _ ls (by omega) ⟨fb, (by simp only [gLk, ← e_fb]; simp [gLk, c_32]), hP, hD, hS, lv_sub hl [0, 1, 2, 3] rfl⟩
      · skip
        refine lv_aload_n hx hb dX0_linkAllBut_35 rfl (lv_at hl 1 rfl) ?_
        refine va_get (D := (dC, dI)) (ci := 0) (v := .int inf) (C := RX0) (T := TX0) (N := 10) hx hb hts hin0 hown hK hP 0 rfl rfl 8 (by decide) (hts (.fieldLink RX0 60 "GuestChairs" "inForce" "I") (by decide +kernel)) (fun _ h9 => h9) rfl dX0_linkAllBut_36 ?_
        refine lv_iload_n hx hb dX0_linkAllBut_39 rfl (lv_at hl 0 rfl) ?_
        refine va_calli (va_runS (As := [.int inf, .int (nI i)]) (rest := []) ⟨hx, hb, hml, hown, hts⟩ (c_X0_has l inf (nI i)) (va_cwS 2 hts gX0_linkAllBut_X0_has rfl rfl rfl (by decide +kernel) ⟨Nat.le_of_ble_eq_true rfl, Nat.le_of_ble_eq_true rfl⟩) ⟨fun a U g mk q => q, fun U hU hW => ⟨rfl, trivial⟩⟩ rfl rfl hl.1 rfl (lv_room (Nat.le_of_ble_eq_true rfl)) dX0_linkAllBut_40 ⟨Nat.zero_le _, Nat.zero_le _⟩) hS (fun q _ h => h.elim) (fun q h => h.elim) (fun r1 u t H locs ht hvm hw hB hz1 hk1 hS => ?_)
        have hP := gc_keep hP hk1
        have hw : r1 = gB (gHas inf (nI i)) := hw
        subst hw
        clear hw
        clear hB hz1 hk1 ht hvm
        refine lv_if_eq (tgt := 88) hx hb dX0_linkAllBut_43 (by decide) (fun c_43 => ?_) (fun c_43 => ?_)
        · skip
          have c_43 := gB_f c_43
          refine lv_iinc (v := nI (i + 1)) (lv' := [(3, .int (nI (i + 1))), (0, .ref (h 0)), (1, .int left), (2, .ref (h 4))]) hx hb dX0_linkAllBut_88 hl (k := 0) rfl (nI_1 i) (by decide) rfl (fun ls hl => ?_)
          refine lv_goto (tgt := 22) hx hb dX0_linkAllBut_91 (by decide) ?_
          exact ihi H _ ls (by omega) ⟨fb, (by simp only [gLk, ← e_fb]; simp [gLk, c_32, c_43]), hP, hD, hS, lv_sub hl [0, 1, 2, 3] rfl⟩
        · skip
          have c_43 := gB_t c_43
          refine lv_aload_n hx hb dX0_linkAllBut_46 rfl (lv_at hl 1 rfl) ?_
          refine va_get (D := (dC, dI)) (ci := 0) (v := .ref (h 1)) (C := RX0) (T := TX0) (N := 10) hx hb hts hin0 hown hK hP 0 rfl rfl 0 (by decide) (hts (.fieldLink RX0 9 "GuestChairs" "firsts" "[I") (by decide +kernel)) (fun _ h9 => h9) rfl dX0_linkAllBut_47 ?_
          refine lv_iload_n hx hb dX0_linkAllBut_50 rfl (lv_at hl 0 rfl) ?_
          have hPc : va_P (dC, dI) vwCl ([((h 1), .inl ((kc 1), 30, .inl f1))]) _ := hP.sub [1] rfl
          have hKc : va_K (dC, dI) vwCl ([((kc 1), .int)]) s := hK.sub [0] rfl
          refine va_calli (va_runS (As := [.ref (h 1), .int (nI i)]) (rest := []) ⟨hx, hb, hml, hown, hts⟩ (c_X0_at l dC dI (h 1) (kc 1) 30 f1 (nI i) (by decide)) (va_cwS 2 hts gX0_linkAllBut_X0_at rfl rfl rfl (by decide +kernel) ⟨Nat.le_of_ble_eq_true rfl, Nat.le_of_ble_eq_true rfl⟩) ⟨gcPR_blind, fun U hU hW => ⟨rfl, by rw [hU]; exact hPc, va_K.moved hW.alike hKc⟩⟩ rfl rfl hl.1 rfl (lv_room (Nat.le_of_ble_eq_true rfl)) dX0_linkAllBut_51 ⟨Nat.zero_le _, Nat.zero_le _⟩) hS (fun q _ h => h.elim) (fun q h => h.elim) (fun r2 u t H locs ht hvm hw hB hz1 hk1 hS => ?_)
          have hP := gc_keep hP hk1
          have hw : r2 = gAt 30 f1 (nI i) := hw
          subst hw
          clear hw
          clear hB hz1 hk1 ht hvm
          clear hPc hKc
          refine lv_istore (lv' := [(4, .int (gAt 30 f1 (nI i))), (3, .int (nI i)), (0, .ref (h 0)), (1, .int left), (2, .ref (h 4))]) hx hb dX0_linkAllBut_54 hl (by decide) rfl (fun ls hl => ?_)
          refine lv_aload_n hx hb dX0_linkAllBut_56 rfl (lv_at hl 2 rfl) ?_
          refine va_get (D := (dC, dI)) (ci := 0) (v := .ref (h 2)) (C := RX0) (T := TX0) (N := 10) hx hb hts hin0 hown hK hP 0 rfl rfl 1 (by decide) (hts (.fieldLink RX0 13 "GuestChairs" "seconds" "[I") (by decide +kernel)) (fun _ h9 => h9) rfl dX0_linkAllBut_57 ?_
          refine lv_iload_n hx hb dX0_linkAllBut_60 rfl (lv_at hl 1 rfl) ?_
          have hPc : va_P (dC, dI) vwCl ([((h 2), .inl ((kc 2), 30, .inl f2))]) _ := hP.sub [2] rfl
          have hKc : va_K (dC, dI) vwCl ([((kc 2), .int)]) s := hK.sub [1] rfl
          refine va_calli (va_runS (As := [.ref (h 2), .int (nI i)]) (rest := []) ⟨hx, hb, hml, hown, hts⟩ (c_X0_at l dC dI (h 2) (kc 2) 30 f2 (nI i) (by decide)) (va_cwS 2 hts gX0_linkAllBut_X0_at rfl rfl rfl (by decide +kernel) ⟨Nat.le_of_ble_eq_true rfl, Nat.le_of_ble_eq_true rfl⟩) ⟨gcPR_blind, fun U hU hW => ⟨rfl, by rw [hU]; exact hPc, va_K.moved hW.alike hKc⟩⟩ rfl rfl hl.1 rfl (lv_room (Nat.le_of_ble_eq_true rfl)) dX0_linkAllBut_61 ⟨Nat.zero_le _, Nat.zero_le _⟩) hS (fun q _ h => h.elim) (fun q h => h.elim) (fun r3 u t H locs ht hvm hw hB hz1 hk1 hS => ?_)
          have hP := gc_keep hP hk1
          have hw : r3 = gAt 30 f2 (nI i) := hw
          subst hw
          clear hw
          clear hB hz1 hk1 ht hvm
          clear hPc hKc
          refine lv_istore (lv' := [(5, .int (gAt 30 f2 (nI i))), (4, .int (gAt 30 f1 (nI i))), (3, .int (nI i)), (0, .ref (h 0)), (1, .int left), (2, .ref (h 4))]) hx hb dX0_linkAllBut_64 hl (by decide) rfl (fun ls hl => ?_)
          refine lv_aload_n hx hb dX0_linkAllBut_66 rfl (lv_at hl 5 rfl) ?_
          refine lv_iload hx hb dX0_linkAllBut_67 (lv_at hl 1 rfl) ?_
          refine lv_iload hx hb dX0_linkAllBut_69 (lv_at hl 0 rfl) ?_
          have hPc : va_P (dC, dI) vwCl ([((h 4), .inl ((kc 4), 20, .inl fb))]) _ := hP.sub [4] rfl
          have hKc : va_K (dC, dI) vwCl ([((kc 4), .int)]) s := hK.sub [3] rfl
          have hDc : va_D A ([((h 4), .inl ((kc 4), 20, .inl fb))]) := hD.sub [4] (by decide) rfl
          have hFc := va_free (wc := ([((h 4), .inl ((kc 4), 20, .inl fb))])) hD hS hA [4] rfl
          refine va_callv (va_runS (As := [.ref (h 4), .int (gAt 30 f1 (nI i)), .int (gAt 30 f2 (nI i))]) (rest := []) ⟨hx, hb, hml, hown, hts⟩ (c_X0_link l dC dI (h 4) (kc 4) 20 fb (gAt 30 f1 (nI i)) (gAt 30 f2 (nI i)) H.size (by decide)) (va_cwS 3 hts gX0_linkAllBut_X0_link rfl rfl rfl (by decide +kernel) ⟨Nat.le_of_ble_eq_true rfl, Nat.le_of_ble_eq_true rfl⟩) ⟨gcPM_blind, fun U hU hW => ⟨rfl, by rw [hU], by rw [hU]; exact hPc, va_K.moved hW.alike hKc, hDc.weaken (fun _ _ _ _ => trivial)⟩⟩ rfl rfl hl.1 rfl (lv_room (Nat.le_of_ble_eq_true rfl)) dX0_linkAllBut_71 ⟨Nat.zero_le _, Nat.zero_le _⟩) hS (fun q _ h => hFc q h) hFc (fun u t H locs ht hvm hw hB hz1 hk1 hS => ?_)
          obtain ⟨hP1, hD1⟩ := hB
          rw [ht] at hP1
          obtain ⟨hP, hD⟩ := va_join (wr := [(h 0, .inr (0, [.ref (h 1), .ref (h 2), .ref (h 3), .ref (h 4), .ref (h 5), .ref (h 6), .int (nI g), .int (nI r), .int inf, .int (nI ct)])), (h 1, .inl (kc 1, 30, .inl f1)), (h 2, .inl (kc 2, 30, .inl f2)), (h 3, .inl (kc 3, 20, .inl dr)), (h 5, .inl (kc 5, 20, .inl tr)), (h 6, .inl (kc 6, 1024, .inl se))]) (w1 := ([((h 4), .inl ((kc 4), 20, .inl (gLink 20 fb (gAt 30 f1 (nI i)) (gAt 30 f2 (nI i)))))])) hP hD [4] [0, 1, 2, 3, 5, 6] rfl rfl (by decide) (by decide) hk1 hFc hP1 hD1
          have hP : va_P (dC, dI) vwCl (gcW h kc f1 f2 dr (gLink 20 fb (gAt 30 f1 (nI i)) (gAt 30 f2 (nI i))) tr se (nI g) (nI r) inf (nI ct)) H := hP.sub [0, 1, 2, 3, 6, 4, 5] rfl
          have hD : va_D A (gcW h kc f1 f2 dr (gLink 20 fb (gAt 30 f1 (nI i)) (gAt 30 f2 (nI i))) tr se (nI g) (nI r) inf (nI ct)) := hD.sub [0, 1, 2, 3, 6, 4, 5] (by decide) rfl
          clear hz1 hk1 ht hvm hP1 hD1 hFc hDc
          clear hPc hKc
          refine lv_aload_n hx hb dX0_linkAllBut_74 rfl (lv_at hl 5 rfl) ?_
          refine lv_iload hx hb dX0_linkAllBut_75 (lv_at hl 0 rfl) ?_
          refine va_calli (va_runS (As := [.int (gAt 30 f2 (nI i))]) (rest := [.ref (h 4)]) ⟨hx, hb, hml, hown, hts⟩ (c_X0_against l (gAt 30 f2 (nI i))) (va_cwS 1 hts gX0_linkAllBut_X0_against rfl rfl rfl (by decide +kernel) ⟨Nat.le_of_ble_eq_true rfl, Nat.le_of_ble_eq_true rfl⟩) ⟨fun a U g mk q => q, fun U hU hW => ⟨rfl, trivial⟩⟩ rfl rfl hl.1 rfl (lv_room (Nat.le_of_ble_eq_true rfl)) dX0_linkAllBut_77 ⟨Nat.zero_le _, Nat.zero_le _⟩) hS (fun q _ h => h.elim) (fun q h => h.elim) (fun r5 u t H locs ht hvm hw hB hz1 hk1 hS => ?_)
          have hP := gc_keep hP hk1
          have hw : r5 = ((gAt 30 f2 (nI i)) ^^^ 1) := hw
          subst hw
          clear hw
          clear hB hz1 hk1 ht hvm
          refine lv_iload hx hb dX0_linkAllBut_80 (lv_at hl 1 rfl) ?_
          refine va_calli (va_runS (As := [.int (gAt 30 f1 (nI i))]) (rest := [.int ((gAt 30 f2 (nI i)) ^^^ 1), .ref (h 4)]) ⟨hx, hb, hml, hown, hts⟩ (c_X0_against l (gAt 30 f1 (nI i))) (va_cwS 1 hts gX0_linkAllBut_X0_against rfl rfl rfl (by decide +kernel) ⟨Nat.le_of_ble_eq_true rfl, Nat.le_of_ble_eq_true rfl⟩) ⟨fun a U g mk q => q, fun U hU hW => ⟨rfl, trivial⟩⟩ rfl rfl hl.1 rfl (lv_room (Nat.le_of_ble_eq_true rfl)) dX0_linkAllBut_82 ⟨Nat.zero_le _, Nat.zero_le _⟩) hS (fun q _ h => h.elim) (fun q h => h.elim) (fun r6 u t H locs ht hvm hw hB hz1 hk1 hS => ?_)
          have hP := gc_keep hP hk1
          have hw : r6 = ((gAt 30 f1 (nI i)) ^^^ 1) := hw
          subst hw
          clear hw
          clear hB hz1 hk1 ht hvm
          have hPc : va_P (dC, dI) vwCl ([((h 4), .inl ((kc 4), 20, .inl (gLink 20 fb (gAt 30 f1 (nI i)) (gAt 30 f2 (nI i)))))]) _ := hP.sub [4] rfl
          have hKc : va_K (dC, dI) vwCl ([((kc 4), .int)]) s := hK.sub [3] rfl
          have hDc : va_D A ([((h 4), .inl ((kc 4), 20, .inl (gLink 20 fb (gAt 30 f1 (nI i)) (gAt 30 f2 (nI i)))))]) := hD.sub [4] (by decide) rfl
          have hFc := va_free (wc := ([((h 4), .inl ((kc 4), 20, .inl (gLink 20 fb (gAt 30 f1 (nI i)) (gAt 30 f2 (nI i)))))])) hD hS hA [4] rfl
          refine va_callv (va_runS (As := [.ref (h 4), .int ((gAt 30 f2 (nI i)) ^^^ 1), .int ((gAt 30 f1 (nI i)) ^^^ 1)]) (rest := []) ⟨hx, hb, hml, hown, hts⟩ (c_X0_link l dC dI (h 4) (kc 4) 20 (gLink 20 fb (gAt 30 f1 (nI i)) (gAt 30 f2 (nI i))) ((gAt 30 f2 (nI i)) ^^^ 1) ((gAt 30 f1 (nI i)) ^^^ 1) H.size (by decide)) (va_cwS 3 hts gX0_linkAllBut_X0_link rfl rfl rfl (by decide +kernel) ⟨Nat.le_of_ble_eq_true rfl, Nat.le_of_ble_eq_true rfl⟩) ⟨gcPM_blind, fun U hU hW => ⟨rfl, by rw [hU], by rw [hU]; exact hPc, va_K.moved hW.alike hKc, hDc.weaken (fun _ _ _ _ => trivial)⟩⟩ rfl rfl hl.1 rfl (lv_room (Nat.le_of_ble_eq_true rfl)) dX0_linkAllBut_85 ⟨Nat.zero_le _, Nat.zero_le _⟩) hS (fun q _ h => hFc q h) hFc (fun u t H locs ht hvm hw hB hz1 hk1 hS => ?_)
          obtain ⟨hP1, hD1⟩ := hB
          rw [ht] at hP1
          obtain ⟨hP, hD⟩ := va_join (wr := [(h 0, .inr (0, [.ref (h 1), .ref (h 2), .ref (h 3), .ref (h 4), .ref (h 5), .ref (h 6), .int (nI g), .int (nI r), .int inf, .int (nI ct)])), (h 1, .inl (kc 1, 30, .inl f1)), (h 2, .inl (kc 2, 30, .inl f2)), (h 3, .inl (kc 3, 20, .inl dr)), (h 5, .inl (kc 5, 20, .inl tr)), (h 6, .inl (kc 6, 1024, .inl se))]) (w1 := ([((h 4), .inl ((kc 4), 20, .inl (gLink 20 (gLink 20 fb (gAt 30 f1 (nI i)) (gAt 30 f2 (nI i))) ((gAt 30 f2 (nI i)) ^^^ 1) ((gAt 30 f1 (nI i)) ^^^ 1))))])) hP hD [4] [0, 1, 2, 3, 5, 6] rfl rfl (by decide) (by decide) hk1 hFc hP1 hD1
          have hP : va_P (dC, dI) vwCl (gcW h kc f1 f2 dr (gLink 20 (gLink 20 fb (gAt 30 f1 (nI i)) (gAt 30 f2 (nI i))) ((gAt 30 f2 (nI i)) ^^^ 1) ((gAt 30 f1 (nI i)) ^^^ 1)) tr se (nI g) (nI r) inf (nI ct)) H := hP.sub [0, 1, 2, 3, 6, 4, 5] rfl
          have hD : va_D A (gcW h kc f1 f2 dr (gLink 20 (gLink 20 fb (gAt 30 f1 (nI i)) (gAt 30 f2 (nI i))) ((gAt 30 f2 (nI i)) ^^^ 1) ((gAt 30 f1 (nI i)) ^^^ 1)) tr se (nI g) (nI r) inf (nI ct)) := hD.sub [0, 1, 2, 3, 6, 4, 5] (by decide) rfl
          clear hz1 hk1 ht hvm hP1 hD1 hFc hDc
          clear hPc hKc
          refine lv_iinc (v := nI (i + 1)) (lv' := [(3, .int (nI (i + 1))), (5, .int (gAt 30 f2 (nI i))), (4, .int (gAt 30 f1 (nI i))), (0, .ref (h 0)), (1, .int left), (2, .ref (h 4))]) hx hb dX0_linkAllBut_88 hl (k := 2) rfl (nI_1 i) (by decide) rfl (fun ls hl => ?_)
          refine lv_goto (tgt := 22) hx hb dX0_linkAllBut_91 (by decide) ?_
          exact ihi H _ ls (by omega) ⟨(gLink 20 (gLink 20 fb (gAt 30 f1 (nI i)) (gAt 30 f2 (nI i))) ((gAt 30 f2 (nI i)) ^^^ 1) ((gAt 30 f1 (nI i)) ^^^ 1)), (by simp only [gLk, ← e_fb]; simp [gLk, c_32, c_43]), hP, hD, hS, lv_sub hl [0, 3, 4, 5] rfl⟩
  · skip
    have hLa : a < 20 := gc_lt c_5 (by omega) (by omega)
    refine lv_aload_n hx hb dX0_linkAllBut_8 rfl (lv_at hl 3 rfl) ?_
    refine lv_iload_n hx hb dX0_linkAllBut_9 rfl (lv_at hl 0 rfl) ?_
    refine lv_iconst (v := 1) hx hb dX0_linkAllBut_10 (by decide) ?_
    refine lv_iload_n hx hb dX0_linkAllBut_11 rfl (lv_at hl 0 rfl) ?_
    refine lv_ishl hx hb dX0_linkAllBut_12 ?_
    refine va_iast hx hb hK hP hD hS 4 3 rfl rfl (vp_in_nI (n := a) (by omega) (by decide)) dX0_linkAllBut_13 (fun H locs hP hD hS => ?_)
    rw [nI_clamp (n := a) (by omega)] at hP hD
    have hP : va_P (dC, dI) vwCl (gcW h kc f1 f2 dr (upd fa a ((1 : Int32) <<< (nI a &&& 31))) tr se (nI g) (nI r) inf (nI ct)) H := hP
    have hD : va_D A (gcW h kc f1 f2 dr (upd fa a ((1 : Int32) <<< (nI a &&& 31))) tr se (nI g) (nI r) inf (nI ct)) := hD
    refine lv_iinc (v := nI (a + 1)) (lv' := [(3, .int (nI (a + 1))), (0, .ref (h 0)), (1, .int left), (2, .ref (h 4))]) hx hb dX0_linkAllBut_14 hl (k := 0) rfl (nI_1 a) (by decide) rfl (fun ls hl => ?_)
    refine lv_goto (tgt := 2) hx hb dX0_linkAllBut_17 (by decide) ?_
    exact iha H _ ls (by omega) ⟨(upd fa a ((1 : Int32) <<< (nI a &&& 31))), (by rw [e_fa]; rfl), hP, hD, hS, lv_sub hl [0, 1, 2, 3] rfl⟩
set_option maxHeartbeats 4000000 in
set_option maxRecDepth 100000 in
theorem c_X0_linkAllBut_tr (l : Launch) (dC : Nat → ClassId) (dI : Nat → Nat → Nat) (h : Nat → Nat) (kc : Nat → ClassId) (f1 : Nat → Int32) (f2 : Nat → Int32) (dr : Nat → Int32) (cl : Nat → Int32) (tr : Nat → Int32) (se : Nat → Int32) (g : Nat) (r : Nat) (inf : Int32) (ct : Nat) (left : Int32) (sz : Nat) (hr30 : r ≤ 30) : Met l yX0_linkAllBut wsX0_linkAllBut ({ frames := 2, cells := 0, slots := 0, locals := 44 }) (gcPM (dC, dI) [.ref (h 0), .int left, .ref (h 5)] (gcW h kc f1 f2 dr cl tr se (nI g) (nI r) inf (nI ct)) (gcT kc) sz) (va_Qv (fun (_u : Unit) => True) (fun _u t => va_P (dC, dI) vwCl (gcW h kc f1 f2 dr cl (gLA f1 f2 inf left r tr) se (nI g) (nI r) inf (nI ct)) t.heap ∧ va_D (va_A (gcW h kc f1 f2 dr cl tr se (nI g) (nI r) inf (nI ct)) sz) (gcW h kc f1 f2 dr cl (gLA f1 f2 inf left r tr) se (nI g) (nI r) inf (nI ct))) (va_A (gcW h kc f1 f2 dr cl tr se (nI g) (nI r) inf (nI ct)) sz)) 0 0 (va_A (gcW h kc f1 f2 dr cl tr se (nI g) (nI r) inf (nI ct)) sz) := by
  refine Met.ofW (cc := cX0_linkAllBut) (maxL := 6) (ret := none) (by decide) rfl ?_
  intro p e s m args below meth c s₁ B hml hv
  obtain ⟨rfl, hsz, hP, hK, hD0⟩ := hv
  have hx := B.exec
  have hb := B.bytes
  have hr := B.returns
  have hts := atoms_spec (ws := wsX0_linkAllBut) B.pre
  have hown : s.vm.findClass RX0 = some m.cls := findClass_of_methodNamed B.named
  have hlocks := B.notSynchronized
  subst hsz
  have hD := hD0.self (sz := s.heap.size)
  generalize hAe : va_A (gcW h kc f1 f2 dr cl tr se (nI g) (nI r) inf (nI ct)) s.heap.size = A at hD ⊢
  have hA : ∀ q : Nat, s.heap.size ≤ q → A q := fun q h => by rw [← hAe]; exact Or.inr h
  have hS : va_S A s.heap s.heap [] := va_S.rf
  have hP : va_P (dC, dI) vwCl (gcW h kc f1 f2 dr cl tr se (nI g) (nI r) inf (nI ct)) s.heap := hP
  have hin0 : ∀ w ∈ wsX00, w ∈ wsX0_linkAllBut := by decide +kernel
  have hl := lv_entry [.ref (h 0), .int left, .ref (h 5)] (n := 6) (Nat.le_of_ble_eq_true rfl)
  rw [lg_entry_eq]
  generalize (lg_sl [.ref (h 0), .int left, .ref (h 5)] ++ List.replicate (6 - (lg_sl [.ref (h 0), .int left, .ref (h 5)]).length) Slot.unset).toArray = ls at hl ⊢
  have hl : lv_has ls 6 [(0, .ref (h 0)), (1, .int left), (2, .ref (h 5))] := hl
  refine lv_iconst (v := 0) hx hb dX0_linkAllBut_0 (by decide) ?_
  refine lv_istore_n (lv' := [(3, .int 0), (0, .ref (h 0)), (1, .int left), (2, .ref (h 5))]) hx hb dX0_linkAllBut_1 rfl hl (by decide) rfl (fun ls hl => ?_)
  refine gc_loop (20) (fun (a : Nat) (H : Heap) (locs : List Loc) (ls : Array Slot) => ∃ (fa : Nat → Int32), fa = gIn tr a ∧ va_P (dC, dI) vwCl (gcW h kc f1 f2 dr cl fa se (nI g) (nI r) inf (nI ct)) H ∧ va_D A (gcW h kc f1 f2 dr cl fa se (nI g) (nI r) inf (nI ct)) ∧ va_S A s.heap H locs ∧ lv_has ls 6 [(3, .int (nI a)), (0, .ref (h 0)), (1, .int left), (2, .ref (h 5))]) 0 (Nat.zero_le _) ⟨tr, (by first | rfl | assumption | omega), hP, hD, hS, lv_sub hl [0, 1, 2, 3] rfl⟩ ?_
  intro a H locs ls ha hI iha
  obtain ⟨fa, e_fa, hP, hD, hS, hl⟩ := hI
  refine lv_iload_n hx hb dX0_linkAllBut_2 rfl (lv_at hl 0 rfl) ?_
  refine lv_aload_n hx hb dX0_linkAllBut_3 rfl (lv_at hl 3 rfl) ?_
  refine va_alen hx hb hK hP 5 4 rfl rfl (v := nI 20) rfl dX0_linkAllBut_4 ?_
  refine lv_icmp_ge (tgt := 20) hx hb dX0_linkAllBut_5 (by decide) (fun c_5 => ?_) (fun c_5 => ?_)
  · skip
    have hEa : a = 20 := gc_ge c_5 (by omega) (by omega)
    refine lv_iconst (v := 0) hx hb dX0_linkAllBut_20 (by decide) ?_
    refine lv_istore_n (lv' := [(3, .int 0), (0, .ref (h 0)), (1, .int left), (2, .ref (h 5))]) hx hb dX0_linkAllBut_21 rfl hl (by decide) rfl (fun ls hl => ?_)
    refine gc_loop (r) (fun (i : Nat) (H : Heap) (locs : List Loc) (ls : Array Slot) => ∃ (fb : Nat → Int32), fb = gLk f1 f2 inf left (gIn tr 20) i ∧ va_P (dC, dI) vwCl (gcW h kc f1 f2 dr cl fb se (nI g) (nI r) inf (nI ct)) H ∧ va_D A (gcW h kc f1 f2 dr cl fb se (nI g) (nI r) inf (nI ct)) ∧ va_S A s.heap H locs ∧ lv_has ls 6 [(3, .int (nI i)), (0, .ref (h 0)), (1, .int left), (2, .ref (h 5))]) 0 (Nat.zero_le _) ⟨fa, (by rw [e_fa, hEa]; rfl), hP, hD, hS, lv_sub hl [0, 1, 2, 3] rfl⟩ ?_
    intro i H locs ls hi hI ihi
    obtain ⟨fb, e_fb, hP, hD, hS, hl⟩ := hI
    refine lv_iload_n hx hb dX0_linkAllBut_22 rfl (lv_at hl 0 rfl) ?_
    refine lv_aload_n hx hb dX0_linkAllBut_23 rfl (lv_at hl 1 rfl) ?_
    refine va_get (D := (dC, dI)) (ci := 0) (v := .int (nI r)) (C := RX0) (T := TX0) (N := 10) hx hb hts hin0 hown hK hP 0 rfl rfl 7 (by decide) (hts (.fieldLink RX0 51 "GuestChairs" "ruleCount" "I") (by decide +kernel)) (fun _ h9 => h9) rfl dX0_linkAllBut_24 ?_
    refine lv_icmp_ge (tgt := 94) hx hb dX0_linkAllBut_27 (by decide) (fun c_27 => ?_) (fun c_27 => ?_)
    · skip
      have hEi : i = r := gc_ge c_27 (by omega) (by omega)
      have hWe : ((gcW h kc f1 f2 dr cl fb se (nI g) (nI r) inf (nI ct)) : va_W) = (gcW h kc f1 f2 dr cl (gLA f1 f2 inf left r tr) se (nI g) (nI r) inf (nI ct)) := by rw [e_fb, hEi]; rfl
      rw [hWe] at hP hD
      exact W.vret hx hb hr (fun t ht hW => ⟨⟨(), rfl, trivial, ⟨by rw [ht]; exact hP, hD⟩⟩, hS.F ht⟩) hS.2.2 dX0_linkAllBut_94
    · skip
      have hLi : i < r := gc_lt c_27 (by omega) (by omega)
      refine lv_iload_n hx hb dX0_linkAllBut_30 rfl (lv_at hl 0 rfl) ?_
      refine lv_iload_n hx hb dX0_linkAllBut_31 rfl (lv_at hl 2 rfl) ?_
      refine lv_icmp_eq (tgt := 88) hx hb dX0_linkAllBut_32 (by decide) (fun c_32 => ?_) (fun c_32 => ?_)
      · skip
        refine lv_iinc (v := nI (i + 1)) (lv' := [(3, .int (nI (i + 1))), (0, .ref (h 0)), (1, .int left), (2, .ref (h 5))]) hx hb dX0_linkAllBut_88 hl (k := 0) rfl (nI_1 i) (by decide) rfl (fun ls hl => ?_)
        refine lv_goto (tgt := 22) hx hb dX0_linkAllBut_91 (by decide) ?_
        exact ihi H _ ls (by omega) ⟨fb, (by simp only [gLk, ← e_fb]; simp [gLk, c_32]), hP, hD, hS, lv_sub hl [0, 1, 2, 3] rfl⟩
      · skip
        refine lv_aload_n hx hb dX0_linkAllBut_35 rfl (lv_at hl 1 rfl) ?_
        refine va_get (D := (dC, dI)) (ci := 0) (v := .int inf) (C := RX0) (T := TX0) (N := 10) hx hb hts hin0 hown hK hP 0 rfl rfl 8 (by decide) (hts (.fieldLink RX0 60 "GuestChairs" "inForce" "I") (by decide +kernel)) (fun _ h9 => h9) rfl dX0_linkAllBut_36 ?_
        refine lv_iload_n hx hb dX0_linkAllBut_39 rfl (lv_at hl 0 rfl) ?_
        refine va_calli (va_runS (As := [.int inf, .int (nI i)]) (rest := []) ⟨hx, hb, hml, hown, hts⟩ (c_X0_has l inf (nI i)) (va_cwS 2 hts gX0_linkAllBut_X0_has rfl rfl rfl (by decide +kernel) ⟨Nat.le_of_ble_eq_true rfl, Nat.le_of_ble_eq_true rfl⟩) ⟨fun a U g mk q => q, fun U hU hW => ⟨rfl, trivial⟩⟩ rfl rfl hl.1 rfl (lv_room (Nat.le_of_ble_eq_true rfl)) dX0_linkAllBut_40 ⟨Nat.zero_le _, Nat.zero_le _⟩) hS (fun q _ h => h.elim) (fun q h => h.elim) (fun r1 u t H locs ht hvm hw hB hz1 hk1 hS => ?_)
        have hP := gc_keep hP hk1
        have hw : r1 = gB (gHas inf (nI i)) := hw
        subst hw
        clear hw
        clear hB hz1 hk1 ht hvm
        refine lv_if_eq (tgt := 88) hx hb dX0_linkAllBut_43 (by decide) (fun c_43 => ?_) (fun c_43 => ?_)
        · skip
          have c_43 := gB_f c_43
          refine lv_iinc (v := nI (i + 1)) (lv' := [(3, .int (nI (i + 1))), (0, .ref (h 0)), (1, .int left), (2, .ref (h 5))]) hx hb dX0_linkAllBut_88 hl (k := 0) rfl (nI_1 i) (by decide) rfl (fun ls hl => ?_)
          refine lv_goto (tgt := 22) hx hb dX0_linkAllBut_91 (by decide) ?_
          exact ihi H _ ls (by omega) ⟨fb, (by simp only [gLk, ← e_fb]; simp [gLk, c_32, c_43]), hP, hD, hS, lv_sub hl [0, 1, 2, 3] rfl⟩
        · skip
          have c_43 := gB_t c_43
          refine lv_aload_n hx hb dX0_linkAllBut_46 rfl (lv_at hl 1 rfl) ?_
          refine va_get (D := (dC, dI)) (ci := 0) (v := .ref (h 1)) (C := RX0) (T := TX0) (N := 10) hx hb hts hin0 hown hK hP 0 rfl rfl 0 (by decide) (hts (.fieldLink RX0 9 "GuestChairs" "firsts" "[I") (by decide +kernel)) (fun _ h9 => h9) rfl dX0_linkAllBut_47 ?_
          refine lv_iload_n hx hb dX0_linkAllBut_50 rfl (lv_at hl 0 rfl) ?_
          have hPc : va_P (dC, dI) vwCl ([((h 1), .inl ((kc 1), 30, .inl f1))]) _ := hP.sub [1] rfl
          have hKc : va_K (dC, dI) vwCl ([((kc 1), .int)]) s := hK.sub [0] rfl
          refine va_calli (va_runS (As := [.ref (h 1), .int (nI i)]) (rest := []) ⟨hx, hb, hml, hown, hts⟩ (c_X0_at l dC dI (h 1) (kc 1) 30 f1 (nI i) (by decide)) (va_cwS 2 hts gX0_linkAllBut_X0_at rfl rfl rfl (by decide +kernel) ⟨Nat.le_of_ble_eq_true rfl, Nat.le_of_ble_eq_true rfl⟩) ⟨gcPR_blind, fun U hU hW => ⟨rfl, by rw [hU]; exact hPc, va_K.moved hW.alike hKc⟩⟩ rfl rfl hl.1 rfl (lv_room (Nat.le_of_ble_eq_true rfl)) dX0_linkAllBut_51 ⟨Nat.zero_le _, Nat.zero_le _⟩) hS (fun q _ h => h.elim) (fun q h => h.elim) (fun r2 u t H locs ht hvm hw hB hz1 hk1 hS => ?_)
          have hP := gc_keep hP hk1
          have hw : r2 = gAt 30 f1 (nI i) := hw
          subst hw
          clear hw
          clear hB hz1 hk1 ht hvm
          clear hPc hKc
          refine lv_istore (lv' := [(4, .int (gAt 30 f1 (nI i))), (3, .int (nI i)), (0, .ref (h 0)), (1, .int left), (2, .ref (h 5))]) hx hb dX0_linkAllBut_54 hl (by decide) rfl (fun ls hl => ?_)
          refine lv_aload_n hx hb dX0_linkAllBut_56 rfl (lv_at hl 2 rfl) ?_
          refine va_get (D := (dC, dI)) (ci := 0) (v := .ref (h 2)) (C := RX0) (T := TX0) (N := 10) hx hb hts hin0 hown hK hP 0 rfl rfl 1 (by decide) (hts (.fieldLink RX0 13 "GuestChairs" "seconds" "[I") (by decide +kernel)) (fun _ h9 => h9) rfl dX0_linkAllBut_57 ?_
          refine lv_iload_n hx hb dX0_linkAllBut_60 rfl (lv_at hl 1 rfl) ?_
          have hPc : va_P (dC, dI) vwCl ([((h 2), .inl ((kc 2), 30, .inl f2))]) _ := hP.sub [2] rfl
          have hKc : va_K (dC, dI) vwCl ([((kc 2), .int)]) s := hK.sub [1] rfl
          refine va_calli (va_runS (As := [.ref (h 2), .int (nI i)]) (rest := []) ⟨hx, hb, hml, hown, hts⟩ (c_X0_at l dC dI (h 2) (kc 2) 30 f2 (nI i) (by decide)) (va_cwS 2 hts gX0_linkAllBut_X0_at rfl rfl rfl (by decide +kernel) ⟨Nat.le_of_ble_eq_true rfl, Nat.le_of_ble_eq_true rfl⟩) ⟨gcPR_blind, fun U hU hW => ⟨rfl, by rw [hU]; exact hPc, va_K.moved hW.alike hKc⟩⟩ rfl rfl hl.1 rfl (lv_room (Nat.le_of_ble_eq_true rfl)) dX0_linkAllBut_61 ⟨Nat.zero_le _, Nat.zero_le _⟩) hS (fun q _ h => h.elim) (fun q h => h.elim) (fun r3 u t H locs ht hvm hw hB hz1 hk1 hS => ?_)
          have hP := gc_keep hP hk1
          have hw : r3 = gAt 30 f2 (nI i) := hw
          subst hw
          clear hw
          clear hB hz1 hk1 ht hvm
          clear hPc hKc
          refine lv_istore (lv' := [(5, .int (gAt 30 f2 (nI i))), (4, .int (gAt 30 f1 (nI i))), (3, .int (nI i)), (0, .ref (h 0)), (1, .int left), (2, .ref (h 5))]) hx hb dX0_linkAllBut_64 hl (by decide) rfl (fun ls hl => ?_)
          refine lv_aload_n hx hb dX0_linkAllBut_66 rfl (lv_at hl 5 rfl) ?_
          refine lv_iload hx hb dX0_linkAllBut_67 (lv_at hl 1 rfl) ?_
          refine lv_iload hx hb dX0_linkAllBut_69 (lv_at hl 0 rfl) ?_
          have hPc : va_P (dC, dI) vwCl ([((h 5), .inl ((kc 5), 20, .inl fb))]) _ := hP.sub [5] rfl
          have hKc : va_K (dC, dI) vwCl ([((kc 5), .int)]) s := hK.sub [4] rfl
          have hDc : va_D A ([((h 5), .inl ((kc 5), 20, .inl fb))]) := hD.sub [5] (by decide) rfl
          have hFc := va_free (wc := ([((h 5), .inl ((kc 5), 20, .inl fb))])) hD hS hA [5] rfl
          refine va_callv (va_runS (As := [.ref (h 5), .int (gAt 30 f1 (nI i)), .int (gAt 30 f2 (nI i))]) (rest := []) ⟨hx, hb, hml, hown, hts⟩ (c_X0_link l dC dI (h 5) (kc 5) 20 fb (gAt 30 f1 (nI i)) (gAt 30 f2 (nI i)) H.size (by decide)) (va_cwS 3 hts gX0_linkAllBut_X0_link rfl rfl rfl (by decide +kernel) ⟨Nat.le_of_ble_eq_true rfl, Nat.le_of_ble_eq_true rfl⟩) ⟨gcPM_blind, fun U hU hW => ⟨rfl, by rw [hU], by rw [hU]; exact hPc, va_K.moved hW.alike hKc, hDc.weaken (fun _ _ _ _ => trivial)⟩⟩ rfl rfl hl.1 rfl (lv_room (Nat.le_of_ble_eq_true rfl)) dX0_linkAllBut_71 ⟨Nat.zero_le _, Nat.zero_le _⟩) hS (fun q _ h => hFc q h) hFc (fun u t H locs ht hvm hw hB hz1 hk1 hS => ?_)
          obtain ⟨hP1, hD1⟩ := hB
          rw [ht] at hP1
          obtain ⟨hP, hD⟩ := va_join (wr := [(h 0, .inr (0, [.ref (h 1), .ref (h 2), .ref (h 3), .ref (h 4), .ref (h 5), .ref (h 6), .int (nI g), .int (nI r), .int inf, .int (nI ct)])), (h 1, .inl (kc 1, 30, .inl f1)), (h 2, .inl (kc 2, 30, .inl f2)), (h 3, .inl (kc 3, 20, .inl dr)), (h 4, .inl (kc 4, 20, .inl cl)), (h 6, .inl (kc 6, 1024, .inl se))]) (w1 := ([((h 5), .inl ((kc 5), 20, .inl (gLink 20 fb (gAt 30 f1 (nI i)) (gAt 30 f2 (nI i)))))])) hP hD [5] [0, 1, 2, 3, 4, 6] rfl rfl (by decide) (by decide) hk1 hFc hP1 hD1
          have hP : va_P (dC, dI) vwCl (gcW h kc f1 f2 dr cl (gLink 20 fb (gAt 30 f1 (nI i)) (gAt 30 f2 (nI i))) se (nI g) (nI r) inf (nI ct)) H := hP.sub [0, 1, 2, 3, 4, 6, 5] rfl
          have hD : va_D A (gcW h kc f1 f2 dr cl (gLink 20 fb (gAt 30 f1 (nI i)) (gAt 30 f2 (nI i))) se (nI g) (nI r) inf (nI ct)) := hD.sub [0, 1, 2, 3, 4, 6, 5] (by decide) rfl
          clear hz1 hk1 ht hvm hP1 hD1 hFc hDc
          clear hPc hKc
          refine lv_aload_n hx hb dX0_linkAllBut_74 rfl (lv_at hl 5 rfl) ?_
          refine lv_iload hx hb dX0_linkAllBut_75 (lv_at hl 0 rfl) ?_
          refine va_calli (va_runS (As := [.int (gAt 30 f2 (nI i))]) (rest := [.ref (h 5)]) ⟨hx, hb, hml, hown, hts⟩ (c_X0_against l (gAt 30 f2 (nI i))) (va_cwS 1 hts gX0_linkAllBut_X0_against rfl rfl rfl (by decide +kernel) ⟨Nat.le_of_ble_eq_true rfl, Nat.le_of_ble_eq_true rfl⟩) ⟨fun a U g mk q => q, fun U hU hW => ⟨rfl, trivial⟩⟩ rfl rfl hl.1 rfl (lv_room (Nat.le_of_ble_eq_true rfl)) dX0_linkAllBut_77 ⟨Nat.zero_le _, Nat.zero_le _⟩) hS (fun q _ h => h.elim) (fun q h => h.elim) (fun r5 u t H locs ht hvm hw hB hz1 hk1 hS => ?_)
          have hP := gc_keep hP hk1
          have hw : r5 = ((gAt 30 f2 (nI i)) ^^^ 1) := hw
          subst hw
          clear hw
          clear hB hz1 hk1 ht hvm
          refine lv_iload hx hb dX0_linkAllBut_80 (lv_at hl 1 rfl) ?_
          refine va_calli (va_runS (As := [.int (gAt 30 f1 (nI i))]) (rest := [.int ((gAt 30 f2 (nI i)) ^^^ 1), .ref (h 5)]) ⟨hx, hb, hml, hown, hts⟩ (c_X0_against l (gAt 30 f1 (nI i))) (va_cwS 1 hts gX0_linkAllBut_X0_against rfl rfl rfl (by decide +kernel) ⟨Nat.le_of_ble_eq_true rfl, Nat.le_of_ble_eq_true rfl⟩) ⟨fun a U g mk q => q, fun U hU hW => ⟨rfl, trivial⟩⟩ rfl rfl hl.1 rfl (lv_room (Nat.le_of_ble_eq_true rfl)) dX0_linkAllBut_82 ⟨Nat.zero_le _, Nat.zero_le _⟩) hS (fun q _ h => h.elim) (fun q h => h.elim) (fun r6 u t H locs ht hvm hw hB hz1 hk1 hS => ?_)
          have hP := gc_keep hP hk1
          have hw : r6 = ((gAt 30 f1 (nI i)) ^^^ 1) := hw
          subst hw
          clear hw
          clear hB hz1 hk1 ht hvm
          have hPc : va_P (dC, dI) vwCl ([((h 5), .inl ((kc 5), 20, .inl (gLink 20 fb (gAt 30 f1 (nI i)) (gAt 30 f2 (nI i)))))]) _ := hP.sub [5] rfl
          have hKc : va_K (dC, dI) vwCl ([((kc 5), .int)]) s := hK.sub [4] rfl
          have hDc : va_D A ([((h 5), .inl ((kc 5), 20, .inl (gLink 20 fb (gAt 30 f1 (nI i)) (gAt 30 f2 (nI i)))))]) := hD.sub [5] (by decide) rfl
          have hFc := va_free (wc := ([((h 5), .inl ((kc 5), 20, .inl (gLink 20 fb (gAt 30 f1 (nI i)) (gAt 30 f2 (nI i)))))])) hD hS hA [5] rfl
          refine va_callv (va_runS (As := [.ref (h 5), .int ((gAt 30 f2 (nI i)) ^^^ 1), .int ((gAt 30 f1 (nI i)) ^^^ 1)]) (rest := []) ⟨hx, hb, hml, hown, hts⟩ (c_X0_link l dC dI (h 5) (kc 5) 20 (gLink 20 fb (gAt 30 f1 (nI i)) (gAt 30 f2 (nI i))) ((gAt 30 f2 (nI i)) ^^^ 1) ((gAt 30 f1 (nI i)) ^^^ 1) H.size (by decide)) (va_cwS 3 hts gX0_linkAllBut_X0_link rfl rfl rfl (by decide +kernel) ⟨Nat.le_of_ble_eq_true rfl, Nat.le_of_ble_eq_true rfl⟩) ⟨gcPM_blind, fun U hU hW => ⟨rfl, by rw [hU], by rw [hU]; exact hPc, va_K.moved hW.alike hKc, hDc.weaken (fun _ _ _ _ => trivial)⟩⟩ rfl rfl hl.1 rfl (lv_room (Nat.le_of_ble_eq_true rfl)) dX0_linkAllBut_85 ⟨Nat.zero_le _, Nat.zero_le _⟩) hS (fun q _ h => hFc q h) hFc (fun u t H locs ht hvm hw hB hz1 hk1 hS => ?_)
          obtain ⟨hP1, hD1⟩ := hB
          rw [ht] at hP1
          obtain ⟨hP, hD⟩ := va_join (wr := [(h 0, .inr (0, [.ref (h 1), .ref (h 2), .ref (h 3), .ref (h 4), .ref (h 5), .ref (h 6), .int (nI g), .int (nI r), .int inf, .int (nI ct)])), (h 1, .inl (kc 1, 30, .inl f1)), (h 2, .inl (kc 2, 30, .inl f2)), (h 3, .inl (kc 3, 20, .inl dr)), (h 4, .inl (kc 4, 20, .inl cl)), (h 6, .inl (kc 6, 1024, .inl se))]) (w1 := ([((h 5), .inl ((kc 5), 20, .inl (gLink 20 (gLink 20 fb (gAt 30 f1 (nI i)) (gAt 30 f2 (nI i))) ((gAt 30 f2 (nI i)) ^^^ 1) ((gAt 30 f1 (nI i)) ^^^ 1))))])) hP hD [5] [0, 1, 2, 3, 4, 6] rfl rfl (by decide) (by decide) hk1 hFc hP1 hD1
          have hP : va_P (dC, dI) vwCl (gcW h kc f1 f2 dr cl (gLink 20 (gLink 20 fb (gAt 30 f1 (nI i)) (gAt 30 f2 (nI i))) ((gAt 30 f2 (nI i)) ^^^ 1) ((gAt 30 f1 (nI i)) ^^^ 1)) se (nI g) (nI r) inf (nI ct)) H := hP.sub [0, 1, 2, 3, 4, 6, 5] rfl
          have hD : va_D A (gcW h kc f1 f2 dr cl (gLink 20 (gLink 20 fb (gAt 30 f1 (nI i)) (gAt 30 f2 (nI i))) ((gAt 30 f2 (nI i)) ^^^ 1) ((gAt 30 f1 (nI i)) ^^^ 1)) se (nI g) (nI r) inf (nI ct)) := hD.sub [0, 1, 2, 3, 4, 6, 5] (by decide) rfl
          clear hz1 hk1 ht hvm hP1 hD1 hFc hDc
          clear hPc hKc
          refine lv_iinc (v := nI (i + 1)) (lv' := [(3, .int (nI (i + 1))), (5, .int (gAt 30 f2 (nI i))), (4, .int (gAt 30 f1 (nI i))), (0, .ref (h 0)), (1, .int left), (2, .ref (h 5))]) hx hb dX0_linkAllBut_88 hl (k := 2) rfl (nI_1 i) (by decide) rfl (fun ls hl => ?_)
          refine lv_goto (tgt := 22) hx hb dX0_linkAllBut_91 (by decide) ?_
          exact ihi H _ ls (by omega) ⟨(gLink 20 (gLink 20 fb (gAt 30 f1 (nI i)) (gAt 30 f2 (nI i))) ((gAt 30 f2 (nI i)) ^^^ 1) ((gAt 30 f1 (nI i)) ^^^ 1)), (by simp only [gLk, ← e_fb]; simp [gLk, c_32, c_43]), hP, hD, hS, lv_sub hl [0, 3, 4, 5] rfl⟩
  · skip
    have hLa : a < 20 := gc_lt c_5 (by omega) (by omega)
    refine lv_aload_n hx hb dX0_linkAllBut_8 rfl (lv_at hl 3 rfl) ?_
    refine lv_iload_n hx hb dX0_linkAllBut_9 rfl (lv_at hl 0 rfl) ?_
    refine lv_iconst (v := 1) hx hb dX0_linkAllBut_10 (by decide) ?_
    refine lv_iload_n hx hb dX0_linkAllBut_11 rfl (lv_at hl 0 rfl) ?_
    refine lv_ishl hx hb dX0_linkAllBut_12 ?_
    refine va_iast hx hb hK hP hD hS 5 4 rfl rfl (vp_in_nI (n := a) (by omega) (by decide)) dX0_linkAllBut_13 (fun H locs hP hD hS => ?_)
    rw [nI_clamp (n := a) (by omega)] at hP hD
    have hP : va_P (dC, dI) vwCl (gcW h kc f1 f2 dr cl (upd fa a ((1 : Int32) <<< (nI a &&& 31))) se (nI g) (nI r) inf (nI ct)) H := hP
    have hD : va_D A (gcW h kc f1 f2 dr cl (upd fa a ((1 : Int32) <<< (nI a &&& 31))) se (nI g) (nI r) inf (nI ct)) := hD
    refine lv_iinc (v := nI (a + 1)) (lv' := [(3, .int (nI (a + 1))), (0, .ref (h 0)), (1, .int left), (2, .ref (h 5))]) hx hb dX0_linkAllBut_14 hl (k := 0) rfl (nI_1 a) (by decide) rfl (fun ls hl => ?_)
    refine lv_goto (tgt := 2) hx hb dX0_linkAllBut_17 (by decide) ?_
    exact iha H _ ls (by omega) ⟨(upd fa a ((1 : Int32) <<< (nI a &&& 31))), (by rw [e_fa]; rfl), hP, hD, hS, lv_sub hl [0, 1, 2, 3] rfl⟩
end
section
set_option maxHeartbeats 4000000 in
set_option maxRecDepth 100000 in
theorem c_X0_settle (l : Launch) (dC : Nat → ClassId) (dI : Nat → Nat → Nat) (h : Nat → Nat) (kc : Nat → ClassId) (f1 : Nat → Int32) (f2 : Nat → Int32) (dr : Nat → Int32) (cl : Nat → Int32) (tr : Nat → Int32) (se : Nat → Int32) (g : Nat) (r : Nat) (inf : Int32) (ct : Nat) (co : Int32) (sz : Nat) (hc : ct ≤ 1024) : Met l yX0_settle wsX0_settle ({ frames := 2, cells := 0, slots := 0, locals := 42 }) (gcPM (dC, dI) [.ref (h 0), .int co] (gcW h kc f1 f2 dr cl tr se (nI g) (nI r) inf (nI ct)) (gcT kc) sz) (va_Qv (fun (_u : Unit) => True) (fun _u t => va_P (dC, dI) vwCl (gcW h kc f1 f2 dr cl tr ((gSt cl co se ct ct).1) (nI g) (nI r) inf (nI (gSt cl co se ct ct).2)) t.heap ∧ va_D (va_A (gcW h kc f1 f2 dr cl tr se (nI g) (nI r) inf (nI ct)) sz) (gcW h kc f1 f2 dr cl tr ((gSt cl co se ct ct).1) (nI g) (nI r) inf (nI (gSt cl co se ct ct).2))) (va_A (gcW h kc f1 f2 dr cl tr se (nI g) (nI r) inf (nI ct)) sz)) 0 0 (va_A (gcW h kc f1 f2 dr cl tr se (nI g) (nI r) inf (nI ct)) sz) := by
  refine Met.ofW (cc := cX0_settle) (maxL := 6) (ret := none) (by decide) rfl ?_
  intro p e s m args below meth c s₁ B hml hv
  obtain ⟨rfl, hsz, hP, hK, hD0⟩ := hv
  have hx := B.exec
  have hb := B.bytes
  have hr := B.returns
  have hts := atoms_spec (ws := wsX0_settle) B.pre
  have hown : s.vm.findClass RX0 = some m.cls := findClass_of_methodNamed B.named
  have hlocks := B.notSynchronized
  subst hsz
  have hD := hD0.self (sz := s.heap.size)
  generalize hAe : va_A (gcW h kc f1 f2 dr cl tr se (nI g) (nI r) inf (nI ct)) s.heap.size = A at hD ⊢
  have hA : ∀ q : Nat, s.heap.size ≤ q → A q := fun q h => by rw [← hAe]; exact Or.inr h
  have hS : va_S A s.heap s.heap [] := va_S.rf
  have hP : va_P (dC, dI) vwCl (gcW h kc f1 f2 dr cl tr se (nI g) (nI r) inf (nI ct)) s.heap := hP
  have hin0 : ∀ w ∈ wsX00, w ∈ wsX0_settle := by decide +kernel
  have hl := lv_entry [.ref (h 0), .int co] (n := 6) (Nat.le_of_ble_eq_true rfl)
  rw [lg_entry_eq]
  generalize (lg_sl [.ref (h 0), .int co] ++ List.replicate (6 - (lg_sl [.ref (h 0), .int co]).length) Slot.unset).toArray = ls at hl ⊢
  have hl : lv_has ls 6 [(0, .ref (h 0)), (1, .int co)] := hl
  refine lv_iload_n hx hb dX0_settle_0 rfl (lv_at hl 1 rfl) ?_
  refine va_calli (va_runS (As := [.int co]) (rest := []) ⟨hx, hb, hml, hown, hts⟩ (c_X0_against l co) (va_cwS 1 hts gX0_settle_X0_against rfl rfl rfl (by decide +kernel) ⟨Nat.le_of_ble_eq_true rfl, Nat.le_of_ble_eq_true rfl⟩) ⟨fun a U g mk q => q, fun U hU hW => ⟨rfl, trivial⟩⟩ rfl rfl hl.1 rfl (lv_room (Nat.le_of_ble_eq_true rfl)) dX0_settle_1 ⟨Nat.zero_le _, Nat.zero_le _⟩) hS (fun q _ h => h.elim) (fun q h => h.elim) (fun r1 u t H locs ht hvm hw hB hz1 hk1 hS => ?_)
  have hP := gc_keep hP hk1
  have hw : r1 = (co ^^^ 1) := hw
  subst hw
  clear hw
  clear hB hz1 hk1 ht hvm
  refine lv_istore_n (lv' := [(2, .int (co ^^^ 1)), (0, .ref (h 0)), (1, .int co)]) hx hb dX0_settle_4 rfl hl (by decide) rfl (fun ls hl => ?_)
  refine lv_aload_n hx hb dX0_settle_5 rfl (lv_at hl 1 rfl) ?_
  refine va_get (D := (dC, dI)) (ci := 0) (v := .int (nI ct)) (C := RX0) (T := TX0) (N := 10) hx hb hts hin0 hown hK hP 0 rfl rfl 9 (by decide) (hts (.fieldLink RX0 115 "GuestChairs" "seatingCount" "I") (by decide +kernel)) (fun _ h9 => h9) rfl dX0_settle_6 ?_
  refine lv_istore_n (lv' := [(3, .int (nI ct)), (2, .int (co ^^^ 1)), (0, .ref (h 0)), (1, .int co)]) hx hb dX0_settle_9 rfl hl (by decide) rfl (fun ls hl => ?_)
  refine lv_iconst (v := 0) hx hb dX0_settle_10 (by decide) ?_
  refine lv_istore (lv' := [(4, .int 0), (3, .int (nI ct)), (2, .int (co ^^^ 1)), (0, .ref (h 0)), (1, .int co)]) hx hb dX0_settle_11 hl (by decide) rfl (fun ls hl => ?_)
  refine gc_loop (ct) (fun (i : Nat) (H : Heap) (locs : List Loc) (ls : Array Slot) => ∃ (sv : Nat → Int32) (k : Nat), sv = (gSt cl co se ct i).1 ∧ k = (gSt cl co se ct i).2 ∧ va_P (dC, dI) vwCl (gcW h kc f1 f2 dr cl tr sv (nI g) (nI r) inf (nI k)) H ∧ va_D A (gcW h kc f1 f2 dr cl tr sv (nI g) (nI r) inf (nI k)) ∧ va_S A s.heap H locs ∧ lv_has ls 6 [(4, .int (nI i)), (3, .int (nI ct)), (2, .int (co ^^^ 1)), (0, .ref (h 0)), (1, .int co)]) 0 (Nat.zero_le _) ⟨se, ct, (by first | rfl | assumption | omega), (by first | rfl | assumption | omega), hP, hD, hS, lv_sub hl [0, 1, 2, 3, 4] rfl⟩ ?_
  intro i H locs ls hi hI ihi
  obtain ⟨sv, k, e_sv, e_k, hP, hD, hS, hl⟩ := hI
  refine lv_iload hx hb dX0_settle_13 (lv_at hl 0 rfl) ?_
  refine lv_iload_n hx hb dX0_settle_15 rfl (lv_at hl 1 rfl) ?_
  refine lv_icmp_ge (tgt := 154) hx hb dX0_settle_16 (by decide) (fun c_16 => ?_) (fun c_16 => ?_)
  · skip
    have hEi : i = ct := gc_ge c_16 (by omega) (by omega)
    have hWe : ((gcW h kc f1 f2 dr cl tr sv (nI g) (nI r) inf (nI k)) : va_W) = (gcW h kc f1 f2 dr cl tr ((gSt cl co se ct ct).1) (nI g) (nI r) inf (nI (gSt cl co se ct ct).2)) := by rw [e_sv, e_k, hEi]
    rw [hWe] at hP hD
    exact W.vret hx hb hr (fun t ht hW => ⟨⟨(), rfl, trivial, ⟨by rw [ht]; exact hP, hD⟩⟩, hS.F ht⟩) hS.2.2 dX0_settle_154
  · skip
    have hLi : i < ct := gc_lt c_16 (by omega) (by omega)
    refine lv_aload_n hx hb dX0_settle_19 rfl (lv_at hl 3 rfl) ?_
    refine va_get (D := (dC, dI)) (ci := 0) (v := .ref (h 6)) (C := RX0) (T := TX0) (N := 10) hx hb hts hin0 hown hK hP 0 rfl rfl 5 (by decide) (hts (.fieldLink RX0 25 "GuestChairs" "seated" "[I") (by decide +kernel)) (fun _ h9 => h9) rfl dX0_settle_20 ?_
    refine lv_iload hx hb dX0_settle_23 (lv_at hl 0 rfl) ?_
    have hPc : va_P (dC, dI) vwCl ([((h 6), .inl ((kc 6), 1024, .inl sv))]) _ := hP.sub [6] rfl
    have hKc : va_K (dC, dI) vwCl ([((kc 6), .int)]) s := hK.sub [5] rfl
    refine va_calli (va_runS (As := [.ref (h 6), .int (nI i)]) (rest := []) ⟨hx, hb, hml, hown, hts⟩ (c_X0_at l dC dI (h 6) (kc 6) 1024 sv (nI i) (by decide)) (va_cwS 2 hts gX0_settle_X0_at rfl rfl rfl (by decide +kernel) ⟨Nat.le_of_ble_eq_true rfl, Nat.le_of_ble_eq_true rfl⟩) ⟨gcPR_blind, fun U hU hW => ⟨rfl, by rw [hU]; exact hPc, va_K.moved hW.alike hKc⟩⟩ rfl rfl hl.1 rfl (lv_room (Nat.le_of_ble_eq_true rfl)) dX0_settle_25 ⟨Nat.zero_le _, Nat.zero_le _⟩) hS (fun q _ h => h.elim) (fun q h => h.elim) (fun r2 u t H locs ht hvm hw hB hz1 hk1 hS => ?_)
    have hP := gc_keep hP hk1
    have hw : r2 = gAt 1024 sv (nI i) := hw
    subst hw
    clear hw
    clear hB hz1 hk1 ht hvm
    clear hPc hKc
    refine lv_istore (lv' := [(5, .int (gAt 1024 sv (nI i))), (4, .int (nI i)), (3, .int (nI ct)), (2, .int (co ^^^ 1)), (0, .ref (h 0)), (1, .int co)]) hx hb dX0_settle_28 hl (by decide) rfl (fun ls hl => ?_)
    refine lv_iload hx hb dX0_settle_30 (lv_at hl 0 rfl) ?_
    refine lv_iload_n hx hb dX0_settle_32 rfl (lv_at hl 5 rfl) ?_
    refine va_calli (va_runS (As := [.int (gAt 1024 sv (nI i)), .int co]) (rest := []) ⟨hx, hb, hml, hown, hts⟩ (c_X0_has l (gAt 1024 sv (nI i)) co) (va_cwS 2 hts gX0_settle_X0_has rfl rfl rfl (by decide +kernel) ⟨Nat.le_of_ble_eq_true rfl, Nat.le_of_ble_eq_true rfl⟩) ⟨fun a U g mk q => q, fun U hU hW => ⟨rfl, trivial⟩⟩ rfl rfl hl.1 rfl (lv_room (Nat.le_of_ble_eq_true rfl)) dX0_settle_33 ⟨Nat.zero_le _, Nat.zero_le _⟩) hS (fun q _ h => h.elim) (fun q h => h.elim) (fun r3 u t H locs ht hvm hw hB hz1 hk1 hS => ?_)
    have hP := gc_keep hP hk1
    have hw : r3 = gB (gHas (gAt 1024 sv (nI i)) co) := hw
    subst hw
    clear hw
    clear hB hz1 hk1 ht hvm
    refine lv_if_ne (tgt := 148) hx hb dX0_settle_36 (by decide) (fun c_36 => ?_) (fun c_36 => ?_)
    · skip
      have c_36 := gB_t c_36
      refine lv_iinc (v := nI (i + 1)) (lv' := [(4, .int (nI (i + 1))), (5, .int (gAt 1024 sv (nI i))), (3, .int (nI ct)), (2, .int (co ^^^ 1)), (0, .ref (h 0)), (1, .int co)]) hx hb dX0_settle_148 hl (k := 1) rfl (nI_1 i) (by decide) rfl (fun ls hl => ?_)
      refine lv_goto (tgt := 13) hx hb dX0_settle_151 (by decide) ?_
      exact ihi H _ ls (by omega) ⟨sv, k, (by simp only [gSt, ← e_sv, ← e_k]; simp [gSt, c_36] <;> assumption), (by simp only [gSt, ← e_sv, ← e_k]; simp [gSt, c_36] <;> assumption), hP, hD, hS, lv_sub hl [0, 2, 3, 4, 5] rfl⟩
    · skip
      have c_36 := gB_f c_36
      refine lv_iload hx hb dX0_settle_39 (lv_at hl 0 rfl) ?_
      refine lv_iload_n hx hb dX0_settle_41 rfl (lv_at hl 3 rfl) ?_
      refine va_calli (va_runS (As := [.int (gAt 1024 sv (nI i)), .int (co ^^^ 1)]) (rest := []) ⟨hx, hb, hml, hown, hts⟩ (c_X0_has l (gAt 1024 sv (nI i)) (co ^^^ 1)) (va_cwS 2 hts gX0_settle_X0_has rfl rfl rfl (by decide +kernel) ⟨Nat.le_of_ble_eq_true rfl, Nat.le_of_ble_eq_true rfl⟩) ⟨fun a U g mk q => q, fun U hU hW => ⟨rfl, trivial⟩⟩ rfl rfl hl.1 rfl (lv_room (Nat.le_of_ble_eq_true rfl)) dX0_settle_42 ⟨Nat.zero_le _, Nat.zero_le _⟩) hS (fun q _ h => h.elim) (fun q h => h.elim) (fun r4 u t H locs ht hvm hw hB hz1 hk1 hS => ?_)
      have hP := gc_keep hP hk1
      have hw : r4 = gB (gHas (gAt 1024 sv (nI i)) (co ^^^ 1)) := hw
      subst hw
      clear hw
      clear hB hz1 hk1 ht hvm
      refine lv_if_eq (tgt := 51) hx hb dX0_settle_45 (by decide) (fun c_45 => ?_) (fun c_45 => ?_)
      · skip
        have c_45 := gB_f c_45
        refine lv_aload_n hx hb dX0_settle_51 rfl (lv_at hl 4 rfl) ?_
        refine va_get (D := (dC, dI)) (ci := 0) (v := .ref (h 4)) (C := RX0) (T := TX0) (N := 10) hx hb hts hin0 hown hK hP 0 rfl rfl 3 (by decide) (hts (.fieldLink RX0 19 "GuestChairs" "closed" "[I") (by decide +kernel)) (fun _ h9 => h9) rfl dX0_settle_52 ?_
        refine lv_iload_n hx hb dX0_settle_55 rfl (lv_at hl 5 rfl) ?_
        have hPc : va_P (dC, dI) vwCl ([((h 4), .inl ((kc 4), 20, .inl cl))]) _ := hP.sub [4] rfl
        have hKc : va_K (dC, dI) vwCl ([((kc 4), .int)]) s := hK.sub [3] rfl
        refine va_calli (va_runS (As := [.ref (h 4), .int co]) (rest := []) ⟨hx, hb, hml, hown, hts⟩ (c_X0_isVain l dC dI (h 4) (kc 4) 20 cl co (by decide)) (va_cwS 2 hts gX0_settle_X0_isVain rfl rfl rfl (by decide +kernel) ⟨Nat.le_of_ble_eq_true rfl, Nat.le_of_ble_eq_true rfl⟩) ⟨gcPR_blind, fun U hU hW => ⟨rfl, by rw [hU]; exact hPc, va_K.moved hW.alike hKc⟩⟩ rfl rfl hl.1 rfl (lv_room (Nat.le_of_ble_eq_true rfl)) dX0_settle_56 ⟨Nat.zero_le _, Nat.zero_le _⟩) hS (fun q _ h => h.elim) (fun q h => h.elim) (fun r5 u t H locs ht hvm hw hB hz1 hk1 hS => ?_)
        have hP := gc_keep hP hk1
        have hw : r5 = gB (gVain 20 cl co) := hw
        subst hw
        clear hw
        clear hB hz1 hk1 ht hvm
        clear hPc hKc
        refine lv_if_eq (tgt := 85) hx hb dX0_settle_59 (by decide) (fun c_59 => ?_) (fun c_59 => ?_)
        · skip
          have c_59 := gB_f c_59
          refine lv_aload_n hx hb dX0_settle_85 rfl (lv_at hl 4 rfl) ?_
          refine va_get (D := (dC, dI)) (ci := 0) (v := .ref (h 6)) (C := RX0) (T := TX0) (N := 10) hx hb hts hin0 hown hK hP 0 rfl rfl 5 (by decide) (hts (.fieldLink RX0 25 "GuestChairs" "seated" "[I") (by decide +kernel)) (fun _ h9 => h9) rfl dX0_settle_86 ?_
          refine lv_iload hx hb dX0_settle_89 (lv_at hl 1 rfl) ?_
          refine lv_iload hx hb dX0_settle_91 (lv_at hl 0 rfl) ?_
          refine lv_aload_n hx hb dX0_settle_93 rfl (lv_at hl 4 rfl) ?_
          refine va_get (D := (dC, dI)) (ci := 0) (v := .ref (h 4)) (C := RX0) (T := TX0) (N := 10) hx hb hts hin0 hown hK hP 0 rfl rfl 3 (by decide) (hts (.fieldLink RX0 19 "GuestChairs" "closed" "[I") (by decide +kernel)) (fun _ h9 => h9) rfl dX0_settle_94 ?_
          refine lv_iload_n hx hb dX0_settle_97 rfl (lv_at hl 5 rfl) ?_
          have hPc : va_P (dC, dI) vwCl ([((h 4), .inl ((kc 4), 20, .inl cl))]) _ := hP.sub [4] rfl
          have hKc : va_K (dC, dI) vwCl ([((kc 4), .int)]) s := hK.sub [3] rfl
          refine va_calli (va_runS (As := [.ref (h 4), .int co]) (rest := [.int (gAt 1024 sv (nI i)), .int (nI i), .ref (h 6)]) ⟨hx, hb, hml, hown, hts⟩ (c_X0_at l dC dI (h 4) (kc 4) 20 cl co (by decide)) (va_cwS 2 hts gX0_settle_X0_at rfl rfl rfl (by decide +kernel) ⟨Nat.le_of_ble_eq_true rfl, Nat.le_of_ble_eq_true rfl⟩) ⟨gcPR_blind, fun U hU hW => ⟨rfl, by rw [hU]; exact hPc, va_K.moved hW.alike hKc⟩⟩ rfl rfl hl.1 rfl (lv_room (Nat.le_of_ble_eq_true rfl)) dX0_settle_98 ⟨Nat.zero_le _, Nat.zero_le _⟩) hS (fun q _ h => h.elim) (fun q h => h.elim) (fun r6 u t H locs ht hvm hw hB hz1 hk1 hS => ?_)
          have hP := gc_keep hP hk1
          have hw : r6 = gAt 20 cl co := hw
          subst hw
          clear hw
          clear hB hz1 hk1 ht hvm
          clear hPc hKc
          refine lv_ior hx hb dX0_settle_101 ?_
          have hPc : va_P (dC, dI) vwCl ([((h 6), .inl ((kc 6), 1024, .inl sv))]) _ := hP.sub [6] rfl
          have hKc : va_K (dC, dI) vwCl ([((kc 6), .int)]) s := hK.sub [5] rfl
          have hDc : va_D A ([((h 6), .inl ((kc 6), 1024, .inl sv))]) := hD.sub [6] (by decide) rfl
          have hFc := va_free (wc := ([((h 6), .inl ((kc 6), 1024, .inl sv))])) hD hS hA [6] rfl
          refine va_callv (va_runS (As := [.ref (h 6), .int (nI i), .int (gAt 1024 sv (nI i) ||| gAt 20 cl co)]) (rest := []) ⟨hx, hb, hml, hown, hts⟩ (c_X0_put l dC dI (h 6) (kc 6) 1024 sv (nI i) (gAt 1024 sv (nI i) ||| gAt 20 cl co) H.size (by decide)) (va_cwS 3 hts gX0_settle_X0_put rfl rfl rfl (by decide +kernel) ⟨Nat.le_of_ble_eq_true rfl, Nat.le_of_ble_eq_true rfl⟩) ⟨gcPM_blind, fun U hU hW => ⟨rfl, by rw [hU], by rw [hU]; exact hPc, va_K.moved hW.alike hKc, hDc.weaken (fun _ _ _ _ => trivial)⟩⟩ rfl rfl hl.1 rfl (lv_room (Nat.le_of_ble_eq_true rfl)) dX0_settle_102 ⟨Nat.zero_le _, Nat.zero_le _⟩) hS (fun q _ h => hFc q h) hFc (fun u t H locs ht hvm hw hB hz1 hk1 hS => ?_)
          obtain ⟨hP1, hD1⟩ := hB
          rw [ht] at hP1
          obtain ⟨hP, hD⟩ := va_join (wr := [(h 0, .inr (0, [.ref (h 1), .ref (h 2), .ref (h 3), .ref (h 4), .ref (h 5), .ref (h 6), .int (nI g), .int (nI r), .int inf, .int (nI k)])), (h 1, .inl (kc 1, 30, .inl f1)), (h 2, .inl (kc 2, 30, .inl f2)), (h 3, .inl (kc 3, 20, .inl dr)), (h 4, .inl (kc 4, 20, .inl cl)), (h 5, .inl (kc 5, 20, .inl tr))]) (w1 := ([((h 6), .inl ((kc 6), 1024, .inl (gPut 1024 sv (nI i) (gAt 1024 sv (nI i) ||| gAt 20 cl co))))])) hP hD [6] [0, 1, 2, 3, 4, 5] rfl rfl (by decide) (by decide) hk1 hFc hP1 hD1
          have hP : va_P (dC, dI) vwCl (gcW h kc f1 f2 dr cl tr (gPut 1024 sv (nI i) (gAt 1024 sv (nI i) ||| gAt 20 cl co)) (nI g) (nI r) inf (nI k)) H := hP.sub [0, 1, 2, 3, 4, 5, 6] rfl
          have hD : va_D A (gcW h kc f1 f2 dr cl tr (gPut 1024 sv (nI i) (gAt 1024 sv (nI i) ||| gAt 20 cl co)) (nI g) (nI r) inf (nI k)) := hD.sub [0, 1, 2, 3, 4, 5, 6] (by decide) rfl
          clear hz1 hk1 ht hvm hP1 hD1 hFc hDc
          clear hPc hKc
          refine lv_aload_n hx hb dX0_settle_105 rfl (lv_at hl 4 rfl) ?_
          refine va_get (D := (dC, dI)) (ci := 0) (v := .ref (h 4)) (C := RX0) (T := TX0) (N := 10) hx hb hts hin0 hown hK hP 0 rfl rfl 3 (by decide) (hts (.fieldLink RX0 19 "GuestChairs" "closed" "[I") (by decide +kernel)) (fun _ h9 => h9) rfl dX0_settle_106 ?_
          refine lv_iload_n hx hb dX0_settle_109 rfl (lv_at hl 3 rfl) ?_
          have hPc : va_P (dC, dI) vwCl ([((h 4), .inl ((kc 4), 20, .inl cl))]) _ := hP.sub [4] rfl
          have hKc : va_K (dC, dI) vwCl ([((kc 4), .int)]) s := hK.sub [3] rfl
          refine va_calli (va_runS (As := [.ref (h 4), .int (co ^^^ 1)]) (rest := []) ⟨hx, hb, hml, hown, hts⟩ (c_X0_isVain l dC dI (h 4) (kc 4) 20 cl (co ^^^ 1) (by decide)) (va_cwS 2 hts gX0_settle_X0_isVain rfl rfl rfl (by decide +kernel) ⟨Nat.le_of_ble_eq_true rfl, Nat.le_of_ble_eq_true rfl⟩) ⟨gcPR_blind, fun U hU hW => ⟨rfl, by rw [hU]; exact hPc, va_K.moved hW.alike hKc⟩⟩ rfl rfl hl.1 rfl (lv_room (Nat.le_of_ble_eq_true rfl)) dX0_settle_110 ⟨Nat.zero_le _, Nat.zero_le _⟩) hS (fun q _ h => h.elim) (fun q h => h.elim) (fun r8 u t H locs ht hvm hw hB hz1 hk1 hS => ?_)
          have hP := gc_keep hP hk1
          have hw : r8 = gB (gVain 20 cl (co ^^^ 1)) := hw
          subst hw
          clear hw
          clear hB hz1 hk1 ht hvm
          clear hPc hKc
          refine lv_if_ne (tgt := 148) hx hb dX0_settle_113 (by decide) (fun c_113 => ?_) (fun c_113 => ?_)
          · skip
            have c_113 := gB_t c_113
            refine lv_iinc (v := nI (i + 1)) (lv' := [(4, .int (nI (i + 1))), (5, .int (gAt 1024 sv (nI i))), (3, .int (nI ct)), (2, .int (co ^^^ 1)), (0, .ref (h 0)), (1, .int co)]) hx hb dX0_settle_148 hl (k := 1) rfl (nI_1 i) (by decide) rfl (fun ls hl => ?_)
            refine lv_goto (tgt := 13) hx hb dX0_settle_151 (by decide) ?_
            exact ihi H _ ls (by omega) ⟨(gPut 1024 sv (nI i) (gAt 1024 sv (nI i) ||| gAt 20 cl co)), k, (by simp only [gSt, ← e_sv, ← e_k]; simp [gSt, c_36, c_45, c_59, c_113] <;> assumption), (by simp only [gSt, ← e_sv, ← e_k]; simp [gSt, c_36, c_45, c_59, c_113] <;> assumption), hP, hD, hS, lv_sub hl [0, 2, 3, 4, 5] rfl⟩
          · skip
            have c_113 := gB_f c_113
            refine lv_aload_n hx hb dX0_settle_116 rfl (lv_at hl 4 rfl) ?_
            refine va_get (D := (dC, dI)) (ci := 0) (v := .ref (h 6)) (C := RX0) (T := TX0) (N := 10) hx hb hts hin0 hown hK hP 0 rfl rfl 5 (by decide) (hts (.fieldLink RX0 25 "GuestChairs" "seated" "[I") (by decide +kernel)) (fun _ h9 => h9) rfl dX0_settle_117 ?_
            refine lv_aload_n hx hb dX0_settle_120 rfl (lv_at hl 4 rfl) ?_
            refine va_get (D := (dC, dI)) (ci := 0) (v := .int (nI k)) (C := RX0) (T := TX0) (N := 10) hx hb hts hin0 hown hK hP 0 rfl rfl 9 (by decide) (hts (.fieldLink RX0 115 "GuestChairs" "seatingCount" "I") (by decide +kernel)) (fun _ h9 => h9) rfl dX0_settle_121 ?_
            refine lv_iload hx hb dX0_settle_124 (lv_at hl 0 rfl) ?_
            refine lv_aload_n hx hb dX0_settle_126 rfl (lv_at hl 4 rfl) ?_
            refine va_get (D := (dC, dI)) (ci := 0) (v := .ref (h 4)) (C := RX0) (T := TX0) (N := 10) hx hb hts hin0 hown hK hP 0 rfl rfl 3 (by decide) (hts (.fieldLink RX0 19 "GuestChairs" "closed" "[I") (by decide +kernel)) (fun _ h9 => h9) rfl dX0_settle_127 ?_
            refine lv_iload_n hx hb dX0_settle_130 rfl (lv_at hl 3 rfl) ?_
            have hPc : va_P (dC, dI) vwCl ([((h 4), .inl ((kc 4), 20, .inl cl))]) _ := hP.sub [4] rfl
            have hKc : va_K (dC, dI) vwCl ([((kc 4), .int)]) s := hK.sub [3] rfl
            refine va_calli (va_runS (As := [.ref (h 4), .int (co ^^^ 1)]) (rest := [.int (gAt 1024 sv (nI i)), .int (nI k), .ref (h 6)]) ⟨hx, hb, hml, hown, hts⟩ (c_X0_at l dC dI (h 4) (kc 4) 20 cl (co ^^^ 1) (by decide)) (va_cwS 2 hts gX0_settle_X0_at rfl rfl rfl (by decide +kernel) ⟨Nat.le_of_ble_eq_true rfl, Nat.le_of_ble_eq_true rfl⟩) ⟨gcPR_blind, fun U hU hW => ⟨rfl, by rw [hU]; exact hPc, va_K.moved hW.alike hKc⟩⟩ rfl rfl hl.1 rfl (lv_room (Nat.le_of_ble_eq_true rfl)) dX0_settle_131 ⟨Nat.zero_le _, Nat.zero_le _⟩) hS (fun q _ h => h.elim) (fun q h => h.elim) (fun r9 u t H locs ht hvm hw hB hz1 hk1 hS => ?_)
            have hP := gc_keep hP hk1
            have hw : r9 = gAt 20 cl (co ^^^ 1) := hw
            subst hw
            clear hw
            clear hB hz1 hk1 ht hvm
            clear hPc hKc
            refine lv_ior hx hb dX0_settle_134 ?_
            have hPc : va_P (dC, dI) vwCl ([((h 6), .inl ((kc 6), 1024, .inl (gPut 1024 sv (nI i) (gAt 1024 sv (nI i) ||| gAt 20 cl co))))]) _ := hP.sub [6] rfl
            have hKc : va_K (dC, dI) vwCl ([((kc 6), .int)]) s := hK.sub [5] rfl
            have hDc : va_D A ([((h 6), .inl ((kc 6), 1024, .inl (gPut 1024 sv (nI i) (gAt 1024 sv (nI i) ||| gAt 20 cl co))))]) := hD.sub [6] (by decide) rfl
            have hFc := va_free (wc := ([((h 6), .inl ((kc 6), 1024, .inl (gPut 1024 sv (nI i) (gAt 1024 sv (nI i) ||| gAt 20 cl co))))])) hD hS hA [6] rfl
            refine va_callv (va_runS (As := [.ref (h 6), .int (nI k), .int (gAt 1024 sv (nI i) ||| gAt 20 cl (co ^^^ 1))]) (rest := []) ⟨hx, hb, hml, hown, hts⟩ (c_X0_put l dC dI (h 6) (kc 6) 1024 (gPut 1024 sv (nI i) (gAt 1024 sv (nI i) ||| gAt 20 cl co)) (nI k) (gAt 1024 sv (nI i) ||| gAt 20 cl (co ^^^ 1)) H.size (by decide)) (va_cwS 3 hts gX0_settle_X0_put rfl rfl rfl (by decide +kernel) ⟨Nat.le_of_ble_eq_true rfl, Nat.le_of_ble_eq_true rfl⟩) ⟨gcPM_blind, fun U hU hW => ⟨rfl, by rw [hU], by rw [hU]; exact hPc, va_K.moved hW.alike hKc, hDc.weaken (fun _ _ _ _ => trivial)⟩⟩ rfl rfl hl.1 rfl (lv_room (Nat.le_of_ble_eq_true rfl)) dX0_settle_135 ⟨Nat.zero_le _, Nat.zero_le _⟩) hS (fun q _ h => hFc q h) hFc (fun u t H locs ht hvm hw hB hz1 hk1 hS => ?_)
            obtain ⟨hP1, hD1⟩ := hB
            rw [ht] at hP1
            obtain ⟨hP, hD⟩ := va_join (wr := [(h 0, .inr (0, [.ref (h 1), .ref (h 2), .ref (h 3), .ref (h 4), .ref (h 5), .ref (h 6), .int (nI g), .int (nI r), .int inf, .int (nI k)])), (h 1, .inl (kc 1, 30, .inl f1)), (h 2, .inl (kc 2, 30, .inl f2)), (h 3, .inl (kc 3, 20, .inl dr)), (h 4, .inl (kc 4, 20, .inl cl)), (h 5, .inl (kc 5, 20, .inl tr))]) (w1 := ([((h 6), .inl ((kc 6), 1024, .inl (gPut 1024 (gPut 1024 sv (nI i) (gAt 1024 sv (nI i) ||| gAt 20 cl co)) (nI k) (gAt 1024 sv (nI i) ||| gAt 20 cl (co ^^^ 1)))))])) hP hD [6] [0, 1, 2, 3, 4, 5] rfl rfl (by decide) (by decide) hk1 hFc hP1 hD1
            have hP : va_P (dC, dI) vwCl (gcW h kc f1 f2 dr cl tr (gPut 1024 (gPut 1024 sv (nI i) (gAt 1024 sv (nI i) ||| gAt 20 cl co)) (nI k) (gAt 1024 sv (nI i) ||| gAt 20 cl (co ^^^ 1))) (nI g) (nI r) inf (nI k)) H := hP.sub [0, 1, 2, 3, 4, 5, 6] rfl
            have hD : va_D A (gcW h kc f1 f2 dr cl tr (gPut 1024 (gPut 1024 sv (nI i) (gAt 1024 sv (nI i) ||| gAt 20 cl co)) (nI k) (gAt 1024 sv (nI i) ||| gAt 20 cl (co ^^^ 1))) (nI g) (nI r) inf (nI k)) := hD.sub [0, 1, 2, 3, 4, 5, 6] (by decide) rfl
            clear hz1 hk1 ht hvm hP1 hD1 hFc hDc
            clear hPc hKc
            refine lv_aload_n hx hb dX0_settle_138 rfl (lv_at hl 4 rfl) ?_
            refine lv_dup hx hb dX0_settle_139 rfl ?_
            refine va_get (D := (dC, dI)) (ci := 0) (v := .int (nI k)) (C := RX0) (T := TX0) (N := 10) hx hb hts hin0 hown hK hP 0 rfl rfl 9 (by decide) (hts (.fieldLink RX0 115 "GuestChairs" "seatingCount" "I") (by decide +kernel)) (fun _ h9 => h9) rfl dX0_settle_140 ?_
            refine lv_iconst (v := 1) hx hb dX0_settle_143 (by decide) ?_
            refine lv_iadd hx hb dX0_settle_144 ?_
            refine gc_topi (y := nI (k + 1)) (nI_1 k) ?_
            refine va_put (D := (dC, dI)) (ci := 0) (v := .int (nI (k + 1))) (ty := .int) (C := RX0) (T := TX0) (N := 10) hx hb hts hin0 tyX0 tyX0_ok nmX0 hown hK hP hD hS 0 rfl rfl 9 (by decide) (hts (.fieldLink RX0 115 "GuestChairs" "seatingCount" "I") (by decide +kernel)) (fun _ h9 => h9) rfl (by decide +kernel) rfl rfl (Nat.le_of_ble_eq_true rfl) dX0_settle_145 (fun H locs hP hD hS => ?_)
            have hP : va_P (dC, dI) vwCl (gcW h kc f1 f2 dr cl tr (gPut 1024 (gPut 1024 sv (nI i) (gAt 1024 sv (nI i) ||| gAt 20 cl co)) (nI k) (gAt 1024 sv (nI i) ||| gAt 20 cl (co ^^^ 1))) (nI g) (nI r) inf (nI (k + 1))) H := hP
            have hD : va_D A (gcW h kc f1 f2 dr cl tr (gPut 1024 (gPut 1024 sv (nI i) (gAt 1024 sv (nI i) ||| gAt 20 cl co)) (nI k) (gAt 1024 sv (nI i) ||| gAt 20 cl (co ^^^ 1))) (nI g) (nI r) inf (nI (k + 1))) := hD
            refine lv_iinc (v := nI (i + 1)) (lv' := [(4, .int (nI (i + 1))), (5, .int (gAt 1024 sv (nI i))), (3, .int (nI ct)), (2, .int (co ^^^ 1)), (0, .ref (h 0)), (1, .int co)]) hx hb dX0_settle_148 hl (k := 1) rfl (nI_1 i) (by decide) rfl (fun ls hl => ?_)
            refine lv_goto (tgt := 13) hx hb dX0_settle_151 (by decide) ?_
            exact ihi H _ ls (by omega) ⟨(gPut 1024 (gPut 1024 sv (nI i) (gAt 1024 sv (nI i) ||| gAt 20 cl co)) (nI k) (gAt 1024 sv (nI i) ||| gAt 20 cl (co ^^^ 1))), (k + 1), (by simp only [gSt, ← e_sv, ← e_k]; simp [gSt, c_36, c_45, c_59, c_113] <;> assumption), (by simp only [gSt, ← e_sv, ← e_k]; simp [gSt, c_36, c_45, c_59, c_113] <;> assumption), hP, hD, hS, lv_sub hl [0, 2, 3, 4, 5] rfl⟩
        · skip
          have c_59 := gB_t c_59
          refine lv_aload_n hx hb dX0_settle_62 rfl (lv_at hl 4 rfl) ?_
          refine va_get (D := (dC, dI)) (ci := 0) (v := .ref (h 6)) (C := RX0) (T := TX0) (N := 10) hx hb hts hin0 hown hK hP 0 rfl rfl 5 (by decide) (hts (.fieldLink RX0 25 "GuestChairs" "seated" "[I") (by decide +kernel)) (fun _ h9 => h9) rfl dX0_settle_63 ?_
          refine lv_iload hx hb dX0_settle_66 (lv_at hl 1 rfl) ?_
          refine lv_iload hx hb dX0_settle_68 (lv_at hl 0 rfl) ?_
          refine lv_aload_n hx hb dX0_settle_70 rfl (lv_at hl 4 rfl) ?_
          refine va_get (D := (dC, dI)) (ci := 0) (v := .ref (h 4)) (C := RX0) (T := TX0) (N := 10) hx hb hts hin0 hown hK hP 0 rfl rfl 3 (by decide) (hts (.fieldLink RX0 19 "GuestChairs" "closed" "[I") (by decide +kernel)) (fun _ h9 => h9) rfl dX0_settle_71 ?_
          refine lv_iload_n hx hb dX0_settle_74 rfl (lv_at hl 3 rfl) ?_
          have hPc : va_P (dC, dI) vwCl ([((h 4), .inl ((kc 4), 20, .inl cl))]) _ := hP.sub [4] rfl
          have hKc : va_K (dC, dI) vwCl ([((kc 4), .int)]) s := hK.sub [3] rfl
          refine va_calli (va_runS (As := [.ref (h 4), .int (co ^^^ 1)]) (rest := [.int (gAt 1024 sv (nI i)), .int (nI i), .ref (h 6)]) ⟨hx, hb, hml, hown, hts⟩ (c_X0_at l dC dI (h 4) (kc 4) 20 cl (co ^^^ 1) (by decide)) (va_cwS 2 hts gX0_settle_X0_at rfl rfl rfl (by decide +kernel) ⟨Nat.le_of_ble_eq_true rfl, Nat.le_of_ble_eq_true rfl⟩) ⟨gcPR_blind, fun U hU hW => ⟨rfl, by rw [hU]; exact hPc, va_K.moved hW.alike hKc⟩⟩ rfl rfl hl.1 rfl (lv_room (Nat.le_of_ble_eq_true rfl)) dX0_settle_75 ⟨Nat.zero_le _, Nat.zero_le _⟩) hS (fun q _ h => h.elim) (fun q h => h.elim) (fun r11 u t H locs ht hvm hw hB hz1 hk1 hS => ?_)
          have hP := gc_keep hP hk1
          have hw : r11 = gAt 20 cl (co ^^^ 1) := hw
          subst hw
          clear hw
          clear hB hz1 hk1 ht hvm
          clear hPc hKc
          refine lv_ior hx hb dX0_settle_78 ?_
          have hPc : va_P (dC, dI) vwCl ([((h 6), .inl ((kc 6), 1024, .inl sv))]) _ := hP.sub [6] rfl
          have hKc : va_K (dC, dI) vwCl ([((kc 6), .int)]) s := hK.sub [5] rfl
          have hDc : va_D A ([((h 6), .inl ((kc 6), 1024, .inl sv))]) := hD.sub [6] (by decide) rfl
          have hFc := va_free (wc := ([((h 6), .inl ((kc 6), 1024, .inl sv))])) hD hS hA [6] rfl
          refine va_callv (va_runS (As := [.ref (h 6), .int (nI i), .int (gAt 1024 sv (nI i) ||| gAt 20 cl (co ^^^ 1))]) (rest := []) ⟨hx, hb, hml, hown, hts⟩ (c_X0_put l dC dI (h 6) (kc 6) 1024 sv (nI i) (gAt 1024 sv (nI i) ||| gAt 20 cl (co ^^^ 1)) H.size (by decide)) (va_cwS 3 hts gX0_settle_X0_put rfl rfl rfl (by decide +kernel) ⟨Nat.le_of_ble_eq_true rfl, Nat.le_of_ble_eq_true rfl⟩) ⟨gcPM_blind, fun U hU hW => ⟨rfl, by rw [hU], by rw [hU]; exact hPc, va_K.moved hW.alike hKc, hDc.weaken (fun _ _ _ _ => trivial)⟩⟩ rfl rfl hl.1 rfl (lv_room (Nat.le_of_ble_eq_true rfl)) dX0_settle_79 ⟨Nat.zero_le _, Nat.zero_le _⟩) hS (fun q _ h => hFc q h) hFc (fun u t H locs ht hvm hw hB hz1 hk1 hS => ?_)
          obtain ⟨hP1, hD1⟩ := hB
          rw [ht] at hP1
          obtain ⟨hP, hD⟩ := va_join (wr := [(h 0, .inr (0, [.ref (h 1), .ref (h 2), .ref (h 3), .ref (h 4), .ref (h 5), .ref (h 6), .int (nI g), .int (nI r), .int inf, .int (nI k)])), (h 1, .inl (kc 1, 30, .inl f1)), (h 2, .inl (kc 2, 30, .inl f2)), (h 3, .inl (kc 3, 20, .inl dr)), (h 4, .inl (kc 4, 20, .inl cl)), (h 5, .inl (kc 5, 20, .inl tr))]) (w1 := ([((h 6), .inl ((kc 6), 1024, .inl (gPut 1024 sv (nI i) (gAt 1024 sv (nI i) ||| gAt 20 cl (co ^^^ 1)))))])) hP hD [6] [0, 1, 2, 3, 4, 5] rfl rfl (by decide) (by decide) hk1 hFc hP1 hD1
          have hP : va_P (dC, dI) vwCl (gcW h kc f1 f2 dr cl tr (gPut 1024 sv (nI i) (gAt 1024 sv (nI i) ||| gAt 20 cl (co ^^^ 1))) (nI g) (nI r) inf (nI k)) H := hP.sub [0, 1, 2, 3, 4, 5, 6] rfl
          have hD : va_D A (gcW h kc f1 f2 dr cl tr (gPut 1024 sv (nI i) (gAt 1024 sv (nI i) ||| gAt 20 cl (co ^^^ 1))) (nI g) (nI r) inf (nI k)) := hD.sub [0, 1, 2, 3, 4, 5, 6] (by decide) rfl
          clear hz1 hk1 ht hvm hP1 hD1 hFc hDc
          clear hPc hKc
          refine lv_goto (tgt := 148) hx hb dX0_settle_82 (by decide) ?_
          refine lv_iinc (v := nI (i + 1)) (lv' := [(4, .int (nI (i + 1))), (5, .int (gAt 1024 sv (nI i))), (3, .int (nI ct)), (2, .int (co ^^^ 1)), (0, .ref (h 0)), (1, .int co)]) hx hb dX0_settle_148 hl (k := 1) rfl (nI_1 i) (by decide) rfl (fun ls hl => ?_)
          refine lv_goto (tgt := 13) hx hb dX0_settle_151 (by decide) ?_
          exact ihi H _ ls (by omega) ⟨(gPut 1024 sv (nI i) (gAt 1024 sv (nI i) ||| gAt 20 cl (co ^^^ 1))), k, (by simp only [gSt, ← e_sv, ← e_k]; simp [gSt, c_36, c_45, c_59] <;> assumption), (by simp only [gSt, ← e_sv, ← e_k]; simp [gSt, c_36, c_45, c_59] <;> assumption), hP, hD, hS, lv_sub hl [0, 2, 3, 4, 5] rfl⟩
      · skip
        have c_45 := gB_t c_45
        refine lv_goto (tgt := 148) hx hb dX0_settle_48 (by decide) ?_
        refine lv_iinc (v := nI (i + 1)) (lv' := [(4, .int (nI (i + 1))), (5, .int (gAt 1024 sv (nI i))), (3, .int (nI ct)), (2, .int (co ^^^ 1)), (0, .ref (h 0)), (1, .int co)]) hx hb dX0_settle_148 hl (k := 1) rfl (nI_1 i) (by decide) rfl (fun ls hl => ?_)
        refine lv_goto (tgt := 13) hx hb dX0_settle_151 (by decide) ?_
        exact ihi H _ ls (by omega) ⟨sv, k, (by simp only [gSt, ← e_sv, ← e_k]; simp [gSt, c_36, c_45] <;> assumption), (by simp only [gSt, ← e_sv, ← e_k]; simp [gSt, c_36, c_45] <;> assumption), hP, hD, hS, lv_sub hl [0, 2, 3, 4, 5] rfl⟩
set_option maxHeartbeats 4000000 in
set_option maxRecDepth 100000 in
theorem c_X0_listSeatings (l : Launch) (dC : Nat → ClassId) (dI : Nat → Nat → Nat) (h : Nat → Nat) (kc : Nat → ClassId) (f1 : Nat → Int32) (f2 : Nat → Int32) (dr : Nat → Int32) (cl : Nat → Int32) (tr : Nat → Int32) (se : Nat → Int32) (g : Nat) (r : Nat) (inf : Int32) (ct : Nat) (sz : Nat) (hg : g ≤ 10) : Met l yX0_listSeatings wsX0_listSeatings ({ frames := 5, cells := 0, slots := 0, locals := 106 }) (gcPM (dC, dI) [.ref (h 0)] (gcW h kc f1 f2 dr cl tr se (nI g) (nI r) inf (nI ct)) (gcT kc) sz) (va_Qv (fun (_u : Unit) => True) (fun _u t => va_P (dC, dI) vwCl (gcW h kc f1 f2 dr cl tr ((gLs cl se g g).1) (nI g) (nI r) inf (nI (gLs cl se g g).2)) t.heap ∧ va_D (va_A (gcW h kc f1 f2 dr cl tr se (nI g) (nI r) inf (nI ct)) sz) (gcW h kc f1 f2 dr cl tr ((gLs cl se g g).1) (nI g) (nI r) inf (nI (gLs cl se g g).2))) (va_A (gcW h kc f1 f2 dr cl tr se (nI g) (nI r) inf (nI ct)) sz)) 0 0 (va_A (gcW h kc f1 f2 dr cl tr se (nI g) (nI r) inf (nI ct)) sz) := by
  refine Met.ofW (cc := cX0_listSeatings) (maxL := 2) (ret := none) (by decide) rfl ?_
  intro p e s m args below meth c s₁ B hml hv
  obtain ⟨rfl, hsz, hP, hK, hD0⟩ := hv
  have hx := B.exec
  have hb := B.bytes
  have hr := B.returns
  have hts := atoms_spec (ws := wsX0_listSeatings) B.pre
  have hown : s.vm.findClass RX0 = some m.cls := findClass_of_methodNamed B.named
  have hlocks := B.notSynchronized
  subst hsz
  have hD := hD0.self (sz := s.heap.size)
  generalize hAe : va_A (gcW h kc f1 f2 dr cl tr se (nI g) (nI r) inf (nI ct)) s.heap.size = A at hD ⊢
  have hA : ∀ q : Nat, s.heap.size ≤ q → A q := fun q h => by rw [← hAe]; exact Or.inr h
  have hS : va_S A s.heap s.heap [] := va_S.rf
  have hP : va_P (dC, dI) vwCl (gcW h kc f1 f2 dr cl tr se (nI g) (nI r) inf (nI ct)) s.heap := hP
  have hin0 : ∀ w ∈ wsX00, w ∈ wsX0_listSeatings := by decide +kernel
  have hl := lv_entry [.ref (h 0)] (n := 2) (Nat.le_of_ble_eq_true rfl)
  rw [lg_entry_eq]
  generalize (lg_sl [.ref (h 0)] ++ List.replicate (2 - (lg_sl [.ref (h 0)]).length) Slot.unset).toArray = ls at hl ⊢
  have hl : lv_has ls 2 [(0, .ref (h 0))] := hl
  refine lv_aload_n hx hb dX0_listSeatings_0 rfl (lv_at hl 0 rfl) ?_
  refine lv_aload_n hx hb dX0_listSeatings_1 rfl (lv_at hl 0 rfl) ?_
  have hPc : va_P (dC, dI) vwCl (gcW h kc f1 f2 dr cl tr se (nI g) (nI r) inf (nI ct)) _ := hP.sub [0, 1, 2, 3, 4, 5, 6] rfl
  have hKc : va_K (dC, dI) vwCl (gcT kc) s := hK.sub [0, 1, 2, 3, 4, 5] rfl
  refine va_calli (va_runV (As := []) (rest := [.ref (h 0)]) ⟨hx, hb, hml, hown, hts⟩ (c_X0_fits l dC dI h kc f1 f2 dr cl tr se g r inf ct (by first | assumption | omega)) (cwV 0 hts gX0_listSeatings_X0_fits rfl rfl rfl (by decide +kernel) ⟨Nat.le_of_ble_eq_true rfl, Nat.le_of_ble_eq_true rfl⟩) ⟨gcPR_blind, va_recv hK hP (ci := 0) (q0 := 0) rfl rfl, fun U hU hW => ⟨rfl, by rw [hU]; exact hPc, va_K.moved hW.alike hKc⟩⟩ rfl rfl hl.1 rfl (lv_room (Nat.le_of_ble_eq_true rfl)) dX0_listSeatings_2 ⟨Nat.zero_le _, Nat.zero_le _⟩) hS (fun q _ h => h.elim) (fun q h => h.elim) (fun r1 u t H locs ht hvm hw hB hz1 hk1 hS => ?_)
  have hP := gc_keep hP hk1
  have hw : r1 = gB (gFt cl g) := hw
  subst hw
  clear hw
  clear hB hz1 hk1 ht hvm
  clear hPc hKc
  refine va_calli (va_runS (As := [.int (gB (gFt cl g))]) (rest := [.ref (h 0)]) ⟨hx, hb, hml, hown, hts⟩ (c_X0_oneIf l (gFt cl g)) (va_cwS 1 hts gX0_listSeatings_X0_oneIf rfl rfl rfl (by decide +kernel) ⟨Nat.le_of_ble_eq_true rfl, Nat.le_of_ble_eq_true rfl⟩) ⟨fun a U g mk q => q, fun U hU hW => ⟨rfl, trivial⟩⟩ rfl rfl hl.1 rfl (lv_room (Nat.le_of_ble_eq_true rfl)) dX0_listSeatings_5 ⟨Nat.zero_le _, Nat.zero_le _⟩) hS (fun q _ h => h.elim) (fun q h => h.elim) (fun r2 u t H locs ht hvm hw hB hz1 hk1 hS => ?_)
  have hP := gc_keep hP hk1
  have hw : r2 = gB (gFt cl g) := hw
  subst hw
  clear hw
  clear hB hz1 hk1 ht hvm
  refine gc_topi (y := nI (gF0 cl g)) (gF0_eq cl g) ?_
  refine va_put (D := (dC, dI)) (ci := 0) (v := .int (nI (gF0 cl g))) (ty := .int) (C := RX0) (T := TX0) (N := 10) hx hb hts hin0 tyX0 tyX0_ok nmX0 hown hK hP hD hS 0 rfl rfl 9 (by decide) (hts (.fieldLink RX0 115 "GuestChairs" "seatingCount" "I") (by decide +kernel)) (fun _ h9 => h9) rfl (by decide +kernel) rfl rfl (Nat.le_of_ble_eq_true rfl) dX0_listSeatings_8 (fun H locs hP hD hS => ?_)
  have hP : va_P (dC, dI) vwCl (gcW h kc f1 f2 dr cl tr se (nI g) (nI r) inf (nI (gF0 cl g))) H := hP
  have hD : va_D A (gcW h kc f1 f2 dr cl tr se (nI g) (nI r) inf (nI (gF0 cl g))) := hD
  refine lv_aload_n hx hb dX0_listSeatings_11 rfl (lv_at hl 0 rfl) ?_
  refine va_get (D := (dC, dI)) (ci := 0) (v := .ref (h 6)) (C := RX0) (T := TX0) (N := 10) hx hb hts hin0 hown hK hP 0 rfl rfl 5 (by decide) (hts (.fieldLink RX0 25 "GuestChairs" "seated" "[I") (by decide +kernel)) (fun _ h9 => h9) rfl dX0_listSeatings_12 ?_
  refine lv_iconst (v := 0) hx hb dX0_listSeatings_15 (by decide) ?_
  refine lv_iconst (v := 0) hx hb dX0_listSeatings_16 (by decide) ?_
  have hPc : va_P (dC, dI) vwCl ([((h 6), .inl ((kc 6), 1024, .inl se))]) _ := hP.sub [6] rfl
  have hKc : va_K (dC, dI) vwCl ([((kc 6), .int)]) s := hK.sub [5] rfl
  have hDc : va_D A ([((h 6), .inl ((kc 6), 1024, .inl se))]) := hD.sub [6] (by decide) rfl
  have hFc := va_free (wc := ([((h 6), .inl ((kc 6), 1024, .inl se))])) hD hS hA [6] rfl
  refine va_callv (va_runS (As := [.ref (h 6), .int 0, .int 0]) (rest := []) ⟨hx, hb, hml, hown, hts⟩ (c_X0_put l dC dI (h 6) (kc 6) 1024 se 0 0 H.size (by decide)) (va_cwS 3 hts gX0_listSeatings_X0_put rfl rfl rfl (by decide +kernel) ⟨Nat.le_of_ble_eq_true rfl, Nat.le_of_ble_eq_true rfl⟩) ⟨gcPM_blind, fun U hU hW => ⟨rfl, by rw [hU], by rw [hU]; exact hPc, va_K.moved hW.alike hKc, hDc.weaken (fun _ _ _ _ => trivial)⟩⟩ rfl rfl hl.1 rfl (lv_room (Nat.le_of_ble_eq_true rfl)) dX0_listSeatings_17 ⟨Nat.zero_le _, Nat.zero_le _⟩) hS (fun q _ h => hFc q h) hFc (fun u t H locs ht hvm hw hB hz1 hk1 hS => ?_)
  obtain ⟨hP1, hD1⟩ := hB
  rw [ht] at hP1
  obtain ⟨hP, hD⟩ := va_join (wr := [(h 0, .inr (0, [.ref (h 1), .ref (h 2), .ref (h 3), .ref (h 4), .ref (h 5), .ref (h 6), .int (nI g), .int (nI r), .int inf, .int (nI (gF0 cl g))])), (h 1, .inl (kc 1, 30, .inl f1)), (h 2, .inl (kc 2, 30, .inl f2)), (h 3, .inl (kc 3, 20, .inl dr)), (h 4, .inl (kc 4, 20, .inl cl)), (h 5, .inl (kc 5, 20, .inl tr))]) (w1 := ([((h 6), .inl ((kc 6), 1024, .inl (gPut 1024 se 0 0)))])) hP hD [6] [0, 1, 2, 3, 4, 5] rfl rfl (by decide) (by decide) hk1 hFc hP1 hD1
  have hP : va_P (dC, dI) vwCl (gcW h kc f1 f2 dr cl tr (gPut 1024 se 0 0) (nI g) (nI r) inf (nI (gF0 cl g))) H := hP.sub [0, 1, 2, 3, 4, 5, 6] rfl
  have hD : va_D A (gcW h kc f1 f2 dr cl tr (gPut 1024 se 0 0) (nI g) (nI r) inf (nI (gF0 cl g))) := hD.sub [0, 1, 2, 3, 4, 5, 6] (by decide) rfl
  clear hz1 hk1 ht hvm hP1 hD1 hFc hDc
  clear hPc hKc
  refine lv_iconst (v := 0) hx hb dX0_listSeatings_20 (by decide) ?_
  refine lv_istore_n (lv' := [(1, .int 0), (0, .ref (h 0))]) hx hb dX0_listSeatings_21 rfl hl (by decide) rfl (fun ls hl => ?_)
  refine gc_loop (g) (fun (i : Nat) (H : Heap) (locs : List Loc) (ls : Array Slot) => ∃ (sv : Nat → Int32) (k : Nat), sv = (gLs cl se g i).1 ∧ k = (gLs cl se g i).2 ∧ va_P (dC, dI) vwCl (gcW h kc f1 f2 dr cl tr sv (nI g) (nI r) inf (nI k)) H ∧ va_D A (gcW h kc f1 f2 dr cl tr sv (nI g) (nI r) inf (nI k)) ∧ va_S A s.heap H locs ∧ lv_has ls 2 [(1, .int (nI i)), (0, .ref (h 0))]) 0 (Nat.zero_le _) ⟨gPut 1024 se 0 0, (gF0 cl g), (by first | rfl | assumption | omega), (by first | rfl | assumption | omega), hP, hD, hS, lv_sub hl [0, 1] rfl⟩ ?_
  intro i H locs ls hi hI ihi
  obtain ⟨sv, k, e_sv, e_k, hP, hD, hS, hl⟩ := hI
  refine lv_iload_n hx hb dX0_listSeatings_22 rfl (lv_at hl 0 rfl) ?_
  refine lv_aload_n hx hb dX0_listSeatings_23 rfl (lv_at hl 1 rfl) ?_
  refine va_get (D := (dC, dI)) (ci := 0) (v := .int (nI g)) (C := RX0) (T := TX0) (N := 10) hx hb hts hin0 hown hK hP 0 rfl rfl 6 (by decide) (hts (.fieldLink RX0 31 "GuestChairs" "guestCount" "I") (by decide +kernel)) (fun _ h9 => h9) rfl dX0_listSeatings_24 ?_
  refine lv_icmp_ge (tgt := 43) hx hb dX0_listSeatings_27 (by decide) (fun c_27 => ?_) (fun c_27 => ?_)
  · skip
    have hEi : i = g := gc_ge c_27 (by omega) (by omega)
    have hWe : ((gcW h kc f1 f2 dr cl tr sv (nI g) (nI r) inf (nI k)) : va_W) = (gcW h kc f1 f2 dr cl tr ((gLs cl se g g).1) (nI g) (nI r) inf (nI (gLs cl se g g).2)) := by rw [e_sv, e_k, hEi]
    rw [hWe] at hP hD
    exact W.vret hx hb hr (fun t ht hW => ⟨⟨(), rfl, trivial, ⟨by rw [ht]; exact hP, hD⟩⟩, hS.F ht⟩) hS.2.2 dX0_listSeatings_43
  · skip
    have hLi : i < g := gc_lt c_27 (by omega) (by omega)
    refine lv_aload_n hx hb dX0_listSeatings_30 rfl (lv_at hl 1 rfl) ?_
    refine lv_iconst (v := 2) hx hb dX0_listSeatings_31 (by decide) ?_
    refine lv_iload_n hx hb dX0_listSeatings_32 rfl (lv_at hl 0 rfl) ?_
    refine lv_imul hx hb dX0_listSeatings_33 ?_
    have hPc : va_P (dC, dI) vwCl (gcW h kc f1 f2 dr cl tr sv (nI g) (nI r) inf (nI k)) _ := hP.sub [0, 1, 2, 3, 4, 5, 6] rfl
    have hKc : va_K (dC, dI) vwCl (gcT kc) s := hK.sub [0, 1, 2, 3, 4, 5] rfl
    have hDc : va_D A (gcW h kc f1 f2 dr cl tr sv (nI g) (nI r) inf (nI k)) := hD.sub [0, 1, 2, 3, 4, 5, 6] (by decide) rfl
    have hFc := va_free (wc := (gcW h kc f1 f2 dr cl tr sv (nI g) (nI r) inf (nI k))) hD hS hA [0, 1, 2, 3, 4, 5, 6] rfl
    refine va_callv (va_runV (As := [.int (2 * nI i)]) (rest := []) ⟨hx, hb, hml, hown, hts⟩ (c_X0_settle l dC dI h kc f1 f2 dr cl tr sv g r inf k (2 * nI i) H.size (by rw [e_k]; exact gLs_le' cl se g (by omega))) (cwV 1 hts gX0_listSeatings_X0_settle rfl rfl rfl (by decide +kernel) ⟨Nat.le_of_ble_eq_true rfl, Nat.le_of_ble_eq_true rfl⟩) ⟨gcPM_blind, va_recv hK hP (ci := 0) (q0 := 0) rfl rfl, fun U hU hW => ⟨rfl, by rw [hU], by rw [hU]; exact hPc, va_K.moved hW.alike hKc, hDc.weaken (fun _ _ _ _ => trivial)⟩⟩ rfl rfl hl.1 rfl (lv_room (Nat.le_of_ble_eq_true rfl)) dX0_listSeatings_34 ⟨Nat.zero_le _, Nat.zero_le _⟩) hS (fun q _ h => hFc q h) hFc (fun u t H locs ht hvm hw hB hz1 hk1 hS => ?_)
    obtain ⟨hP1, hD1⟩ := hB
    rw [ht] at hP1
    obtain ⟨hP, hD⟩ := va_join (wr := []) (w1 := (gcW h kc f1 f2 dr cl tr ((gSt cl (2 * nI i) sv k k).1) (nI g) (nI r) inf (nI (gSt cl (2 * nI i) sv k k).2))) hP hD [0, 1, 2, 3, 4, 5, 6] [] rfl rfl (by decide) (by decide) hk1 hFc hP1 hD1
    have hP : va_P (dC, dI) vwCl (gcW h kc f1 f2 dr cl tr ((gSt cl (2 * nI i) sv k k).1) (nI g) (nI r) inf (nI (gSt cl (2 * nI i) sv k k).2)) H := hP.sub [0, 1, 2, 3, 4, 5, 6] rfl
    have hD : va_D A (gcW h kc f1 f2 dr cl tr ((gSt cl (2 * nI i) sv k k).1) (nI g) (nI r) inf (nI (gSt cl (2 * nI i) sv k k).2)) := hD.sub [0, 1, 2, 3, 4, 5, 6] (by decide) rfl
    clear hz1 hk1 ht hvm hP1 hD1 hFc hDc
    clear hPc hKc
    refine lv_iinc (v := nI (i + 1)) (lv' := [(1, .int (nI (i + 1))), (0, .ref (h 0))]) hx hb dX0_listSeatings_37 hl (k := 0) rfl (nI_1 i) (by decide) rfl (fun ls hl => ?_)
    refine lv_goto (tgt := 22) hx hb dX0_listSeatings_40 (by decide) ?_
    exact ihi H _ ls (by omega) ⟨((gSt cl (2 * nI i) sv k k).1), ((gSt cl (2 * nI i) sv k k).2), (by simp only [gLs, ← e_sv, ← e_k]), (by simp only [gLs, ← e_sv, ← e_k]), hP, hD, hS, lv_sub hl [0, 1] rfl⟩
set_option maxHeartbeats 4000000 in
set_option maxRecDepth 100000 in
theorem c_X0_fitsWithout (l : Launch) (dC : Nat → ClassId) (dI : Nat → Nat → Nat) (h : Nat → Nat) (kc : Nat → ClassId) (f1 : Nat → Int32) (f2 : Nat → Int32) (dr : Nat → Int32) (cl : Nat → Int32) (tr : Nat → Int32) (se : Nat → Int32) (g : Nat) (r : Nat) (inf : Int32) (ct : Nat) (x : Int32) (sz : Nat) (hg : g ≤ 10) (hr30 : r ≤ 30) : Met l yX0_fitsWithout wsX0_fitsWithout ({ frames := 4, cells := 0, slots := 0, locals := 86 }) (gcPM (dC, dI) [.ref (h 0), .int x] (gcW h kc f1 f2 dr cl tr se (nI g) (nI r) inf (nI ct)) (gcT kc) sz) (va_Qi (fun (rv : Int32) (_u : Unit) => rv = gB (gFt (gCl (gLA f1 f2 inf x r tr) 20) g)) (fun _u t => va_P (dC, dI) vwCl (gcW h kc f1 f2 dr cl (gCl (gLA f1 f2 inf x r tr) 20) se (nI g) (nI r) inf (nI ct)) t.heap ∧ va_D (va_A (gcW h kc f1 f2 dr cl tr se (nI g) (nI r) inf (nI ct)) sz) (gcW h kc f1 f2 dr cl (gCl (gLA f1 f2 inf x r tr) 20) se (nI g) (nI r) inf (nI ct))) (va_A (gcW h kc f1 f2 dr cl tr se (nI g) (nI r) inf (nI ct)) sz)) 0 0 (va_A (gcW h kc f1 f2 dr cl tr se (nI g) (nI r) inf (nI ct)) sz) := by
  refine Met.ofW (cc := cX0_fitsWithout) (maxL := 2) (ret := (some .boolean)) (by decide) rfl ?_
  intro p e s m args below meth c s₁ B hml hv
  obtain ⟨rfl, hsz, hP, hK, hD0⟩ := hv
  have hx := B.exec
  have hb := B.bytes
  have hr := B.returns
  have hts := atoms_spec (ws := wsX0_fitsWithout) B.pre
  have hown : s.vm.findClass RX0 = some m.cls := findClass_of_methodNamed B.named
  have hlocks := B.notSynchronized
  subst hsz
  have hD := hD0.self (sz := s.heap.size)
  generalize hAe : va_A (gcW h kc f1 f2 dr cl tr se (nI g) (nI r) inf (nI ct)) s.heap.size = A at hD ⊢
  have hA : ∀ q : Nat, s.heap.size ≤ q → A q := fun q h => by rw [← hAe]; exact Or.inr h
  have hS : va_S A s.heap s.heap [] := va_S.rf
  have hP : va_P (dC, dI) vwCl (gcW h kc f1 f2 dr cl tr se (nI g) (nI r) inf (nI ct)) s.heap := hP
  have hin0 : ∀ w ∈ wsX00, w ∈ wsX0_fitsWithout := by decide +kernel
  have hl := lv_entry [.ref (h 0), .int x] (n := 2) (Nat.le_of_ble_eq_true rfl)
  rw [lg_entry_eq]
  generalize (lg_sl [.ref (h 0), .int x] ++ List.replicate (2 - (lg_sl [.ref (h 0), .int x]).length) Slot.unset).toArray = ls at hl ⊢
  have hl : lv_has ls 2 [(0, .ref (h 0)), (1, .int x)] := hl
  refine lv_aload_n hx hb dX0_fitsWithout_0 rfl (lv_at hl 0 rfl) ?_
  refine lv_iload_n hx hb dX0_fitsWithout_1 rfl (lv_at hl 1 rfl) ?_
  refine lv_aload_n hx hb dX0_fitsWithout_2 rfl (lv_at hl 0 rfl) ?_
  refine va_get (D := (dC, dI)) (ci := 0) (v := .ref (h 5)) (C := RX0) (T := TX0) (N := 10) hx hb hts hin0 hown hK hP 0 rfl rfl 4 (by decide) (hts (.fieldLink RX0 22 "GuestChairs" "trial" "[I") (by decide +kernel)) (fun _ h9 => h9) rfl dX0_fitsWithout_3 ?_
  have hPc : va_P (dC, dI) vwCl (gcW h kc f1 f2 dr cl tr se (nI g) (nI r) inf (nI ct)) _ := hP.sub [0, 1, 2, 3, 4, 5, 6] rfl
  have hKc : va_K (dC, dI) vwCl (gcT kc) s := hK.sub [0, 1, 2, 3, 4, 5] rfl
  have hDc : va_D A (gcW h kc f1 f2 dr cl tr se (nI g) (nI r) inf (nI ct)) := hD.sub [0, 1, 2, 3, 4, 5, 6] (by decide) rfl
  have hFc := va_free (wc := (gcW h kc f1 f2 dr cl tr se (nI g) (nI r) inf (nI ct))) hD hS hA [0, 1, 2, 3, 4, 5, 6] rfl
  refine va_callv (va_runV (As := [.int x, .ref (h 5)]) (rest := []) ⟨hx, hb, hml, hown, hts⟩ (c_X0_linkAllBut_tr l dC dI h kc f1 f2 dr cl tr se g r inf ct x s.heap.size (by first | assumption | omega)) (cwV 2 hts gX0_fitsWithout_X0_linkAllBut rfl rfl rfl (by decide +kernel) ⟨Nat.le_of_ble_eq_true rfl, Nat.le_of_ble_eq_true rfl⟩) ⟨gcPM_blind, va_recv hK hP (ci := 0) (q0 := 0) rfl rfl, fun U hU hW => ⟨rfl, by rw [hU], by rw [hU]; exact hPc, va_K.moved hW.alike hKc, hDc.weaken (fun _ _ _ _ => trivial)⟩⟩ rfl rfl hl.1 rfl (lv_room (Nat.le_of_ble_eq_true rfl)) dX0_fitsWithout_6 ⟨Nat.zero_le _, Nat.zero_le _⟩) hS (fun q _ h => hFc q h) hFc (fun u t H locs ht hvm hw hB hz1 hk1 hS => ?_)
  obtain ⟨hP1, hD1⟩ := hB
  rw [ht] at hP1
  obtain ⟨hP, hD⟩ := va_join (wr := []) (w1 := (gcW h kc f1 f2 dr cl (gLA f1 f2 inf x r tr) se (nI g) (nI r) inf (nI ct))) hP hD [0, 1, 2, 3, 4, 5, 6] [] rfl rfl (by decide) (by decide) hk1 hFc hP1 hD1
  have hP : va_P (dC, dI) vwCl (gcW h kc f1 f2 dr cl (gLA f1 f2 inf x r tr) se (nI g) (nI r) inf (nI ct)) H := hP.sub [0, 1, 2, 3, 4, 5, 6] rfl
  have hD : va_D A (gcW h kc f1 f2 dr cl (gLA f1 f2 inf x r tr) se (nI g) (nI r) inf (nI ct)) := hD.sub [0, 1, 2, 3, 4, 5, 6] (by decide) rfl
  clear hz1 hk1 ht hvm hP1 hD1 hFc hDc
  clear hPc hKc
  refine lv_aload_n hx hb dX0_fitsWithout_9 rfl (lv_at hl 0 rfl) ?_
  refine va_get (D := (dC, dI)) (ci := 0) (v := .ref (h 5)) (C := RX0) (T := TX0) (N := 10) hx hb hts hin0 hown hK hP 0 rfl rfl 4 (by decide) (hts (.fieldLink RX0 22 "GuestChairs" "trial" "[I") (by decide +kernel)) (fun _ h9 => h9) rfl dX0_fitsWithout_10 ?_
  have hPc : va_P (dC, dI) vwCl ([((h 5), .inl ((kc 5), 20, .inl (gLA f1 f2 inf x r tr)))]) _ := hP.sub [5] rfl
  have hKc : va_K (dC, dI) vwCl ([((kc 5), .int)]) s := hK.sub [4] rfl
  have hDc : va_D A ([((h 5), .inl ((kc 5), 20, .inl (gLA f1 f2 inf x r tr)))]) := hD.sub [5] (by decide) rfl
  have hFc := va_free (wc := ([((h 5), .inl ((kc 5), 20, .inl (gLA f1 f2 inf x r tr)))])) hD hS hA [5] rfl
  refine va_callv (va_runS (As := [.ref (h 5)]) (rest := []) ⟨hx, hb, hml, hown, hts⟩ (c_X0_close l dC dI (h 5) (kc 5) (gLA f1 f2 inf x r tr) H.size) (va_cwS 1 hts gX0_fitsWithout_X0_close rfl rfl rfl (by decide +kernel) ⟨Nat.le_of_ble_eq_true rfl, Nat.le_of_ble_eq_true rfl⟩) ⟨gcPM_blind, fun U hU hW => ⟨rfl, by rw [hU], by rw [hU]; exact hPc, va_K.moved hW.alike hKc, hDc.weaken (fun _ _ _ _ => trivial)⟩⟩ rfl rfl hl.1 rfl (lv_room (Nat.le_of_ble_eq_true rfl)) dX0_fitsWithout_13 ⟨Nat.zero_le _, Nat.zero_le _⟩) hS (fun q _ h => hFc q h) hFc (fun u t H locs ht hvm hw hB hz1 hk1 hS => ?_)
  obtain ⟨hP1, hD1⟩ := hB
  rw [ht] at hP1
  obtain ⟨hP, hD⟩ := va_join (wr := [(h 0, .inr (0, [.ref (h 1), .ref (h 2), .ref (h 3), .ref (h 4), .ref (h 5), .ref (h 6), .int (nI g), .int (nI r), .int inf, .int (nI ct)])), (h 1, .inl (kc 1, 30, .inl f1)), (h 2, .inl (kc 2, 30, .inl f2)), (h 3, .inl (kc 3, 20, .inl dr)), (h 4, .inl (kc 4, 20, .inl cl)), (h 6, .inl (kc 6, 1024, .inl se))]) (w1 := ([((h 5), .inl ((kc 5), 20, .inl (gCl (gLA f1 f2 inf x r tr) 20)))])) hP hD [5] [0, 1, 2, 3, 4, 6] rfl rfl (by decide) (by decide) hk1 hFc hP1 hD1
  have hP : va_P (dC, dI) vwCl (gcW h kc f1 f2 dr cl (gCl (gLA f1 f2 inf x r tr) 20) se (nI g) (nI r) inf (nI ct)) H := hP.sub [0, 1, 2, 3, 4, 6, 5] rfl
  have hD : va_D A (gcW h kc f1 f2 dr cl (gCl (gLA f1 f2 inf x r tr) 20) se (nI g) (nI r) inf (nI ct)) := hD.sub [0, 1, 2, 3, 4, 6, 5] (by decide) rfl
  clear hz1 hk1 ht hvm hP1 hD1 hFc hDc
  clear hPc hKc
  refine lv_aload_n hx hb dX0_fitsWithout_16 rfl (lv_at hl 0 rfl) ?_
  refine lv_aload_n hx hb dX0_fitsWithout_17 rfl (lv_at hl 0 rfl) ?_
  refine va_get (D := (dC, dI)) (ci := 0) (v := .ref (h 5)) (C := RX0) (T := TX0) (N := 10) hx hb hts hin0 hown hK hP 0 rfl rfl 4 (by decide) (hts (.fieldLink RX0 22 "GuestChairs" "trial" "[I") (by decide +kernel)) (fun _ h9 => h9) rfl dX0_fitsWithout_18 ?_
  have hPc : va_P (dC, dI) vwCl (gcW h kc f1 f2 dr cl (gCl (gLA f1 f2 inf x r tr) 20) se (nI g) (nI r) inf (nI ct)) _ := hP.sub [0, 1, 2, 3, 4, 5, 6] rfl
  have hKc : va_K (dC, dI) vwCl (gcT kc) s := hK.sub [0, 1, 2, 3, 4, 5] rfl
  refine va_calli (va_runV (As := [.ref (h 5)]) (rest := []) ⟨hx, hb, hml, hown, hts⟩ (c_X0_countTorn_tr l dC dI h kc f1 f2 dr cl (gCl (gLA f1 f2 inf x r tr) 20) se g r inf ct (by first | assumption | omega)) (cwV 1 hts gX0_fitsWithout_X0_countTorn rfl rfl rfl (by decide +kernel) ⟨Nat.le_of_ble_eq_true rfl, Nat.le_of_ble_eq_true rfl⟩) ⟨gcPR_blind, va_recv hK hP (ci := 0) (q0 := 0) rfl rfl, fun U hU hW => ⟨rfl, by rw [hU]; exact hPc, va_K.moved hW.alike hKc⟩⟩ rfl rfl hl.1 rfl (lv_room (Nat.le_of_ble_eq_true rfl)) dX0_fitsWithout_21 ⟨Nat.zero_le _, Nat.zero_le _⟩) hS (fun q _ h => h.elim) (fun q h => h.elim) (fun r3 u t H locs ht hvm hw hB hz1 hk1 hS => ?_)
  have hP := gc_keep hP hk1
  have hw : r3 = gCT (gCl (gLA f1 f2 inf x r tr) 20) g := hw
  subst hw
  clear hw
  clear hB hz1 hk1 ht hvm
  clear hPc hKc
  refine lv_if_ne (tgt := 31) hx hb dX0_fitsWithout_24 (by decide) (fun c_24 => ?_) (fun c_24 => ?_)
  · skip
    refine lv_iconst (v := 0) hx hb dX0_fitsWithout_31 (by decide) ?_
    have hpost : 0 = gB (gFt (gCl (gLA f1 f2 inf x r tr) 20) g) := by simp [gB, gFt, c_24]
    exact W.zret (ty := .boolean) (v := 0) hx hb hr (by first | rfl | decide | exact gB_nar _) (fun t ht hW => ⟨⟨0, (), rfl, hpost, ⟨by rw [ht]; exact hP, hD⟩⟩, hS.F ht⟩) hS.2.2 dX0_fitsWithout_32
  · skip
    refine lv_iconst (v := 1) hx hb dX0_fitsWithout_27 (by decide) ?_
    refine lv_goto (tgt := 32) hx hb dX0_fitsWithout_28 (by decide) ?_
    have hpost : 1 = gB (gFt (gCl (gLA f1 f2 inf x r tr) 20) g) := by simp [gB, gFt, c_24]
    exact W.zret (ty := .boolean) (v := 1) hx hb hr (by first | rfl | decide | exact gB_nar _) (fun t ht hW => ⟨⟨1, (), rfl, hpost, ⟨by rw [ht]; exact hP, hD⟩⟩, hS.F ht⟩) hS.2.2 dX0_fitsWithout_32
set_option maxHeartbeats 4000000 in
set_option maxRecDepth 100000 in
theorem c_X0_refresh (l : Launch) (dC : Nat → ClassId) (dI : Nat → Nat → Nat) (h : Nat → Nat) (kc : Nat → ClassId) (f1 : Nat → Int32) (f2 : Nat → Int32) (dr : Nat → Int32) (cl : Nat → Int32) (tr : Nat → Int32) (se : Nat → Int32) (g : Nat) (r : Nat) (inf : Int32) (ct : Nat) (sz : Nat) (hg : g ≤ 10) (hr30 : r ≤ 30) : Met l yX0_refresh wsX0_refresh ({ frames := 6, cells := 0, slots := 0, locals := 127 }) (gcPM (dC, dI) [.ref (h 0)] (gcW h kc f1 f2 dr cl tr se (nI g) (nI r) inf (nI ct)) (gcT kc) sz) (va_Qv (fun (_u : Unit) => True) (fun _u t => va_P (dC, dI) vwCl (gcW h kc f1 f2 (gLA f1 f2 inf (-1) r dr) (gCl (gLA f1 f2 inf (-1) r cl) 20) tr ((gLs (gCl (gLA f1 f2 inf (-1) r cl) 20) se g g).1) (nI g) (nI r) inf (nI (gLs (gCl (gLA f1 f2 inf (-1) r cl) 20) se g g).2)) t.heap ∧ va_D (va_A (gcW h kc f1 f2 dr cl tr se (nI g) (nI r) inf (nI ct)) sz) (gcW h kc f1 f2 (gLA f1 f2 inf (-1) r dr) (gCl (gLA f1 f2 inf (-1) r cl) 20) tr ((gLs (gCl (gLA f1 f2 inf (-1) r cl) 20) se g g).1) (nI g) (nI r) inf (nI (gLs (gCl (gLA f1 f2 inf (-1) r cl) 20) se g g).2))) (va_A (gcW h kc f1 f2 dr cl tr se (nI g) (nI r) inf (nI ct)) sz)) 0 0 (va_A (gcW h kc f1 f2 dr cl tr se (nI g) (nI r) inf (nI ct)) sz) := by
  refine Met.ofW (cc := cX0_refresh) (maxL := 1) (ret := none) (by decide) rfl ?_
  intro p e s m args below meth c s₁ B hml hv
  obtain ⟨rfl, hsz, hP, hK, hD0⟩ := hv
  have hx := B.exec
  have hb := B.bytes
  have hr := B.returns
  have hts := atoms_spec (ws := wsX0_refresh) B.pre
  have hown : s.vm.findClass RX0 = some m.cls := findClass_of_methodNamed B.named
  have hlocks := B.notSynchronized
  subst hsz
  have hD := hD0.self (sz := s.heap.size)
  generalize hAe : va_A (gcW h kc f1 f2 dr cl tr se (nI g) (nI r) inf (nI ct)) s.heap.size = A at hD ⊢
  have hA : ∀ q : Nat, s.heap.size ≤ q → A q := fun q h => by rw [← hAe]; exact Or.inr h
  have hS : va_S A s.heap s.heap [] := va_S.rf
  have hP : va_P (dC, dI) vwCl (gcW h kc f1 f2 dr cl tr se (nI g) (nI r) inf (nI ct)) s.heap := hP
  have hin0 : ∀ w ∈ wsX00, w ∈ wsX0_refresh := by decide +kernel
  have hl := lv_entry [.ref (h 0)] (n := 1) (Nat.le_of_ble_eq_true rfl)
  rw [lg_entry_eq]
  generalize (lg_sl [.ref (h 0)] ++ List.replicate (1 - (lg_sl [.ref (h 0)]).length) Slot.unset).toArray = ls at hl ⊢
  have hl : lv_has ls 1 [(0, .ref (h 0))] := hl
  refine lv_aload_n hx hb dX0_refresh_0 rfl (lv_at hl 0 rfl) ?_
  refine lv_iconst (v := -1) hx hb dX0_refresh_1 (by decide) ?_
  refine lv_aload_n hx hb dX0_refresh_2 rfl (lv_at hl 0 rfl) ?_
  refine va_get (D := (dC, dI)) (ci := 0) (v := .ref (h 3)) (C := RX0) (T := TX0) (N := 10) hx hb hts hin0 hown hK hP 0 rfl rfl 2 (by decide) (hts (.fieldLink RX0 16 "GuestChairs" "direct" "[I") (by decide +kernel)) (fun _ h9 => h9) rfl dX0_refresh_3 ?_
  have hPc : va_P (dC, dI) vwCl (gcW h kc f1 f2 dr cl tr se (nI g) (nI r) inf (nI ct)) _ := hP.sub [0, 1, 2, 3, 4, 5, 6] rfl
  have hKc : va_K (dC, dI) vwCl (gcT kc) s := hK.sub [0, 1, 2, 3, 4, 5] rfl
  have hDc : va_D A (gcW h kc f1 f2 dr cl tr se (nI g) (nI r) inf (nI ct)) := hD.sub [0, 1, 2, 3, 4, 5, 6] (by decide) rfl
  have hFc := va_free (wc := (gcW h kc f1 f2 dr cl tr se (nI g) (nI r) inf (nI ct))) hD hS hA [0, 1, 2, 3, 4, 5, 6] rfl
  refine va_callv (va_runV (As := [.int (-1), .ref (h 3)]) (rest := []) ⟨hx, hb, hml, hown, hts⟩ (c_X0_linkAllBut_dr l dC dI h kc f1 f2 dr cl tr se g r inf ct (-1) s.heap.size (by first | assumption | omega)) (cwV 2 hts gX0_refresh_X0_linkAllBut rfl rfl rfl (by decide +kernel) ⟨Nat.le_of_ble_eq_true rfl, Nat.le_of_ble_eq_true rfl⟩) ⟨gcPM_blind, va_recv hK hP (ci := 0) (q0 := 0) rfl rfl, fun U hU hW => ⟨rfl, by rw [hU], by rw [hU]; exact hPc, va_K.moved hW.alike hKc, hDc.weaken (fun _ _ _ _ => trivial)⟩⟩ rfl rfl hl.1 rfl (lv_room (Nat.le_of_ble_eq_true rfl)) dX0_refresh_6 ⟨Nat.zero_le _, Nat.zero_le _⟩) hS (fun q _ h => hFc q h) hFc (fun u t H locs ht hvm hw hB hz1 hk1 hS => ?_)
  obtain ⟨hP1, hD1⟩ := hB
  rw [ht] at hP1
  obtain ⟨hP, hD⟩ := va_join (wr := []) (w1 := (gcW h kc f1 f2 (gLA f1 f2 inf (-1) r dr) cl tr se (nI g) (nI r) inf (nI ct))) hP hD [0, 1, 2, 3, 4, 5, 6] [] rfl rfl (by decide) (by decide) hk1 hFc hP1 hD1
  have hP : va_P (dC, dI) vwCl (gcW h kc f1 f2 (gLA f1 f2 inf (-1) r dr) cl tr se (nI g) (nI r) inf (nI ct)) H := hP.sub [0, 1, 2, 3, 4, 5, 6] rfl
  have hD : va_D A (gcW h kc f1 f2 (gLA f1 f2 inf (-1) r dr) cl tr se (nI g) (nI r) inf (nI ct)) := hD.sub [0, 1, 2, 3, 4, 5, 6] (by decide) rfl
  clear hz1 hk1 ht hvm hP1 hD1 hFc hDc
  clear hPc hKc
  refine lv_aload_n hx hb dX0_refresh_9 rfl (lv_at hl 0 rfl) ?_
  refine lv_iconst (v := -1) hx hb dX0_refresh_10 (by decide) ?_
  refine lv_aload_n hx hb dX0_refresh_11 rfl (lv_at hl 0 rfl) ?_
  refine va_get (D := (dC, dI)) (ci := 0) (v := .ref (h 4)) (C := RX0) (T := TX0) (N := 10) hx hb hts hin0 hown hK hP 0 rfl rfl 3 (by decide) (hts (.fieldLink RX0 19 "GuestChairs" "closed" "[I") (by decide +kernel)) (fun _ h9 => h9) rfl dX0_refresh_12 ?_
  have hPc : va_P (dC, dI) vwCl (gcW h kc f1 f2 (gLA f1 f2 inf (-1) r dr) cl tr se (nI g) (nI r) inf (nI ct)) _ := hP.sub [0, 1, 2, 3, 4, 5, 6] rfl
  have hKc : va_K (dC, dI) vwCl (gcT kc) s := hK.sub [0, 1, 2, 3, 4, 5] rfl
  have hDc : va_D A (gcW h kc f1 f2 (gLA f1 f2 inf (-1) r dr) cl tr se (nI g) (nI r) inf (nI ct)) := hD.sub [0, 1, 2, 3, 4, 5, 6] (by decide) rfl
  have hFc := va_free (wc := (gcW h kc f1 f2 (gLA f1 f2 inf (-1) r dr) cl tr se (nI g) (nI r) inf (nI ct))) hD hS hA [0, 1, 2, 3, 4, 5, 6] rfl
  refine va_callv (va_runV (As := [.int (-1), .ref (h 4)]) (rest := []) ⟨hx, hb, hml, hown, hts⟩ (c_X0_linkAllBut_cl l dC dI h kc f1 f2 (gLA f1 f2 inf (-1) r dr) cl tr se g r inf ct (-1) H.size (by first | assumption | omega)) (cwV 2 hts gX0_refresh_X0_linkAllBut rfl rfl rfl (by decide +kernel) ⟨Nat.le_of_ble_eq_true rfl, Nat.le_of_ble_eq_true rfl⟩) ⟨gcPM_blind, va_recv hK hP (ci := 0) (q0 := 0) rfl rfl, fun U hU hW => ⟨rfl, by rw [hU], by rw [hU]; exact hPc, va_K.moved hW.alike hKc, hDc.weaken (fun _ _ _ _ => trivial)⟩⟩ rfl rfl hl.1 rfl (lv_room (Nat.le_of_ble_eq_true rfl)) dX0_refresh_15 ⟨Nat.zero_le _, Nat.zero_le _⟩) hS (fun q _ h => hFc q h) hFc (fun u t H locs ht hvm hw hB hz1 hk1 hS => ?_)
  obtain ⟨hP1, hD1⟩ := hB
  rw [ht] at hP1
  obtain ⟨hP, hD⟩ := va_join (wr := []) (w1 := (gcW h kc f1 f2 (gLA f1 f2 inf (-1) r dr) (gLA f1 f2 inf (-1) r cl) tr se (nI g) (nI r) inf (nI ct))) hP hD [0, 1, 2, 3, 4, 5, 6] [] rfl rfl (by decide) (by decide) hk1 hFc hP1 hD1
  have hP : va_P (dC, dI) vwCl (gcW h kc f1 f2 (gLA f1 f2 inf (-1) r dr) (gLA f1 f2 inf (-1) r cl) tr se (nI g) (nI r) inf (nI ct)) H := hP.sub [0, 1, 2, 3, 4, 5, 6] rfl
  have hD : va_D A (gcW h kc f1 f2 (gLA f1 f2 inf (-1) r dr) (gLA f1 f2 inf (-1) r cl) tr se (nI g) (nI r) inf (nI ct)) := hD.sub [0, 1, 2, 3, 4, 5, 6] (by decide) rfl
  clear hz1 hk1 ht hvm hP1 hD1 hFc hDc
  clear hPc hKc
  refine lv_aload_n hx hb dX0_refresh_18 rfl (lv_at hl 0 rfl) ?_
  refine va_get (D := (dC, dI)) (ci := 0) (v := .ref (h 4)) (C := RX0) (T := TX0) (N := 10) hx hb hts hin0 hown hK hP 0 rfl rfl 3 (by decide) (hts (.fieldLink RX0 19 "GuestChairs" "closed" "[I") (by decide +kernel)) (fun _ h9 => h9) rfl dX0_refresh_19 ?_
  have hPc : va_P (dC, dI) vwCl ([((h 4), .inl ((kc 4), 20, .inl (gLA f1 f2 inf (-1) r cl)))]) _ := hP.sub [4] rfl
  have hKc : va_K (dC, dI) vwCl ([((kc 4), .int)]) s := hK.sub [3] rfl
  have hDc : va_D A ([((h 4), .inl ((kc 4), 20, .inl (gLA f1 f2 inf (-1) r cl)))]) := hD.sub [4] (by decide) rfl
  have hFc := va_free (wc := ([((h 4), .inl ((kc 4), 20, .inl (gLA f1 f2 inf (-1) r cl)))])) hD hS hA [4] rfl
  refine va_callv (va_runS (As := [.ref (h 4)]) (rest := []) ⟨hx, hb, hml, hown, hts⟩ (c_X0_close l dC dI (h 4) (kc 4) (gLA f1 f2 inf (-1) r cl) H.size) (va_cwS 1 hts gX0_refresh_X0_close rfl rfl rfl (by decide +kernel) ⟨Nat.le_of_ble_eq_true rfl, Nat.le_of_ble_eq_true rfl⟩) ⟨gcPM_blind, fun U hU hW => ⟨rfl, by rw [hU], by rw [hU]; exact hPc, va_K.moved hW.alike hKc, hDc.weaken (fun _ _ _ _ => trivial)⟩⟩ rfl rfl hl.1 rfl (lv_room (Nat.le_of_ble_eq_true rfl)) dX0_refresh_22 ⟨Nat.zero_le _, Nat.zero_le _⟩) hS (fun q _ h => hFc q h) hFc (fun u t H locs ht hvm hw hB hz1 hk1 hS => ?_)
  obtain ⟨hP1, hD1⟩ := hB
  rw [ht] at hP1
  obtain ⟨hP, hD⟩ := va_join (wr := [(h 0, .inr (0, [.ref (h 1), .ref (h 2), .ref (h 3), .ref (h 4), .ref (h 5), .ref (h 6), .int (nI g), .int (nI r), .int inf, .int (nI ct)])), (h 1, .inl (kc 1, 30, .inl f1)), (h 2, .inl (kc 2, 30, .inl f2)), (h 3, .inl (kc 3, 20, .inl (gLA f1 f2 inf (-1) r dr))), (h 5, .inl (kc 5, 20, .inl tr)), (h 6, .inl (kc 6, 1024, .inl se))]) (w1 := ([((h 4), .inl ((kc 4), 20, .inl (gCl (gLA f1 f2 inf (-1) r cl) 20)))])) hP hD [4] [0, 1, 2, 3, 5, 6] rfl rfl (by decide) (by decide) hk1 hFc hP1 hD1
  have hP : va_P (dC, dI) vwCl (gcW h kc f1 f2 (gLA f1 f2 inf (-1) r dr) (gCl (gLA f1 f2 inf (-1) r cl) 20) tr se (nI g) (nI r) inf (nI ct)) H := hP.sub [0, 1, 2, 3, 6, 4, 5] rfl
  have hD : va_D A (gcW h kc f1 f2 (gLA f1 f2 inf (-1) r dr) (gCl (gLA f1 f2 inf (-1) r cl) 20) tr se (nI g) (nI r) inf (nI ct)) := hD.sub [0, 1, 2, 3, 6, 4, 5] (by decide) rfl
  clear hz1 hk1 ht hvm hP1 hD1 hFc hDc
  clear hPc hKc
  refine lv_aload_n hx hb dX0_refresh_25 rfl (lv_at hl 0 rfl) ?_
  have hPc : va_P (dC, dI) vwCl (gcW h kc f1 f2 (gLA f1 f2 inf (-1) r dr) (gCl (gLA f1 f2 inf (-1) r cl) 20) tr se (nI g) (nI r) inf (nI ct)) _ := hP.sub [0, 1, 2, 3, 4, 5, 6] rfl
  have hKc : va_K (dC, dI) vwCl (gcT kc) s := hK.sub [0, 1, 2, 3, 4, 5] rfl
  have hDc : va_D A (gcW h kc f1 f2 (gLA f1 f2 inf (-1) r dr) (gCl (gLA f1 f2 inf (-1) r cl) 20) tr se (nI g) (nI r) inf (nI ct)) := hD.sub [0, 1, 2, 3, 4, 5, 6] (by decide) rfl
  have hFc := va_free (wc := (gcW h kc f1 f2 (gLA f1 f2 inf (-1) r dr) (gCl (gLA f1 f2 inf (-1) r cl) 20) tr se (nI g) (nI r) inf (nI ct))) hD hS hA [0, 1, 2, 3, 4, 5, 6] rfl
  refine va_callv (va_runV (As := []) (rest := []) ⟨hx, hb, hml, hown, hts⟩ (c_X0_listSeatings l dC dI h kc f1 f2 (gLA f1 f2 inf (-1) r dr) (gCl (gLA f1 f2 inf (-1) r cl) 20) tr se g r inf ct H.size (by first | assumption | omega)) (cwV 0 hts gX0_refresh_X0_listSeatings rfl rfl rfl (by decide +kernel) ⟨Nat.le_of_ble_eq_true rfl, Nat.le_of_ble_eq_true rfl⟩) ⟨gcPM_blind, va_recv hK hP (ci := 0) (q0 := 0) rfl rfl, fun U hU hW => ⟨rfl, by rw [hU], by rw [hU]; exact hPc, va_K.moved hW.alike hKc, hDc.weaken (fun _ _ _ _ => trivial)⟩⟩ rfl rfl hl.1 rfl (lv_room (Nat.le_of_ble_eq_true rfl)) dX0_refresh_26 ⟨Nat.zero_le _, Nat.zero_le _⟩) hS (fun q _ h => hFc q h) hFc (fun u t H locs ht hvm hw hB hz1 hk1 hS => ?_)
  obtain ⟨hP1, hD1⟩ := hB
  rw [ht] at hP1
  obtain ⟨hP, hD⟩ := va_join (wr := []) (w1 := (gcW h kc f1 f2 (gLA f1 f2 inf (-1) r dr) (gCl (gLA f1 f2 inf (-1) r cl) 20) tr ((gLs (gCl (gLA f1 f2 inf (-1) r cl) 20) se g g).1) (nI g) (nI r) inf (nI (gLs (gCl (gLA f1 f2 inf (-1) r cl) 20) se g g).2))) hP hD [0, 1, 2, 3, 4, 5, 6] [] rfl rfl (by decide) (by decide) hk1 hFc hP1 hD1
  have hP : va_P (dC, dI) vwCl (gcW h kc f1 f2 (gLA f1 f2 inf (-1) r dr) (gCl (gLA f1 f2 inf (-1) r cl) 20) tr ((gLs (gCl (gLA f1 f2 inf (-1) r cl) 20) se g g).1) (nI g) (nI r) inf (nI (gLs (gCl (gLA f1 f2 inf (-1) r cl) 20) se g g).2)) H := hP.sub [0, 1, 2, 3, 4, 5, 6] rfl
  have hD : va_D A (gcW h kc f1 f2 (gLA f1 f2 inf (-1) r dr) (gCl (gLA f1 f2 inf (-1) r cl) 20) tr ((gLs (gCl (gLA f1 f2 inf (-1) r cl) 20) se g g).1) (nI g) (nI r) inf (nI (gLs (gCl (gLA f1 f2 inf (-1) r cl) 20) se g g).2)) := hD.sub [0, 1, 2, 3, 4, 5, 6] (by decide) rfl
  clear hz1 hk1 ht hvm hP1 hD1 hFc hDc
  clear hPc hKc
  exact W.vret hx hb hr (fun t ht hW => ⟨⟨(), rfl, trivial, ⟨by rw [ht]; exact hP, hD⟩⟩, hS.F ht⟩) hS.2.2 dX0_refresh_29
end
