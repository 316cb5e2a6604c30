section
-- ===== PART A: goes FIRST, ahead of the names: the tables' words, and 'selects' of the private methods out of them =====
/-- a private method of a class that the tables say can be made, by its rows of tables_1 -/
def lw_okq (q : MethodName × Nat) : Prop := (q.1.cls ≠ "java/lang/invoke/MethodHandle" ∧ q.1.cls ≠ "java/lang/invoke/VarHandle") ∧ Cond.instantiable q.1.cls q.2 ∈ tables_1 ∧ Cond.privateMethod q.1 ∈ tables_1 ∧ Cond.instanceMethod q.1 ∈ tables_1
theorem lw_p0 : lw_okq (⟨"TreapVersions", "handleFor", "(I)I"⟩, 6) := ⟨⟨by decide +kernel, by decide +kernel⟩, List.mem_of_getElem? (i := 11) (by decide +kernel), List.mem_of_getElem? (i := 121) (by decide +kernel), List.mem_of_getElem? (i := 122) (by decide +kernel)⟩
theorem lw_p1 : lw_okq (⟨"TreapVersions", "makeRoom", "(I)Z"⟩, 6) := ⟨⟨by decide +kernel, by decide +kernel⟩, List.mem_of_getElem? (i := 11) (by decide +kernel), List.mem_of_getElem? (i := 125) (by decide +kernel), List.mem_of_getElem? (i := 126) (by decide +kernel)⟩
theorem lw_p2 : lw_okq (⟨"TreapVersions", "reachLive", "()I"⟩, 6) := ⟨⟨by decide +kernel, by decide +kernel⟩, List.mem_of_getElem? (i := 11) (by decide +kernel), List.mem_of_getElem? (i := 133) (by decide +kernel), List.mem_of_getElem? (i := 134) (by decide +kernel)⟩
theorem lw_p3 : lw_okq (⟨"TreapVersions$Store", "pend", "(II)I"⟩, 11) := ⟨⟨by decide +kernel, by decide +kernel⟩, List.mem_of_getElem? (i := 19) (by decide +kernel), List.mem_of_getElem? (i := 145) (by decide +kernel), List.mem_of_getElem? (i := 146) (by decide +kernel)⟩
theorem lw_p4 : lw_okq (⟨"TreapVersions", "drawWeight", "()I"⟩, 6) := ⟨⟨by decide +kernel, by decide +kernel⟩, List.mem_of_getElem? (i := 11) (by decide +kernel), List.mem_of_getElem? (i := 153) (by decide +kernel), List.mem_of_getElem? (i := 154) (by decide +kernel)⟩
theorem lw_p5 : lw_okq (⟨"TreapVersions$Store", "freePlace", "()I"⟩, 11) := ⟨⟨by decide +kernel, by decide +kernel⟩, List.mem_of_getElem? (i := 19) (by decide +kernel), List.mem_of_getElem? (i := 174) (by decide +kernel), List.mem_of_getElem? (i := 175) (by decide +kernel)⟩
theorem lw_p6 : lw_okq (⟨"TreapVersions", "open", "(II)I"⟩, 6) := ⟨⟨by decide +kernel, by decide +kernel⟩, List.mem_of_getElem? (i := 11) (by decide +kernel), List.mem_of_getElem? (i := 184) (by decide +kernel), List.mem_of_getElem? (i := 185) (by decide +kernel)⟩
theorem lw_p7 : lw_okq (⟨"TreapVersions", "nodeWith", "(II)I"⟩, 6) := ⟨⟨by decide +kernel, by decide +kernel⟩, List.mem_of_getElem? (i := 11) (by decide +kernel), List.mem_of_getElem? (i := 227) (by decide +kernel), List.mem_of_getElem? (i := 228) (by decide +kernel)⟩
theorem lw_p8 : lw_okq (⟨"java/lang/Throwable", "fillInStackTrace", "(I)Ljava/lang/Throwable;"⟩, 6) := ⟨⟨by decide +kernel, by decide +kernel⟩, List.mem_of_getElem? (i := 307) (by decide +kernel), List.mem_of_getElem? (i := 305) (by decide +kernel), List.mem_of_getElem? (i := 306) (by decide +kernel)⟩
theorem lw_p9 : lw_okq (⟨"TreapVersionsModel", "has", "(I)Z"⟩, 24) := ⟨⟨by decide +kernel, by decide +kernel⟩, List.mem_of_getElem? (i := 373) (by decide +kernel), List.mem_of_getElem? (i := 460) (by decide +kernel), List.mem_of_getElem? (i := 461) (by decide +kernel)⟩
theorem lw_p10 : lw_okq (⟨"TreapVersionsModel", "freeHandle", "()I"⟩, 24) := ⟨⟨by decide +kernel, by decide +kernel⟩, List.mem_of_getElem? (i := 373) (by decide +kernel), List.mem_of_getElem? (i := 464) (by decide +kernel), List.mem_of_getElem? (i := 465) (by decide +kernel)⟩
theorem lw_p11 : lw_okq (⟨"TreapVersionsModel", "begin", "()V"⟩, 24) := ⟨⟨by decide +kernel, by decide +kernel⟩, List.mem_of_getElem? (i := 373) (by decide +kernel), List.mem_of_getElem? (i := 468) (by decide +kernel), List.mem_of_getElem? (i := 469) (by decide +kernel)⟩
theorem lw_p12 : lw_okq (⟨"TreapVersionsModel", "markAll", "()I"⟩, 24) := ⟨⟨by decide +kernel, by decide +kernel⟩, List.mem_of_getElem? (i := 373) (by decide +kernel), List.mem_of_getElem? (i := 472) (by decide +kernel), List.mem_of_getElem? (i := 473) (by decide +kernel)⟩
theorem lw_p13 : lw_okq (⟨"TreapVersionsModel", "mark", "(I[Z)I"⟩, 24) := ⟨⟨by decide +kernel, by decide +kernel⟩, List.mem_of_getElem? (i := 373) (by decide +kernel), List.mem_of_getElem? (i := 476) (by decide +kernel), List.mem_of_getElem? (i := 477) (by decide +kernel)⟩
theorem lw_p14 : lw_okq (⟨"TreapVersionsModel", "find", "(II)I"⟩, 24) := ⟨⟨by decide +kernel, by decide +kernel⟩, List.mem_of_getElem? (i := 373) (by decide +kernel), List.mem_of_getElem? (i := 480) (by decide +kernel), List.mem_of_getElem? (i := 481) (by decide +kernel)⟩
theorem lw_p15 : lw_okq (⟨"TreapVersionsModel", "go", "(IIZ)V"⟩, 24) := ⟨⟨by decide +kernel, by decide +kernel⟩, List.mem_of_getElem? (i := 373) (by decide +kernel), List.mem_of_getElem? (i := 484) (by decide +kernel), List.mem_of_getElem? (i := 485) (by decide +kernel)⟩
def lw_privs_1 : List (MethodName × Nat) := [(⟨"TreapVersions", "handleFor", "(I)I"⟩, 6), (⟨"TreapVersions", "makeRoom", "(I)Z"⟩, 6), (⟨"TreapVersions", "reachLive", "()I"⟩, 6), (⟨"TreapVersions$Store", "pend", "(II)I"⟩, 11), (⟨"TreapVersions", "drawWeight", "()I"⟩, 6), (⟨"TreapVersions$Store", "freePlace", "()I"⟩, 11), (⟨"TreapVersions", "open", "(II)I"⟩, 6), (⟨"TreapVersions", "nodeWith", "(II)I"⟩, 6), (⟨"java/lang/Throwable", "fillInStackTrace", "(I)Ljava/lang/Throwable;"⟩, 6), (⟨"TreapVersionsModel", "has", "(I)Z"⟩, 24), (⟨"TreapVersionsModel", "freeHandle", "()I"⟩, 24), (⟨"TreapVersionsModel", "begin", "()V"⟩, 24), (⟨"TreapVersionsModel", "markAll", "()I"⟩, 24), (⟨"TreapVersionsModel", "mark", "(I[Z)I"⟩, 24), (⟨"TreapVersionsModel", "find", "(II)I"⟩, 24), (⟨"TreapVersionsModel", "go", "(IIZ)V"⟩, 24)]
theorem lw_r1 : ∀ q ∈ lw_privs_1, lw_okq q := List.forall_mem_cons.mpr ⟨lw_p0, List.forall_mem_cons.mpr ⟨lw_p1, List.forall_mem_cons.mpr ⟨lw_p2, List.forall_mem_cons.mpr ⟨lw_p3, List.forall_mem_cons.mpr ⟨lw_p4, List.forall_mem_cons.mpr ⟨lw_p5, List.forall_mem_cons.mpr ⟨lw_p6, List.forall_mem_cons.mpr ⟨lw_p7, List.forall_mem_cons.mpr ⟨lw_p8, List.forall_mem_cons.mpr ⟨lw_p9, List.forall_mem_cons.mpr ⟨lw_p10, List.forall_mem_cons.mpr ⟨lw_p11, List.forall_mem_cons.mpr ⟨lw_p12, List.forall_mem_cons.mpr ⟨lw_p13, List.forall_mem_cons.mpr ⟨lw_p14, List.forall_mem_cons.mpr ⟨lw_p15, fun _ h => absurd h List.not_mem_nil⟩⟩⟩⟩⟩⟩⟩⟩⟩⟩⟩⟩⟩⟩⟩⟩
theorem lw_p16 : lw_okq (⟨"TreapVersionsModel", "takes", "(I)Z"⟩, 24) := ⟨⟨by decide +kernel, by decide +kernel⟩, List.mem_of_getElem? (i := 373) (by decide +kernel), List.mem_of_getElem? (i := 488) (by decide +kernel), List.mem_of_getElem? (i := 489) (by decide +kernel)⟩
theorem lw_p17 : lw_okq (⟨"TreapVersionsModel", "putValue", "(II)V"⟩, 24) := ⟨⟨by decide +kernel, by decide +kernel⟩, List.mem_of_getElem? (i := 373) (by decide +kernel), List.mem_of_getElem? (i := 492) (by decide +kernel), List.mem_of_getElem? (i := 493) (by decide +kernel)⟩
theorem lw_p18 : lw_okq (⟨"TreapVersionsModel", "copy", "(I)I"⟩, 24) := ⟨⟨by decide +kernel, by decide +kernel⟩, List.mem_of_getElem? (i := 373) (by decide +kernel), List.mem_of_getElem? (i := 496) (by decide +kernel), List.mem_of_getElem? (i := 497) (by decide +kernel)⟩
theorem lw_p19 : lw_okq (⟨"TreapVersionsModel", "make", "(IIIII)I"⟩, 24) := ⟨⟨by decide +kernel, by decide +kernel⟩, List.mem_of_getElem? (i := 373) (by decide +kernel), List.mem_of_getElem? (i := 500) (by decide +kernel), List.mem_of_getElem? (i := 501) (by decide +kernel)⟩
theorem lw_p20 : lw_okq (⟨"TreapVersionsModel", "hang", "(I)V"⟩, 24) := ⟨⟨by decide +kernel, by decide +kernel⟩, List.mem_of_getElem? (i := 373) (by decide +kernel), List.mem_of_getElem? (i := 504) (by decide +kernel), List.mem_of_getElem? (i := 505) (by decide +kernel)⟩
theorem lw_p21 : lw_okq (⟨"TreapVersionsModel", "holeAt", "(IZ)V"⟩, 24) := ⟨⟨by decide +kernel, by decide +kernel⟩, List.mem_of_getElem? (i := 373) (by decide +kernel), List.mem_of_getElem? (i := 508) (by decide +kernel), List.mem_of_getElem? (i := 509) (by decide +kernel)⟩
theorem lw_p22 : lw_okq (⟨"TreapVersionsModel", "putNew", "(II)V"⟩, 24) := ⟨⟨by decide +kernel, by decide +kernel⟩, List.mem_of_getElem? (i := 373) (by decide +kernel), List.mem_of_getElem? (i := 512) (by decide +kernel), List.mem_of_getElem? (i := 513) (by decide +kernel)⟩
theorem lw_p23 : lw_okq (⟨"TreapVersionsModel", "above", "(II)Z"⟩, 24) := ⟨⟨by decide +kernel, by decide +kernel⟩, List.mem_of_getElem? (i := 373) (by decide +kernel), List.mem_of_getElem? (i := 517) (by decide +kernel), List.mem_of_getElem? (i := 518) (by decide +kernel)⟩
theorem lw_p24 : lw_okq (⟨"TreapVersionsModel", "settle", "(I)I"⟩, 24) := ⟨⟨by decide +kernel, by decide +kernel⟩, List.mem_of_getElem? (i := 373) (by decide +kernel), List.mem_of_getElem? (i := 525) (by decide +kernel), List.mem_of_getElem? (i := 526) (by decide +kernel)⟩
theorem lw_p25 : lw_okq (⟨"TreapVersionsModel", "joint", "(II)V"⟩, 24) := ⟨⟨by decide +kernel, by decide +kernel⟩, List.mem_of_getElem? (i := 373) (by decide +kernel), List.mem_of_getElem? (i := 529) (by decide +kernel), List.mem_of_getElem? (i := 530) (by decide +kernel)⟩
theorem lw_p26 : lw_okq (⟨"TreapVersionsModel", "greatest", "(I)I"⟩, 24) := ⟨⟨by decide +kernel, by decide +kernel⟩, List.mem_of_getElem? (i := 373) (by decide +kernel), List.mem_of_getElem? (i := 541) (by decide +kernel), List.mem_of_getElem? (i := 542) (by decide +kernel)⟩
theorem lw_p27 : lw_okq (⟨"TreapVersionsModel", "least", "(I)I"⟩, 24) := ⟨⟨by decide +kernel, by decide +kernel⟩, List.mem_of_getElem? (i := 373) (by decide +kernel), List.mem_of_getElem? (i := 545) (by decide +kernel), List.mem_of_getElem? (i := 546) (by decide +kernel)⟩
theorem lw_p28 : lw_okq (⟨"TreapVersionsModel", "clear", "()V"⟩, 24) := ⟨⟨by decide +kernel, by decide +kernel⟩, List.mem_of_getElem? (i := 373) (by decide +kernel), List.mem_of_getElem? (i := 569) (by decide +kernel), List.mem_of_getElem? (i := 570) (by decide +kernel)⟩
theorem lw_p29 : lw_okq (⟨"TreapVersionsModel", "fail", "(I)I"⟩, 24) := ⟨⟨by decide +kernel, by decide +kernel⟩, List.mem_of_getElem? (i := 373) (by decide +kernel), List.mem_of_getElem? (i := 581) (by decide +kernel), List.mem_of_getElem? (i := 582) (by decide +kernel)⟩
theorem lw_p30 : lw_okq (⟨"TreapVersionsModel", "rank", "(I)I"⟩, 24) := ⟨⟨by decide +kernel, by decide +kernel⟩, List.mem_of_getElem? (i := 373) (by decide +kernel), List.mem_of_getElem? (i := 585) (by decide +kernel), List.mem_of_getElem? (i := 586) (by decide +kernel)⟩
theorem lw_p31 : lw_okq (⟨"TreapVersionsModel", "union", "(II)I"⟩, 24) := ⟨⟨by decide +kernel, by decide +kernel⟩, List.mem_of_getElem? (i := 373) (by decide +kernel), List.mem_of_getElem? (i := 602) (by decide +kernel), List.mem_of_getElem? (i := 603) (by decide +kernel)⟩
def lw_privs_2 : List (MethodName × Nat) := [(⟨"TreapVersionsModel", "takes", "(I)Z"⟩, 24), (⟨"TreapVersionsModel", "putValue", "(II)V"⟩, 24), (⟨"TreapVersionsModel", "copy", "(I)I"⟩, 24), (⟨"TreapVersionsModel", "make", "(IIIII)I"⟩, 24), (⟨"TreapVersionsModel", "hang", "(I)V"⟩, 24), (⟨"TreapVersionsModel", "holeAt", "(IZ)V"⟩, 24), (⟨"TreapVersionsModel", "putNew", "(II)V"⟩, 24), (⟨"TreapVersionsModel", "above", "(II)Z"⟩, 24), (⟨"TreapVersionsModel", "settle", "(I)I"⟩, 24), (⟨"TreapVersionsModel", "joint", "(II)V"⟩, 24), (⟨"TreapVersionsModel", "greatest", "(I)I"⟩, 24), (⟨"TreapVersionsModel", "least", "(I)I"⟩, 24), (⟨"TreapVersionsModel", "clear", "()V"⟩, 24), (⟨"TreapVersionsModel", "fail", "(I)I"⟩, 24), (⟨"TreapVersionsModel", "rank", "(I)I"⟩, 24), (⟨"TreapVersionsModel", "union", "(II)I"⟩, 24)]
theorem lw_r2 : ∀ q ∈ lw_privs_2, lw_okq q := List.forall_mem_cons.mpr ⟨lw_p16, List.forall_mem_cons.mpr ⟨lw_p17, List.forall_mem_cons.mpr ⟨lw_p18, List.forall_mem_cons.mpr ⟨lw_p19, List.forall_mem_cons.mpr ⟨lw_p20, List.forall_mem_cons.mpr ⟨lw_p21, List.forall_mem_cons.mpr ⟨lw_p22, List.forall_mem_cons.mpr ⟨lw_p23, List.forall_mem_cons.mpr ⟨lw_p24, List.forall_mem_cons.mpr ⟨lw_p25, List.forall_mem_cons.mpr ⟨lw_p26, List.forall_mem_cons.mpr ⟨lw_p27, List.forall_mem_cons.mpr ⟨lw_p28, List.forall_mem_cons.mpr ⟨lw_p29, List.forall_mem_cons.mpr ⟨lw_p30, List.forall_mem_cons.mpr ⟨lw_p31, fun _ h => absurd h List.not_mem_nil⟩⟩⟩⟩⟩⟩⟩⟩⟩⟩⟩⟩⟩⟩⟩⟩
def lw_privs : List (MethodName × Nat) := lw_privs_1 ++ (lw_privs_2)
def lw_tbl : List Cond := k2_sels lw_privs ++ tables_1
theorem lw_privs_ok : ∀ q ∈ lw_privs, lw_okq q := by
  show ∀ q ∈ lw_privs_1 ++ (lw_privs_2), lw_okq q
  exact List.forall_mem_append.mpr ⟨lw_r1, lw_r2⟩
end
section
/-! ===== BEGIN words of one list among another's, by their places ===== -/
theorem goodIn_r {big : List Cond} (ws : List Cond) (ps : List Nat) (hp : ws = ps.filterMap (fun i => big[i]?)) (h : ws.all goodWord = true) : GoodIn big ws := by
  intro w hw
  have h1 := List.all_eq_true.mp h w hw
  rw [hp] at hw
  obtain ⟨i, -, hi⟩ := List.mem_filterMap.mp hw
  have hm : w ∈ big := by first | exact List.mem_of_getElem? hi | exact List.getElem?_mem hi
  exact ⟨hm, good_of_word h1⟩
theorem goodIn_app {big a b : List Cond} (ha : GoodIn big a) (hb : GoodIn big b) : GoodIn big (a ++ b) := fun w h => (List.mem_append.mp h).elim (ha w) (hb w)
theorem goodIn_ca {big a b : List Cond} {c : Cond} (ha : GoodIn big (c :: a)) (hb : GoodIn big b) : GoodIn big (c :: (a ++ b)) := fun w h => (List.mem_cons.mp h).elim (fun e => ha w (List.mem_cons.mpr (Or.inl e))) (fun h => (List.mem_append.mp h).elim (fun h => ha w (List.mem_cons.mpr (Or.inr h))) (hb w))
theorem goodIn_sub {big ws : List Cond} (hm : ∀ w ∈ ws, w ∈ big) (h : ws.all goodWord = true) : GoodIn big ws := fun w hw => ⟨hm w hw, good_of_word (List.all_eq_true.mp h w hw)⟩
/-! ===== END ===== -/

/-! ===== BEGIN exceptions that leave a method, and their catching by the caller (launches without stack traces) ===== -/
section VXA
/-! The laws vx_back, vx_callV, vx_callS, vx_callSW, vx_throw0, vx_throwS follow proofs of the library, with one case more: JvmDerived/Free/Laws.lean (Back.of_free), Shelf42/LK1.lean (callV, callS), Shelf/KitTraced.lean (throwNew0V, throwNewS). -/
/-- where a method has thrown q: the class by its name, the cell, what was written, the world -/
def vx_T (XC : String → State → State → Prop) (st : State) (q : Addr) (t : State) (mc ms : Nat) (free : Addr → Prop) : Prop :=
  ∃ (E : String) (ce : Cell) (L : List Loc), XC E st t ∧ t.heap[q]? = some ce ∧ ce.vm = .none ∧ st.vm.findClass E = some ce.cls ∧ st.WarmedH t.vm ∧ st.sameButNew ({ t with vm := st.vm } : State) L mc ms ∧ ∀ z ∈ L, free z.base
def vx_Q (Qc : Array Value → State → Outcome → State → Prop) (XC : String → State → State → Prop) (mc ms : Nat) (free : Addr → Prop) : Array Value → State → Outcome → State → Prop := fun a st o t =>
  (Qc a st o t ∧ ∃ L, FrameEnd st o t L mc ms ∧ ∀ q ∈ L, free q.base) ∨ ∃ q, o = .threw q ∧ vx_T XC st q t mc ms free
/-- a callee that returns or throws -/
def vx_Met (l : Launch) (y : MethodName) (ws : List Cond) (rm : Room) (Pc : Array Value → State → Prop) (Qc : Array Value → State → Outcome → State → Prop) (XC : String → State → State → Prop) (mc ms : Nat) (free : Addr → Prop) : Prop :=
  MetFree l y (headSpec ws rm) Pc (fun _ _ _ _ _ => True) (vx_Q Qc XC mc ms free)
def vx_Post (XC : String → State → State → Prop) (mc ms : Nat) (free : Addr → Prop) : Pt → Array Value → Addr → Pt → Prop := fun A a q B =>
  ∃ (g : JFrame) (mk : MethodId) (t : State) (L : List Loc) (E : String) (ce : Cell), B.U.heap = t.heap ∧ B.U.vm = t.vm ∧ XC E (A.U.calling g mk a) t ∧ t.heap[q]? = some ce ∧ ce.vm = .none ∧ A.U.vm.findClass E = some ce.cls ∧ B.locs = A.locs ++ L ∧ (∀ z ∈ L, free z.base) ∧ B.cells = A.cells + mc ∧ B.slots = A.slots + ms
def vx_Back (l : Launch) (R : Room) (p : Program) (e : Env) (below : List Frame) (s : State) (sargs : Array Value) (y : MethodName) (len W9 : Nat)
    (Pre : Pt → Array Value → Prop) (Post : Pt → Array Value → Option Value → Pt → Prop) (PostX : Pt → Array Value → Addr → Pt → Prop) : Prop :=
  ∀ (m : MethodId) (meth : Method) (c : Code) (A : Pt) (g : JFrame) (ig : Instr) (mk : MethodId) (a : Array Value),
    Stand p l e R s m sargs below meth c A.U A.locs A.cells A.slots → g.method = m → g.locals.size = c.maxLocals → decode c.code g.pc = .ok (ig, len) →
    2 * g.monitorRoom + (g.stack.map fun v => v.category).sum ≤ W9 → A.U.methodNamed? y = some mk → Pre A a →
    (∃ (v : Option Value) (B : Pt), Stand p l e R s m sargs below meth c B.U B.locs B.cells B.slots ∧ Post A a v B ∧
      Steps p.tables e below (doInvoke e (A.U.setTop g) [] mk a).1 (B.U.setTop { g with pc := g.pc + len, stack := v.toList ++ g.stack })) ∨
    (∃ (q : Addr) (B : Pt), Stand p l e R s m sargs below meth c B.U B.locs B.cells B.slots ∧ PostX A a q B ∧
      Steps p.tables e below (doInvoke e (A.U.setTop g) [] mk a).1 ((B.U.setTop g).pushFrame (.throwing q)))
section Payer
variable {l : Launch} {R : Room} {p : Program} {e : Env} {below : List Frame} {s : State} {sargs : Array Value} {y : MethodName} {len W9 : Nat}
theorem vx_back {ws : List Cond} {rm : Room} {Pc : Array Value → State → Prop} {Qc : Array Value → State → Outcome → State → Prop} {XC : String → State → State → Prop} {mc ms : Nat} {free : Addr → Prop} {bytes : ByteArray} {maxL : Nat} {ret : Option FieldType}
    (hM : vx_Met l y ws rm Pc Qc XC mc ms free) (hblind : FrameBlind Pc) (hrc : rm.cells = mc) (hrs : rm.slots = ms)
    (hframes : rm.frames + 1 ≤ R.frames) (hlocals : W9 + (maxL + 11) + rm.locals ≤ R.locals)
    (hws : ∀ w ∈ ws, ∀ a' U, s.WarmedH U.vm → w.before a' U = true) (hcode : Cond.code y bytes maxL ret ∈ ws) (hinit : ∀ a' U, s.WarmedH U.vm → (Cond.initialized y.cls).before a' U = true) :
    vx_Back l R p e below s sargs y len W9 (PreOf R mc ms Pc) (PostOf Qc mc ms free) (vx_Post XC mc ms free) := by
  intro m meth c A g ig mk a X hg hsize hdg hW hn hp
  have h1 : (headSpec ws rm).pre.before a A.U = true := atoms_intro fun w hw => hws w hw _ _ X.warmed
  have h2 : (Cond.code y bytes maxL ret).before a A.U = true := hws _ hcode _ _ X.warmed
  have h3 : (Cond.initialized y.cls).before a A.U = true := hinit _ _ X.warmed
  have h4 : A.cells + (headSpec ws rm).room.cells ≤ R.cells := by rw [show (headSpec ws rm).room.cells = mc from hrc]; exact hp.1
  have h5 : A.slots + (headSpec ws rm).room.slots ≤ R.slots := by rw [show (headSpec ws rm).room.slots = ms from hrs]; exact hp.2.1
  have hPc : Pc a (A.U.calling g mk a) := hblind _ _ _ _ hp.2.2
  obtain ⟨U, Ls, c0, s0⟩ := A
  dsimp only [Pt.U, Pt.locs, Pt.cells, Pt.slots] at h1 h2 h3 h4 h5 X hn hPc ⊢
  obtain ⟨methY, cY, hmY, hcY, -, hlY, -, -, -, -⟩ := Cond.code_spec hn h2
  obtain ⟨kY, hkY, -⟩ := className_of_methodNamed hn
  have hinitY : kY.init = .initialized := Cond.initialized_spec (findClass_of_methodNamed hn) hkY h3
  have h : At U g.method c below := by rw [hg]; exact X.here
  have hlocals9 : W9 + (maxL + 11) + (headSpec ws rm).room.locals ≤ R.locals := hlocals
  have happ : (headSpec ws rm).appliesLoose y e.platform (U.calling g mk a) = true :=
    Spec.appliesLoose_calling (g := g) h hdg hn hkY hinitY
      (X.room_calling (g := g) (R' := (headSpec ws rm).room) hsize hmY hcY hframes (by rw [hlY]; omega) h4 h5) h1
  obtain ⟨mid, hmid⟩ := h.above
  have hfr : (U.setTop g).frames = (.java g :: mid) ++ below := by rw [State.frames_setTop' g h.top, hmid]; rfl
  obtain ⟨o, s₂, hsteps, -, hend, hq⟩ := Steps.callFree hM p X.admits X.cas X.clock (acts := []) hfr happ hPc trivial
  have hq' : vx_Q Qc XC mc ms free a (U.calling g mk a) o s₂ := hq
  rw [State.frames_setTop' g h.top] at hend
  obtain ⟨g₀, hg0⟩ := Option.isSome_iff_exists.mp h.top
  obtain ⟨r, hr⟩ := State.topJava?_eq_some.mp hg0
  have hr' : (({ U with heap := s₂.heap, slotsUsed := s₂.slotsUsed } : State).setVm s₂.vm).frames = .java g₀ :: r := hr
  rcases hq' with ⟨hqc, L, hfe, hL⟩ | ⟨q, rfl, E, ce, L, hx, hce, hcv, hcl, hW₂, hsm, hL⟩
  · obtain ⟨⟨v, rfl⟩, hW₂, e2, q2, q3, q4, q5, q6⟩ := id hfe
    have e3 : s₂ = ({ (U.calling g mk a).setFrames s₂.frames with heap := s₂.heap, slotsUsed := s₂.slotsUsed } : State).setVm s₂.vm := by
      have : s₂ = ({ s₂ with vm := (U.calling g mk a).vm } : State).setVm s₂.vm := rfl
      rw [e2] at this
      exact this
    obtain ⟨c₂, i₂, len₂, hc₂, hd₂, hf₂⟩ := hend
    have hW' : U.WarmedH s₂.vm := hW₂
    have hcc : c₂ = c := by
      have h1 : s₂.code? g.method = U.code? g.method := by
        rw [State.code?_eq, State.code?_eq, hW'.alike.method?]
      exact Option.some.inj (hc₂.symm.trans (h1.trans h.code))
    subst hcc
    have hlen : len₂ = len := by rw [hdg] at hd₂; cases hd₂; rfl
    subst hlen
    have hs₂ : s₂ = (({ U with heap := s₂.heap, slotsUsed := s₂.slotsUsed } : State).setVm s₂.vm).setTop { g with pc := g.pc + len₂, stack := v.toList ++ g.stack } := by
      refine e3.trans ?_
      rw [hf₂, State.calling_eq h.top, State.setFrames_setFrames, State.setTop_of_frames _ hr', hr]
      rfl
    have hsame : U.sameButNew ({ U with heap := s₂.heap, slotsUsed := s₂.slotsUsed } : State) L mc ms := by
      refine ⟨?_, q2, q3, q4, q5, q6⟩
      obtain ⟨t, ht, -⟩ := State.frames_cons hr
      show ({ U with heap := s₂.heap, slotsUsed := s₂.slotsUsed } : State) = { U.setFrames U.frames with heap := s₂.heap, slotsUsed := s₂.slotsUsed }
      rw [State.setFrames_self ht]
    subst hg
    refine Or.inl ⟨v, ⟨(({ U with heap := s₂.heap, slotsUsed := s₂.slotsUsed } : State).setVm s₂.vm), Ls ++ L, c0 + mc, s0 + ms⟩,
      ⟨X.admits, X.cas, X.clock, X.frames, X.room, X.hears, X.method, X.code, (X.here.setHeapUsed s₂.heap s₂.slotsUsed).setVm hW'.alike, X.tail, State.WarmedH.trans X.warmed hW', X.limits, X.bytes, X.same.trans (hsame.setVm s.vm)⟩,
      ⟨g, mk, s₂, L, rfl, rfl, hqc, rfl, hL, rfl, rfl⟩, ?_⟩
    show Steps p.tables e below _ ((({ U with heap := s₂.heap, slotsUsed := s₂.slotsUsed } : State).setVm s₂.vm).setTop { g with pc := g.pc + len₂, stack := v.toList ++ g.stack })
    rw [← hs₂]
    exact hsteps
  · obtain ⟨e2, q2, q3, q4, q5, q6⟩ := id hsm
    have e3 : s₂ = ({ (U.calling g mk a).setFrames s₂.frames with heap := s₂.heap, slotsUsed := s₂.slotsUsed } : State).setVm s₂.vm := by
      have : s₂ = ({ s₂ with vm := (U.calling g mk a).vm } : State).setVm s₂.vm := rfl
      rw [e2] at this
      exact this
    have hf₂ : s₂.frames = .throwing q :: .java g :: U.frames.tail := hend
    have hW' : U.WarmedH s₂.vm := hW₂
    have hs₂ : s₂ = ((({ U with heap := s₂.heap, slotsUsed := s₂.slotsUsed } : State).setVm s₂.vm).setTop g).pushFrame (.throwing q) := by
      refine e3.trans ?_
      rw [hf₂, State.calling_eq h.top, State.setFrames_setFrames, State.pushFrame, State.frames_setTop _ hr', State.setTop_of_frames _ hr', State.setFrames_setFrames, hr]
      rfl
    have hsame : U.sameButNew ({ U with heap := s₂.heap, slotsUsed := s₂.slotsUsed } : State) L mc ms := by
      refine ⟨?_, q2, q3, q4, q5, q6⟩
      obtain ⟨t, ht, -⟩ := State.frames_cons hr
      show ({ U with heap := s₂.heap, slotsUsed := s₂.slotsUsed } : State) = { U.setFrames U.frames with heap := s₂.heap, slotsUsed := s₂.slotsUsed }
      rw [State.setFrames_self ht]
    subst hg
    refine Or.inr ⟨q, ⟨(({ U with heap := s₂.heap, slotsUsed := s₂.slotsUsed } : State).setVm s₂.vm), Ls ++ L, c0 + mc, s0 + ms⟩,
      ⟨X.admits, X.cas, X.clock, X.frames, X.room, X.hears, X.method, X.code, (X.here.setHeapUsed s₂.heap s₂.slotsUsed).setVm hW'.alike, X.tail, State.WarmedH.trans X.warmed hW', X.limits, X.bytes, X.same.trans (hsame.setVm s.vm)⟩,
      ⟨g, mk, s₂, L, E, ce, rfl, rfl, hx, hce, hcv, hcl, rfl, hL, rfl, rfl⟩, ?_⟩
    show Steps p.tables e below _ (((({ U with heap := s₂.heap, slotsUsed := s₂.slotsUsed } : State).setVm s₂.vm).setTop g).pushFrame (.throwing q))
    rw [← hs₂]
    exact hsteps
end Payer
section Calls
variable {p : Program} {l : Launch} {e : Env} {R : Room} {s : State} {m : MethodId} {args : Array Value} {below : List Frame} {meth : Method} {c : Code} {T : State} {locs : List Loc} {cells slots : Nat}
theorem vx_callV (X : Stand p l e R s m args below meth c T locs cells slots) (hexec : p.tables.exec = Jvm.exec) {own C : String} {index : Nat} {y : MethodName} {bytes : ByteArray} {maxL : Nat} {ret : Option FieldType}
    (hown : s.vm.findClass own = some m.cls) (hlink : (Cond.methodLink own index y).before args s = true) (hinst : (Cond.instanceMethod y).before args s = true) (hsel : (Cond.selects C y y).before args s = true)
    (hcode : (Cond.code y bytes maxL ret).before args s = true) (hy : y.cls ≠ "java/lang/invoke/MethodHandle" ∧ y.cls ≠ "java/lang/invoke/VarHandle")
    {W9 : Nat} {Pre : Pt → Array Value → Prop} {Post : Pt → Array Value → Option Value → Pt → Prop} {PostX : Pt → Array Value → Addr → Pt → Prop} (hK : vx_Back l R p e below s args y 3 W9 Pre Post PostX)
    {b : Addr} {cellB : Cell} (hcell : T.heap[b]? = some cellB) (hobj : cellB.vm.isStatics = false) (hcls : s.vm.findClass C = some cellB.cls)
    {g : JFrame} (hg : g.method = m) (hsize : g.locals.size = c.maxLocals) {argsL rest : List Value} (hlen : ∀ sig, parseMethodDescriptor y.desc = some sig → argsL.length = sig.parameters.length)
    (hstack : g.stack = argsL.reverse ++ .ref b :: rest) (hW : 2 * g.monitorRoom + (rest.map fun v => v.category).sum ≤ W9) (hdg : decode c.code g.pc = .ok (.invokevirtual index, 3))
    (hpre : ∀ vm₁, s.WarmedH vm₁ → Pre ⟨T.setVm vm₁, locs, cells, slots⟩ (Value.ref b :: argsL).toArray) :
    (∃ (v : Option Value) (vm₁ : Vm) (B : Pt), s.WarmedH vm₁ ∧ Stand p l e R s m args below meth c B.U B.locs B.cells B.slots ∧ Post ⟨T.setVm vm₁, locs, cells, slots⟩ (Value.ref b :: argsL).toArray v B ∧
      ∀ target, Steps p.tables e below (B.U.setTop { g with pc := g.pc + 3, stack := v.toList ++ rest }) target → Steps p.tables e below (T.setTop g) target) ∨
    (∃ (q : Addr) (vm₁ : Vm) (B : Pt), s.WarmedH vm₁ ∧ Stand p l e R s m args below meth c B.U B.locs B.cells B.slots ∧ PostX ⟨T.setVm vm₁, locs, cells, slots⟩ (Value.ref b :: argsL).toArray q B ∧
      Steps p.tables e below (T.setTop g) ((B.U.setTop { g with stack := rest }).pushFrame (.throwing q))) := by
  obtain ⟨mk, methM, hnamed, hmethM, hstM, habM⟩ := Cond.instanceMethod_spec hinst
  obtain ⟨methM', cM, hmethM', -, -, -, -, -, -, hsigM⟩ := Cond.code_spec hnamed hcode
  cases hmethM.symm.trans hmethM'
  obtain ⟨c2, r2, m2, q1, q2, q3, q4, kP, hkP, hkPi⟩ := Cond.selects_spec hsel
  cases hcls.symm.trans q1
  cases (State.methodFound?_of_named hnamed hy).symm.trans q2
  cases hnamed.symm.trans q3
  have hselP : selectMethod e.platform s.vm cellB.cls mk = .method mk := by rw [Launch.admits_selectMethod X.admits]; exact q4
  obtain ⟨vm₁, X₁, hstep₁⟩ := X.invokevirtual hexec hown hlink hnamed hmethM hstM hkP hkPi hy (a := b) (cell := cellB) hcell
    (fun z h => by rw [h] at hobj; cases hobj) hselP hmethM habM hkP hkPi (g := g) hg (argsL := argsL) (rest := rest) (hlen _ hsigM) hstack hdg
  rcases hK m meth c ⟨T.setVm vm₁, locs, cells, slots⟩ { g with stack := rest } (.invokevirtual index) mk (Value.ref b :: argsL).toArray X₁ hg hsize hdg hW (X₁.named hnamed) (hpre vm₁ X₁.warmed) with ⟨v, B, X', hpost, hsteps⟩ | ⟨q, B, X', hpost, hsteps⟩
  · exact Or.inl ⟨v, vm₁, B, X₁.warmed, X', hpost, fun target h => hstep₁ _ fun acts => by rw [doInvoke_state]; exact hsteps.trans h⟩
  · exact Or.inr ⟨q, vm₁, B, X₁.warmed, X', hpost, hstep₁ _ fun acts => by rw [doInvoke_state]; exact hsteps⟩
theorem vx_callS (X : Stand p l e R s m args below meth c T locs cells slots) (hexec : p.tables.exec = Jvm.exec) {own : String} {index : Nat} {y : MethodName} {bytes : ByteArray} {maxL : Nat} {ret : Option FieldType}
    (hown : s.vm.findClass own = some m.cls) (hlink : (Cond.methodLink own index y).before args s = true) (hstat : (Cond.static y).before args s = true) (hinit : (Cond.initialized y.cls).before args s = true)
    (hcode : (Cond.code y bytes maxL ret).before args s = true) (hy : y.cls ≠ "java/lang/invoke/MethodHandle" ∧ y.cls ≠ "java/lang/invoke/VarHandle")
    {W9 : Nat} {Pre : Pt → Array Value → Prop} {Post : Pt → Array Value → Option Value → Pt → Prop} {PostX : Pt → Array Value → Addr → Pt → Prop} (hK : vx_Back l R p e below s args y 3 W9 Pre Post PostX)
    {g : JFrame} (hg : g.method = m) (hsize : g.locals.size = c.maxLocals) {argsL rest : List Value} (hlen : ∀ sig, parseMethodDescriptor y.desc = some sig → argsL.length = sig.parameters.length)
    (hstack : g.stack = argsL.reverse ++ rest) (hW : 2 * g.monitorRoom + (rest.map fun v => v.category).sum ≤ W9) (hdg : decode c.code g.pc = .ok (.invokestatic index, 3))
    (hpre : ∀ vm₁, s.WarmedH vm₁ → Pre ⟨T.setVm vm₁, locs, cells, slots⟩ argsL.toArray) :
    (∃ (v : Option Value) (vm₁ : Vm) (B : Pt), s.WarmedH vm₁ ∧ Stand p l e R s m args below meth c B.U B.locs B.cells B.slots ∧ Post ⟨T.setVm vm₁, locs, cells, slots⟩ argsL.toArray v B ∧
      ∀ target, Steps p.tables e below (B.U.setTop { g with pc := g.pc + 3, stack := v.toList ++ rest }) target → Steps p.tables e below (T.setTop g) target) ∨
    (∃ (q : Addr) (vm₁ : Vm) (B : Pt), s.WarmedH vm₁ ∧ Stand p l e R s m args below meth c B.U B.locs B.cells B.slots ∧ PostX ⟨T.setVm vm₁, locs, cells, slots⟩ argsL.toArray q B ∧
      Steps p.tables e below (T.setTop g) ((B.U.setTop { g with stack := rest }).pushFrame (.throwing q))) := by
  obtain ⟨mk, hnamed⟩ := Cond.code_named hcode
  obtain ⟨methM, cM, hmethM, -, -, -, -, -, -, hsigM⟩ := Cond.code_spec hnamed hcode
  have hstatic : methM.isStatic = true := Cond.static_spec hnamed hmethM hstat
  obtain ⟨kP, hkP, -⟩ := className_of_methodNamed hnamed
  have hinitP : kP.init = .initialized := Cond.initialized_spec (findClass_of_methodNamed hnamed) hkP hinit
  obtain ⟨vm₁, X₁, hstep₁⟩ := X.invokestatic hexec hown hlink hnamed hmethM hstatic hkP hinitP hy (g := g) hg (argsL := argsL) (rest := rest) (hlen _ hsigM) hstack hdg
  rcases hK m meth c ⟨T.setVm vm₁, locs, cells, slots⟩ { g with stack := rest } (.invokestatic index) mk argsL.toArray X₁ hg hsize hdg hW (X₁.named hnamed) (hpre vm₁ X₁.warmed) with ⟨v, B, X', hpost, hsteps⟩ | ⟨q, B, X', hpost, hsteps⟩
  · exact Or.inl ⟨v, vm₁, B, X₁.warmed, X', hpost, fun target h => hstep₁ _ fun acts => by rw [doInvoke_state]; exact hsteps.trans h⟩
  · exact Or.inr ⟨q, vm₁, B, X₁.warmed, X', hpost, hstep₁ _ fun acts => by rw [doInvoke_state]; exact hsteps⟩
end Calls
theorem vx_cls {s : State} {T : State} {vm₁ : Vm} {E : String} {k : ClassId} (hW : s.WarmedH vm₁) (h : (T.setVm vm₁).vm.findClass E = some k) : s.vm.findClass E = some k := by
  have h1 : vm₁.findClass E = some k := h
  rw [hW.alike.findClass] at h1
  exact h1
/-- the method's frame g, with q thrown over it -/
def vx_W (p : Program) (l : Launch) (e : Env) (R : Room) (s : State) (m : MethodId) (args : Array Value) (below : List Frame) (meth : Method) (c : Code) (H : Heap) (locs : List Loc) (cells slots : Nat) (Q : State → Prop) (g : JFrame) (q : Addr) : Prop :=
  ∀ T : State, T.heap = H → Stand p l e R s m args below meth c T locs cells slots → ∃ t, Steps p.tables e below ((T.setTop g).pushFrame (.throwing q)) t ∧ Q t
def vx_Run (p : Program) (l : Launch) (e : Env) (R : Room) (s : State) (m : MethodId) (args : Array Value) (below : List Frame) (meth : Method) (c : Code) (H : Heap) (locs : List Loc) (cells slots mc ms : Nat) (g : JFrame) (rest : List Value) (Qa : State → Outcome → State → Prop) (XC : String → State → State → Prop) (free : Addr → Prop) : Prop :=
  ∀ T : State, T.heap = H → Stand p l e R s m args below meth c T locs cells slots →
    (∃ (v : Option Value) (st₀ t T' : State) (L : List Loc), st₀.heap = H ∧ Stand p l e R s m args below meth c T' (locs ++ L) (cells + mc) (slots + ms) ∧ (∀ q ∈ L, free q.base) ∧ T'.heap = t.heap ∧ T'.vm = t.vm ∧ Qa st₀ (.returned v) t ∧
      Goes p e below T g T' { g with pc := g.pc + 3, stack := v.toList ++ rest }) ∨
    (∃ (q : Addr) (st₀ t T' : State) (L : List Loc) (E : String) (ce : Cell), st₀.heap = H ∧ Stand p l e R s m args below meth c T' (locs ++ L) (cells + mc) (slots + ms) ∧ (∀ z ∈ L, free z.base) ∧ T'.heap = t.heap ∧ T'.vm = t.vm ∧ XC E st₀ t ∧ t.heap[q]? = some ce ∧ ce.vm = .none ∧ s.vm.findClass E = some ce.cls ∧
      Steps p.tables e below (T.setTop g) ((T'.setTop { g with stack := rest }).pushFrame (.throwing q)))
def vx_X {S : Type} (px : S → Prop) (B : String → S → State → Prop) (A : Nat → Prop) : String → State → State → Prop := fun E st t => ∃ u : S, px u ∧ B E u t ∧ va_F A st t
section Runs
variable {p : Program} {l : Launch} {e : Env} {R : Room} {s : State} {m : MethodId} {args : Array Value} {below : List Frame} {meth : Method} {c : Code} {H : Heap} {locs : List Loc} {cells slots : Nat}
variable {y : MethodName} {bytes cc : ByteArray} {maxL nL mc ms n index : Nat} {ret : Option FieldType} {ws : List Cond} {rm : Room} {Pc : Array Value → State → Prop} {Qc : Array Value → State → Outcome → State → Prop} {XC : String → State → State → Prop} {free : Addr → Prop} {Ts : List Cond} {own C : String} {b : Addr} {As rest : List Value} {g : JFrame}
theorem vx_callBack (cb : CallB R s args own index y bytes maxL ret ws rm mc ms n) (hM : vx_Met l y ws rm Pc Qc XC mc ms free) (hbl : FrameBlind Pc) : vx_Back l R p e below s args y 3 8 (PreOf R mc ms Pc) (PostOf Qc mc ms free) (vx_Post XC mc ms free) := by
  obtain ⟨hrc, hrs, hfr, hlo, hws, hcw, -, hini, -⟩ := cb
  exact vx_back (bytes := bytes) (maxL := maxL) (ret := ret) hM hbl hrc hrs hfr hlo hws hcw (fun a' U hW => word_at hW (Or.inl (by first | rfl | simp [Cond.onTables, Cond.keeps, Cond.steady])) hini)
theorem vx_runV (S : CallFix p m c cc nL s args Ts own) (hM : vx_Met l y ws rm Pc Qc XC mc ms free) (cw : CallW R s args own C index y bytes maxL ret ws rm mc ms n) (hp : PreV s H C b Pc As)
    (hg : g.method = m) (hn : As.length = n) (hsize : g.locals.size = nL) (hstack : g.stack = As.reverse ++ .ref b :: rest) (hW : 2 * g.monitorRoom + (rest.map fun v => v.category).sum ≤ 8) (hdg : decode cc g.pc = .ok (.invokevirtual index, 3)) (hf : cells + mc ≤ R.cells ∧ slots + ms ≤ R.slots) :
    vx_Run p l e R s m args below meth c H locs cells slots mc ms g rest (Qc (Value.ref b :: As).toArray) XC free := by
  have hK : vx_Back l R p e below s args y 3 8 (PreOf R mc ms Pc) (PostOf Qc mc ms free) (vx_Post XC mc ms free) := vx_callBack cw.1 hM hp.1
  obtain ⟨⟨-, -, -, -, -, -, hcode, -, hy, hlen, hl⟩, hin, hse⟩ := cw
  obtain ⟨hx, hb, hml, ho, -⟩ := S
  obtain ⟨-, ⟨cellB, hcB, hoB, hclB⟩, hPc⟩ := hp
  intro T hT X
  rcases vx_callV X hx (C := C) (bytes := bytes) (maxL := maxL) (ret := ret) ho hl hin hse hcode hy hK (by rw [hT]; exact hcB) hoB hclB hg (hsize.trans hml.symm) (argsL := As) (rest := rest) (fun sig h => hn.trans (hlen sig h)) hstack hW (by rw [hb]; exact hdg)
    (fun vm₁ hW₁ => ⟨hf.1, hf.2, hPc (T.setVm vm₁) hT hW₁⟩) with ⟨v, vm₁, ⟨U', l2, c2, s2⟩, hW₁, X', ⟨g', mk, t, L, e1, e2, hq, h1, hL, h2, h3⟩, st⟩ | ⟨q, vm₁, ⟨U', l2, c2, s2⟩, hW₁, X', ⟨g', mk, t, L, E, ce, e1, e2, hq, hce, hcv, hcl, h1, hL, h2, h3⟩, st⟩
  · dsimp only [Pt.U, Pt.locs, Pt.cells, Pt.slots] at X' e1 e2 h1 h2 h3 st
    subst h1; subst h2; subst h3
    exact Or.inl ⟨v, (T.setVm vm₁).calling g' mk (Value.ref b :: As).toArray, t, U', L, hT, X', hL, e1, e2, hq, st⟩
  · dsimp only [Pt.U, Pt.locs, Pt.cells, Pt.slots] at X' e1 e2 h1 h2 h3 st hcl
    subst h1; subst h2; subst h3
    exact Or.inr ⟨q, (T.setVm vm₁).calling g' mk (Value.ref b :: As).toArray, t, U', L, E, ce, hT, X', hL, e1, e2, hq, hce, hcv, vx_cls hW₁ hcl, st⟩
theorem vx_runS (S : CallFix p m c cc nL s args Ts own) (hM : vx_Met l y ws rm Pc Qc XC mc ms free) (cw : CallB R s args own index y bytes maxL ret ws rm mc ms n ∧ (Cond.static y).before args s = true) (hp : PreS s H Pc As)
    (hg : g.method = m) (hn : As.length = n) (hsize : g.locals.size = nL) (hstack : g.stack = As.reverse ++ rest) (hW : 2 * g.monitorRoom + (rest.map fun v => v.category).sum ≤ 8) (hdg : decode cc g.pc = .ok (.invokestatic index, 3)) (hf : cells + mc ≤ R.cells ∧ slots + ms ≤ R.slots) :
    vx_Run p l e R s m args below meth c H locs cells slots mc ms g rest (Qc As.toArray) XC free := by
  have hK : vx_Back l R p e below s args y 3 8 (PreOf R mc ms Pc) (PostOf Qc mc ms free) (vx_Post XC mc ms free) := vx_callBack cw.1 hM hp.1
  obtain ⟨⟨-, -, -, -, -, -, hcode, hini, hy, hlen, hl⟩, hstt⟩ := cw
  obtain ⟨hx, hb, hml, ho, -⟩ := S
  intro T hT X
  rcases vx_callS X hx (bytes := bytes) (maxL := maxL) (ret := ret) ho hl hstt hini hcode hy hK hg (hsize.trans hml.symm) (argsL := As) (rest := rest) (fun sig h => hn.trans (hlen sig h)) hstack hW (by rw [hb]; exact hdg)
    (fun vm₁ hW₁ => ⟨hf.1, hf.2, hp.2 (T.setVm vm₁) hT hW₁⟩) with ⟨v, vm₁, ⟨U', l2, c2, s2⟩, hW₁, X', ⟨g', mk, t, L, e1, e2, hq, h1, hL, h2, h3⟩, st⟩ | ⟨q, vm₁, ⟨U', l2, c2, s2⟩, hW₁, X', ⟨g', mk, t, L, E, ce, e1, e2, hq, hce, hcv, hcl, h1, hL, h2, h3⟩, st⟩
  · dsimp only [Pt.U, Pt.locs, Pt.cells, Pt.slots] at X' e1 e2 h1 h2 h3 st
    subst h1; subst h2; subst h3
    exact Or.inl ⟨v, (T.setVm vm₁).calling g' mk As.toArray, t, U', L, hT, X', hL, e1, e2, hq, st⟩
  · dsimp only [Pt.U, Pt.locs, Pt.cells, Pt.slots] at X' e1 e2 h1 h2 h3 st hcl
    subst h1; subst h2; subst h3
    exact Or.inr ⟨q, (T.setVm vm₁).calling g' mk As.toArray, t, U', L, E, ce, hT, X', hL, e1, e2, hq, hce, hcv, vx_cls hW₁ hcl, st⟩
end Runs
section Rows
variable {p : Program} {l : Launch} {e : Env} {R : Room} {s : State} {m : MethodId} {args : Array Value} {below : List Frame} {meth : Method} {c : Code} {H : Heap} {locs : List Loc} {cells slots : Nat} {Q : State → Prop}
variable {mc ms : Nat} {free : Addr → Prop} {A0 A1 : Nat → Prop} {H0 : Heap} {a : Array Value} {pc : Nat} {ls : Array Slot} {st0 rest : List Value}
theorem vx_keep {st₀ t T' : State} {L : List Loc} (h0 : st₀.heap = H) (e1 : T'.heap = t.heap) (hS : va_S A0 H0 H locs) (hA : ∀ q, q < H.size → A1 q → A0 q) (hf : ∀ q, free q → A0 q) (hL : ∀ q ∈ L, free q.base) (hF : va_F A1 st₀ t) :
    H.size ≤ T'.heap.size ∧ (∀ q : Nat, q < H.size → ¬ A1 q → T'.heap[q]? = H[q]?) ∧ va_S A0 H0 T'.heap (locs ++ L) := by
  obtain ⟨hz, hk⟩ := hF
  rw [h0] at hz hk
  exact ⟨by rw [e1]; exact hz, fun q h1 h2 => by rw [e1]; exact hk q h1 h2,
    ⟨Nat.le_trans hS.1 (by rw [e1]; exact hz), fun q h1 h2 => by rw [e1, hk q (Nat.lt_of_lt_of_le h1 hS.1) (fun z => h2 (hA q (Nat.lt_of_lt_of_le h1 hS.1) z))]; exact hS.2.1 q h1 h2, fun q hq => by
      rcases List.mem_append.mp hq with h | h
      · exact hS.2.2 q h
      · exact hf _ (hL q h)⟩⟩
theorem vx_calli {S SX : Type} {post : Int32 → S → Prop} {px : SX → Prop} {B : S → State → Prop} {BX : String → SX → State → Prop} {AX : Nat → Prop} (hr : vx_Run p l e R s m args below meth c H locs cells slots mc ms (F0 m pc ls st0) rest (va_Qi post B A1 a) (vx_X px BX AX) free) (hS : va_S A0 H0 H locs) (hA : ∀ q, q < H.size → A1 q → A0 q) (hf : ∀ q, free q → A0 q) (hAX : ∀ q, q < H.size → AX q → A0 q)
    (kx : ∀ (E : String) (ce : Cell) (q9 : Addr) (u : SX) (t : State) (H1 : Heap) (locs1 : List Loc), t.heap = H1 → s.vm.Alike t.vm → px u → BX E u t → H.size ≤ H1.size → (∀ q : Nat, q < H.size → ¬ AX q → H1[q]? = H[q]?) → va_S A0 H0 H1 locs1 → H1[q9]? = some ce → ce.vm = .none → s.vm.findClass E = some ce.cls → vx_W p l e R s m args below meth c H1 locs1 (cells + mc) (slots + ms) Q (F0 m pc ls rest) q9)
    (kk : ∀ (r : Int32) (u : S) (t : State) (H1 : Heap) (locs1 : List Loc), t.heap = H1 → s.vm.Alike t.vm → post r u → B u t → H.size ≤ H1.size → (∀ q : Nat, q < H.size → ¬ A1 q → H1[q]? = H[q]?) → va_S A0 H0 H1 locs1 → W p l e R s m args below meth c H1 locs1 (cells + mc) (slots + ms) Q (F0 m (pc + 3) ls (.int r :: rest))) : W p l e R s m args below meth c H locs cells slots Q (F0 m pc ls st0) := by
  intro T hT X
  rcases hr T hT X with ⟨v, st₀, t, T', L, h0, X', hL, e1, e2, ⟨⟨r, u, hv, hp, hb⟩, hF⟩, st⟩ | ⟨q, st₀, t, T', L, E, ce, h0, X', hL, e1, e2, ⟨u, hp, hb, hF⟩, hce, hcv, hcl, st⟩
  · cases hv
    obtain ⟨k1, k2, k3⟩ := vx_keep h0 e1 hS hA hf hL hF
    obtain ⟨t2, a1, b1⟩ := kk r u t T'.heap (locs ++ L) e1.symm (by rw [← e2]; exact X'.warmed.alike) hp hb k1 k2 k3 T' rfl X'
    exact ⟨t2, st t2 a1, b1⟩
  · obtain ⟨k1, k2, k3⟩ := vx_keep h0 e1 hS hAX hf hL hF
    obtain ⟨t2, a1, b1⟩ := kx E ce q u t T'.heap (locs ++ L) e1.symm (by rw [← e2]; exact X'.warmed.alike) hp hb k1 k2 k3 (by rw [e1]; exact hce) hcv hcl T' rfl X'
    exact ⟨t2, st.trans a1, b1⟩
theorem vx_calll {S SX : Type} {post : Int64 → S → Prop} {px : SX → Prop} {B : S → State → Prop} {BX : String → SX → State → Prop} {AX : Nat → Prop} (hr : vx_Run p l e R s m args below meth c H locs cells slots mc ms (F0 m pc ls st0) rest (va_Ql post B A1 a) (vx_X px BX AX) free) (hS : va_S A0 H0 H locs) (hA : ∀ q, q < H.size → A1 q → A0 q) (hf : ∀ q, free q → A0 q) (hAX : ∀ q, q < H.size → AX q → A0 q)
    (kx : ∀ (E : String) (ce : Cell) (q9 : Addr) (u : SX) (t : State) (H1 : Heap) (locs1 : List Loc), t.heap = H1 → s.vm.Alike t.vm → px u → BX E u t → H.size ≤ H1.size → (∀ q : Nat, q < H.size → ¬ AX q → H1[q]? = H[q]?) → va_S A0 H0 H1 locs1 → H1[q9]? = some ce → ce.vm = .none → s.vm.findClass E = some ce.cls → vx_W p l e R s m args below meth c H1 locs1 (cells + mc) (slots + ms) Q (F0 m pc ls rest) q9)
    (kk : ∀ (r : Int64) (u : S) (t : State) (H1 : Heap) (locs1 : List Loc), t.heap = H1 → s.vm.Alike t.vm → post r u → B u t → H.size ≤ H1.size → (∀ q : Nat, q < H.size → ¬ A1 q → H1[q]? = H[q]?) → va_S A0 H0 H1 locs1 → W p l e R s m args below meth c H1 locs1 (cells + mc) (slots + ms) Q (F0 m (pc + 3) ls (.long r :: rest))) : W p l e R s m args below meth c H locs cells slots Q (F0 m pc ls st0) := by
  intro T hT X
  rcases hr T hT X with ⟨v, st₀, t, T', L, h0, X', hL, e1, e2, ⟨⟨r, u, hv, hp, hb⟩, hF⟩, st⟩ | ⟨q, st₀, t, T', L, E, ce, h0, X', hL, e1, e2, ⟨u, hp, hb, hF⟩, hce, hcv, hcl, st⟩
  · cases hv
    obtain ⟨k1, k2, k3⟩ := vx_keep h0 e1 hS hA hf hL hF
    obtain ⟨t2, a1, b1⟩ := kk r u t T'.heap (locs ++ L) e1.symm (by rw [← e2]; exact X'.warmed.alike) hp hb k1 k2 k3 T' rfl X'
    exact ⟨t2, st t2 a1, b1⟩
  · obtain ⟨k1, k2, k3⟩ := vx_keep h0 e1 hS hAX hf hL hF
    obtain ⟨t2, a1, b1⟩ := kx E ce q u t T'.heap (locs ++ L) e1.symm (by rw [← e2]; exact X'.warmed.alike) hp hb k1 k2 k3 (by rw [e1]; exact hce) hcv hcl T' rfl X'
    exact ⟨t2, st.trans a1, b1⟩
theorem vx_callf {S SX : Type} {post : UInt32 → S → Prop} {px : SX → Prop} {B : S → State → Prop} {BX : String → SX → State → Prop} {AX : Nat → Prop} (hr : vx_Run p l e R s m args below meth c H locs cells slots mc ms (F0 m pc ls st0) rest (va_Qf post B A1 a) (vx_X px BX AX) free) (hS : va_S A0 H0 H locs) (hA : ∀ q, q < H.size → A1 q → A0 q) (hf : ∀ q, free q → A0 q) (hAX : ∀ q, q < H.size → AX q → A0 q)
    (kx : ∀ (E : String) (ce : Cell) (q9 : Addr) (u : SX) (t : State) (H1 : Heap) (locs1 : List Loc), t.heap = H1 → s.vm.Alike t.vm → px u → BX E u t → H.size ≤ H1.size → (∀ q : Nat, q < H.size → ¬ AX q → H1[q]? = H[q]?) → va_S A0 H0 H1 locs1 → H1[q9]? = some ce → ce.vm = .none → s.vm.findClass E = some ce.cls → vx_W p l e R s m args below meth c H1 locs1 (cells + mc) (slots + ms) Q (F0 m pc ls rest) q9)
    (kk : ∀ (r : UInt32) (u : S) (t : State) (H1 : Heap) (locs1 : List Loc), t.heap = H1 → s.vm.Alike t.vm → post r u → B u t → H.size ≤ H1.size → (∀ q : Nat, q < H.size → ¬ A1 q → H1[q]? = H[q]?) → va_S A0 H0 H1 locs1 → W p l e R s m args below meth c H1 locs1 (cells + mc) (slots + ms) Q (F0 m (pc + 3) ls (.float r :: rest))) : W p l e R s m args below meth c H locs cells slots Q (F0 m pc ls st0) := by
  intro T hT X
  rcases hr T hT X with ⟨v, st₀, t, T', L, h0, X', hL, e1, e2, ⟨⟨r, u, hv, hp, hb⟩, hF⟩, st⟩ | ⟨q, st₀, t, T', L, E, ce, h0, X', hL, e1, e2, ⟨u, hp, hb, hF⟩, hce, hcv, hcl, st⟩
  · cases hv
    obtain ⟨k1, k2, k3⟩ := vx_keep h0 e1 hS hA hf hL hF
    obtain ⟨t2, a1, b1⟩ := kk r u t T'.heap (locs ++ L) e1.symm (by rw [← e2]; exact X'.warmed.alike) hp hb k1 k2 k3 T' rfl X'
    exact ⟨t2, st t2 a1, b1⟩
  · obtain ⟨k1, k2, k3⟩ := vx_keep h0 e1 hS hAX hf hL hF
    obtain ⟨t2, a1, b1⟩ := kx E ce q u t T'.heap (locs ++ L) e1.symm (by rw [← e2]; exact X'.warmed.alike) hp hb k1 k2 k3 (by rw [e1]; exact hce) hcv hcl T' rfl X'
    exact ⟨t2, st.trans a1, b1⟩
theorem vx_calld {S SX : Type} {post : UInt64 → S → Prop} {px : SX → Prop} {B : S → State → Prop} {BX : String → SX → State → Prop} {AX : Nat → Prop} (hr : vx_Run p l e R s m args below meth c H locs cells slots mc ms (F0 m pc ls st0) rest (va_Qd post B A1 a) (vx_X px BX AX) free) (hS : va_S A0 H0 H locs) (hA : ∀ q, q < H.size → A1 q → A0 q) (hf : ∀ q, free q → A0 q) (hAX : ∀ q, q < H.size → AX q → A0 q)
    (kx : ∀ (E : String) (ce : Cell) (q9 : Addr) (u : SX) (t : State) (H1 : Heap) (locs1 : List Loc), t.heap = H1 → s.vm.Alike t.vm → px u → BX E u t → H.size ≤ H1.size → (∀ q : Nat, q < H.size → ¬ AX q → H1[q]? = H[q]?) → va_S A0 H0 H1 locs1 → H1[q9]? = some ce → ce.vm = .none → s.vm.findClass E = some ce.cls → vx_W p l e R s m args below meth c H1 locs1 (cells + mc) (slots + ms) Q (F0 m pc ls rest) q9)
    (kk : ∀ (r : UInt64) (u : S) (t : State) (H1 : Heap) (locs1 : List Loc), t.heap = H1 → s.vm.Alike t.vm → post r u → B u t → H.size ≤ H1.size → (∀ q : Nat, q < H.size → ¬ A1 q → H1[q]? = H[q]?) → va_S A0 H0 H1 locs1 → W p l e R s m args below meth c H1 locs1 (cells + mc) (slots + ms) Q (F0 m (pc + 3) ls (.double r :: rest))) : W p l e R s m args below meth c H locs cells slots Q (F0 m pc ls st0) := by
  intro T hT X
  rcases hr T hT X with ⟨v, st₀, t, T', L, h0, X', hL, e1, e2, ⟨⟨r, u, hv, hp, hb⟩, hF⟩, st⟩ | ⟨q, st₀, t, T', L, E, ce, h0, X', hL, e1, e2, ⟨u, hp, hb, hF⟩, hce, hcv, hcl, st⟩
  · cases hv
    obtain ⟨k1, k2, k3⟩ := vx_keep h0 e1 hS hA hf hL hF
    obtain ⟨t2, a1, b1⟩ := kk r u t T'.heap (locs ++ L) e1.symm (by rw [← e2]; exact X'.warmed.alike) hp hb k1 k2 k3 T' rfl X'
    exact ⟨t2, st t2 a1, b1⟩
  · obtain ⟨k1, k2, k3⟩ := vx_keep h0 e1 hS hAX hf hL hF
    obtain ⟨t2, a1, b1⟩ := kx E ce q u t T'.heap (locs ++ L) e1.symm (by rw [← e2]; exact X'.warmed.alike) hp hb k1 k2 k3 (by rw [e1]; exact hce) hcv hcl T' rfl X'
    exact ⟨t2, st.trans a1, b1⟩
theorem vx_callv {S SX : Type} {post : S → Prop} {px : SX → Prop} {B : S → State → Prop} {BX : String → SX → State → Prop} {AX : Nat → Prop} (hr : vx_Run p l e R s m args below meth c H locs cells slots mc ms (F0 m pc ls st0) rest (va_Qv post B A1 a) (vx_X px BX AX) free) (hS : va_S A0 H0 H locs) (hA : ∀ q, q < H.size → A1 q → A0 q) (hf : ∀ q, free q → A0 q) (hAX : ∀ q, q < H.size → AX q → A0 q)
    (kx : ∀ (E : String) (ce : Cell) (q9 : Addr) (u : SX) (t : State) (H1 : Heap) (locs1 : List Loc), t.heap = H1 → s.vm.Alike t.vm → px u → BX E u t → H.size ≤ H1.size → (∀ q : Nat, q < H.size → ¬ AX q → H1[q]? = H[q]?) → va_S A0 H0 H1 locs1 → H1[q9]? = some ce → ce.vm = .none → s.vm.findClass E = some ce.cls → vx_W p l e R s m args below meth c H1 locs1 (cells + mc) (slots + ms) Q (F0 m pc ls rest) q9)
    (kk : ∀ (u : S) (t : State) (H1 : Heap) (locs1 : List Loc), t.heap = H1 → s.vm.Alike t.vm → post u → B u t → H.size ≤ H1.size → (∀ q : Nat, q < H.size → ¬ A1 q → H1[q]? = H[q]?) → va_S A0 H0 H1 locs1 → W p l e R s m args below meth c H1 locs1 (cells + mc) (slots + ms) Q (F0 m (pc + 3) ls (rest))) : W p l e R s m args below meth c H locs cells slots Q (F0 m pc ls st0) := by
  intro T hT X
  rcases hr T hT X with ⟨v, st₀, t, T', L, h0, X', hL, e1, e2, ⟨⟨u, hv, hp, hb⟩, hF⟩, st⟩ | ⟨q, st₀, t, T', L, E, ce, h0, X', hL, e1, e2, ⟨u, hp, hb, hF⟩, hce, hcv, hcl, st⟩
  · cases hv
    obtain ⟨k1, k2, k3⟩ := vx_keep h0 e1 hS hA hf hL hF
    obtain ⟨t2, a1, b1⟩ := kk u t T'.heap (locs ++ L) e1.symm (by rw [← e2]; exact X'.warmed.alike) hp hb k1 k2 k3 T' rfl X'
    exact ⟨t2, st t2 a1, b1⟩
  · obtain ⟨k1, k2, k3⟩ := vx_keep h0 e1 hS hAX hf hL hF
    obtain ⟨t2, a1, b1⟩ := kx E ce q u t T'.heap (locs ++ L) e1.symm (by rw [← e2]; exact X'.warmed.alike) hp hb k1 k2 k3 (by rw [e1]; exact hce) hcv hcl T' rfl X'
    exact ⟨t2, st.trans a1, b1⟩
/-- caught by the row x of this method's table; the rows ahead don't take it -/
theorem vx_catch {own name : String} {E : String} {ce : Cell} {q : Addr} (hown : s.vm.findClass own = some m.cls) (pre : List ExceptionTableEntry) (x : ExceptionTableEntry) (suf : List ExceptionTableEntry) (hsplit : c.exceptionTable.toList = pre ++ x :: suf)
    (hpass : ∀ z ∈ pre, covers z pc = false ∨ (z.catchType ≠ 0 ∧ ∃ nm : String, (Cond.classLink own z.catchType nm).before args s = true ∧ va_Nc E nm s)) (hx : covers x pc = true) (h0 : x.catchType ≠ 0)
    (hlink : (Cond.classLink own x.catchType name).before args s = true) (hcast : (Cond.castable E name).before args s = true) (hcell : H[q]? = some ce) (hv : ce.vm = .none) (hcl : s.vm.findClass E = some ce.cls)
    (kk : W p l e R s m args below meth c H locs cells slots Q (F0 m x.handlerPc ls [.ref q])) : vx_W p l e R s m args below meth c H locs cells slots Q (F0 m pc ls rest) q := by
  intro T hT X
  have hpl : e.platform.magicAccessors = ({} : Platform).magicAccessors := by rw [X.admits.platform]
  obtain ⟨c3, c4, hc3, hc4, hasg⟩ := Cond.castable_spec hcast
  cases Option.some.inj (hc3.symm.trans hcl)
  obtain ⟨c5, hc5, hcl5⟩ := Cond.classLink_spec hown hlink e.platform hpl
  cases Option.some.inj (hc4.symm.trans hc5)
  obtain ⟨vm', X', st⟩ := Stand.thenCaughtThrough X q (g := F0 m pc ls rest) rfl (Steps.refl _) (by rw [hT]; exact hcell) (by rw [hv]; rfl) (by obtain ⟨k9, h9, -⟩ := Vm.findClass_spec hcl; exact ⟨k9, h9⟩) pre x suf hsplit
    (fun z hz => by
      rcases hpass z hz with h | ⟨hz0, nm, hl1, hn1⟩
      · exact Or.inl h
      · obtain ⟨c6, hc6, hcl6⟩ := Cond.classLink_spec hown hl1 e.platform hpl
        obtain ⟨a8, b8, h1, h2, h3⟩ := hn1
        cases Option.some.inj (h1.symm.trans hcl)
        cases Option.some.inj (h2.symm.trans hc6)
        exact Or.inr ⟨hz0, _, hcl6, h3⟩) hx (Or.inr ⟨h0, c4, hcl5, hasg⟩)
  obtain ⟨t, a1, b1⟩ := kk (T.setVm vm') hT X'
  exact ⟨t, st.trans a1, b1⟩
end Rows
section Ends
variable {p : Program} {l : Launch} {e : Env} {R : Room} {s : State} {m : MethodId} {args : Array Value} {below : List Frame} {meth : Method} {c : Code} {H : Heap} {locs : List Loc} {cells slots : Nat} {Q : State → Prop}
variable {mc ms : Nat} {free : Addr → Prop} {A0 A1 : Nat → Prop} {H0 : Heap} {a : Array Value} {ls : Array Slot} {st0 rest : List Value}
variable {Qc : Array Value → State → Outcome → State → Prop} {XC : String → State → State → Prop}
/-- what a body that may throw owes at its end -/
def vx_MQ (below : List Frame) (Qc : Array Value → State → Outcome → State → Prop) (XC : String → State → State → Prop) (a : Array Value) (s : State) (mc ms : Nat) (free : Addr → Prop) : State → Prop := fun t =>
  ∃ o, t.status = .running ∧ Ended t below o ∧ vx_Q Qc XC mc ms free a s o t
theorem vx_ret {g : JFrame} {mc ms : Nat} (k : W p l e R s m args below meth c H locs cells slots (MQ below Qc args s mc ms free) g) : W p l e R s m args below meth c H locs cells slots (vx_MQ below Qc XC args s mc ms free) g := by
  intro T hT X
  obtain ⟨t, a1, o, b1, b2, b3, b4⟩ := k T hT X
  exact ⟨t, a1, o, b1, b2, Or.inl ⟨b3, b4⟩⟩
/-- not caught here: it goes on to the caller -/
theorem vx_widen {g : JFrame} {q : Addr} {k n : Nat} (h1 : cells ≤ k) (h2 : slots ≤ n) (kk : vx_W p l e R s m args below meth c H locs k n Q g q) : vx_W p l e R s m args below meth c H locs cells slots Q g q := fun T hT X => kk T hT (stand_widen X h1 h2)
theorem vx_out {pc : Nat} {E : String} {ce : Cell} {q : Addr} {mc ms : Nat} (hout : ∀ x ∈ c.exceptionTable.toList, covers x pc = false) (hlocks : meth.locks = false) (hcell : H[q]? = some ce) (hv : ce.vm = .none) (hcl : s.vm.findClass E = some ce.cls)
    (hx : ∀ t : State, t.heap = H → s.vm.Alike t.vm → XC E s t) (hf : ∀ z ∈ locs, free z.base) (hc : cells ≤ mc) (hs : slots ≤ ms) :
    vx_W p l e R s m args below meth c H locs cells slots (vx_MQ below Qc XC args s mc ms free) (F0 m pc ls rest) q := by
  intro T hT X
  obtain ⟨st1, hrun, hend, hW, hsm⟩ := X.leaveThrown q (g := F0 m pc ls rest) rfl rfl rfl hout hlocks
  have hcell9 : (T.setFrames (.throwing q :: below)).heap[q]? = some ce := by
    show T.heap[q]? = some ce
    rw [hT]; exact hcell
  exact ⟨_, st1, .threw q, hrun, hend, Or.inr ⟨q, rfl, E, ce, locs, hx _ hT hW.alike, hcell9, hv, hcl, hW, hsm.mono hc hs, hf⟩⟩
theorem vx_frame {U : State} {k n : Nat} (h : s.sameButNew ({ U with vm := s.vm } : State) locs k n) : s.heap.size ≤ U.heap.size ∧ ∀ q : Nat, q < s.heap.size → (∀ z ∈ locs, z.base ≠ q) → U.heap[q]? = s.heap[q]? := by
  obtain ⟨-, h2, -, -, -, h6⟩ := h
  refine ⟨h2, fun q hq hz => ?_⟩
  obtain ⟨c9, e1, e2, e3, e4⟩ := h6 q _ (Array.getElem?_eq_getElem hq)
  have hs : c9.slots = (s.heap[q]).slots := Array.ext_getElem? fun i => e4 i fun hm => hz _ hm rfl
  have h9 : c9 = s.heap[q] := by
    rw [hs] at e2
    exact e2
  have e5 : U.heap[q]? = some c9 := e1
  rw [e5, h9, Array.getElem?_eq_getElem hq]
/-- the words of a throw but the four that speak of the heap -/
def vx_no (w : Cond) : Bool := decide (w ≠ .isRef (.static Bundle.tN "UNASSIGNED_STACK" Bundle.steD)) && decide (w ≠ .isRef (.static Bundle.tN "SUPPRESSED_SENTINEL" Bundle.listD)) && decide (w ≠ .laysStatic Bundle.tN "UNASSIGNED_STACK" Bundle.steD) && decide (w ≠ .laysStatic Bundle.tN "SUPPRESSED_SENTINEL" Bundle.listD)
def vx_at0 (own : String) (ic : Nat) (X : String) (names : List String) : List Cond := (Bundle.ownAtoms0 own ic X names).filter vx_no
def vx_atS (own : String) (ic : Nat) (X : String) (names : List String) : List Cond := (Bundle.ownAtoms own ic X names).filter vx_no
/-- a word that the tables alone decide, or a good one -/
def vx_ot (w : Cond) : Bool := w.onTables || goodWord w
theorem vx_ot_at {args a' : Array Value} {s U : State} {w : Cond} (hW : s.WarmedH U.vm) (hvm : s.vm = U.vm) (hg : vx_ot w = true) (h : w.before args s = true) : w.before a' U = true := by
  simp only [vx_ot, Bool.or_eq_true] at hg
  rcases hg with hg | hg
  · exact va_tabs hg hvm h
  · exact word_at hW (good_of_word hg) h
/-- a list's words: the good ones out of the method's own list, the others by premises of their own -/
theorem vx_hat {args : Array Value} {s : State} {L B : List Cond} (h1 : ∀ w ∈ L.filter goodWord, w.before args s = true) (h2 : ∀ w ∈ L.filter (fun w => !goodWord w), w ∈ B) (h3 : ∀ w ∈ B, w.before args s = true) : ∀ w ∈ L, w.before args s = true := by
  intro w hw
  by_cases g : goodWord w = true
  · exact h1 w (List.mem_filter.mpr ⟨hw, g⟩)
  · refine h3 w (h2 w (List.mem_filter.mpr ⟨hw, ?_⟩))
    show (!goodWord w) = true
    cases hgw : goodWord w
    · rfl
    · exact absurd hgw g
theorem vx_c {args : Array Value} {s : State} {w : Cond} {B : List Cond} (h : w.before args s = true) (t : ∀ w ∈ B, w.before args s = true) : ∀ w' ∈ w :: B, w'.before args s = true := fun w' h' => (List.mem_cons.mp h').elim (fun e => by rw [e]; exact h) (t w')
theorem vx_n {args : Array Value} {s : State} : ∀ w ∈ ([] : List Cond), w.before args s = true := fun _ h => nomatch h
theorem vx_own {args : Array Value} {s : State} {L : List Cond} (h1 : ∀ w ∈ L.filter vx_no, w.before args s = true)
    (hU : (Cond.isRef (.static Bundle.tN "UNASSIGNED_STACK" Bundle.steD)).before args s = true) (hN : (Cond.isRef (.static Bundle.tN "SUPPRESSED_SENTINEL" Bundle.listD)).before args s = true)
    (lU : (Cond.laysStatic Bundle.tN "UNASSIGNED_STACK" Bundle.steD).before args s = true) (lN : (Cond.laysStatic Bundle.tN "SUPPRESSED_SENTINEL" Bundle.listD).before args s = true) : ∀ w ∈ L, w.before args s = true := by
  intro w hw
  by_cases e1 : w = .isRef (.static Bundle.tN "UNASSIGNED_STACK" Bundle.steD)
  · rw [e1]; exact hU
  · by_cases e2 : w = .isRef (.static Bundle.tN "SUPPRESSED_SENTINEL" Bundle.listD)
    · rw [e2]; exact hN
    · by_cases e3 : w = .laysStatic Bundle.tN "UNASSIGNED_STACK" Bundle.steD
      · rw [e3]; exact lU
      · by_cases e4 : w = .laysStatic Bundle.tN "SUPPRESSED_SENTINEL" Bundle.listD
        · rw [e4]; exact lN
        · exact h1 w (List.mem_filter.mpr ⟨hw, by unfold vx_no; rw [decide_eq_true e1, decide_eq_true e2, decide_eq_true e3, decide_eq_true e4]; rfl⟩)
/-- where a static field lies, its class's statics cell in H -/
def vx_L (C n d : String) (A : Nat → Prop) (U : State) (H : Heap) : Prop := ∃ (c : ClassId) (k : Class) (i : Nat) (f : Field) (a : Nat) (cell : Cell), U.vm.findClass C = some c ∧ U.fieldFound? C n d = some (c, k, i, f) ∧ f.isStatic = true ∧ k.statics = some a ∧ H[a]? = some cell ∧ cell.vm.isStatics = true ∧ cell.cls = c ∧ f.slot < cell.slots.size ∧ k.staticTypes[f.slot]? = some f.type ∧ ¬ A a
theorem vx_L.moved {C n d : String} {A : Nat → Prop} {u U : State} {H : Heap} (hvm : u.vm.Alike U.vm) (h : vx_L C n d A u H) : vx_L C n d A U H := by
  obtain ⟨c, k, i, f, a, cell, h1, h2, h3, h4, h5, h6, h7, h8, h9, h10⟩ := h
  obtain ⟨k', hi', he⟩ := State.fieldFound?_setVm hvm h2
  exact ⟨c, k', i, f, a, cell, by rw [hvm.findClass]; exact h1, hi', h3, by rw [he]; exact h4, h5, h6, h7, h8, by rw [he]; exact h9, h10⟩
theorem vx_L.kept {C n d : String} {A : Nat → Prop} {U : State} {H H1 : Heap} (h : vx_L C n d A U H) (hq : ∀ a : Nat, a < H.size → ¬ A a → H1[a]? = H[a]?) : vx_L C n d A U H1 := by
  obtain ⟨c, k, i, f, a, cell, h1, h2, h3, h4, h5, h6, h7, h8, h9, h10⟩ := h
  exact ⟨c, k, i, f, a, cell, h1, h2, h3, h4, by rw [hq a (Array.getElem?_eq_some_iff.mp h5).1 h10]; exact h5, h6, h7, h8, h9, h10⟩
theorem vx_L.narrow {C n d : String} {A B : Nat → Prop} {U : State} {H : Heap} (h : vx_L C n d A U H) (hAB : ∀ q, B q → A q) : vx_L C n d B U H := by
  obtain ⟨c, k, i, f, a, cell, h1, h2, h3, h4, h5, h6, h7, h8, h9, h10⟩ := h
  exact ⟨c, k, i, f, a, cell, h1, h2, h3, h4, h5, h6, h7, h8, h9, fun z => h10 (hAB _ z)⟩
theorem vx_L.word {C n d : String} {A : Nat → Prop} {s : State} {args : Array Value} (h : vx_L C n d A s s.heap) : (Cond.laysStatic C n d).before args s = true := by
  obtain ⟨c, k, i, f, a, cell, h1, h2, h3, h4, h5, h6, h7, h8, h9, -⟩ := h
  show (Cond.laysStatic C n d).holds args s none s [] = true
  exact Cond.laysStatic_of h1 h2 h3 h4 h5 h6 h7 h8 h9
/-- .. and what it holds: null or some reference -/
def vx_Zq (C n d : String) (A : Nat → Prop) (U : State) (H : Heap) : Prop := va_Zq C n d A U H ∧ vx_L C n d A U H
theorem vx_Zq.moved {C n d : String} {A : Nat → Prop} {u U : State} {H : Heap} (hvm : u.vm.Alike U.vm) (h : vx_Zq C n d A u H) : vx_Zq C n d A U H := ⟨va_Zq.moved hvm h.1, vx_L.moved hvm h.2⟩
theorem vx_Zq.kept {C n d : String} {A : Nat → Prop} {U : State} {H H1 : Heap} (h : vx_Zq C n d A U H) (hq : ∀ a : Nat, a < H.size → ¬ A a → H1[a]? = H[a]?) : vx_Zq C n d A U H1 := ⟨va_Zq.kept h.1 hq, vx_L.kept h.2 hq⟩
theorem vx_Zq.narrow {C n d : String} {A B : Nat → Prop} {U : State} {H : Heap} (h : vx_Zq C n d A U H) (hAB : ∀ q, B q → A q) : vx_Zq C n d B U H := ⟨va_Zq.narrow h.1 hAB, vx_L.narrow h.2 hAB⟩
theorem vx_Zqof {args : Array Value} {s : State} {C n d : String} {A : Nat → Prop} (hl : (Cond.laysStatic C n d).before args s = true) (hini : (Cond.initialized C).before args s = true) (h : (Cond.isRef (.static C n d)).before args s = true) (hA : ∀ a : Nat, a < s.heap.size → ¬ A a) : vx_Zq C n d A s s.heap := by
  refine ⟨va_Zqof hl hini h hA, ?_⟩
  obtain ⟨c, k, i, f, a, cell, h1, h2, h3, h4, h5, h6, h7, h8, h9⟩ := Cond.laysStatic_spec hl
  exact ⟨c, k, i, f, a, cell, h1, h2, h3, h4, h5, h6, h7, h8, h9, hA a (Array.getElem?_eq_some_iff.mp h5).1⟩
theorem vx_isRef {C n d : String} {v : Value} {A : Nat → Prop} {s : State} {args : Array Value} (h : va_Z C n d v A s s.heap) (hv : v.isRef = true) : (Cond.isRef (.static C n d)).before args s = true := by
  obtain ⟨cf, kf, fi, f, a, cell, h1, h2, h3, h4, h5, h6, h7, -⟩ := h
  have he : (Term.static C n d).eval args s none [] s = some v := by
    simp [Term.eval, State.fieldNamed?, h1, h2, h4, h5, h6, h7]
  simp only [Cond.before, Cond.holds, Cond.value, he]
  cases v <;> simp_all [Value.isRef]
theorem vx_isRefq {C n d : String} {A : Nat → Prop} {s : State} {args : Array Value} (h : va_Zq C n d A s s.heap) : (Cond.isRef (.static C n d)).before args s = true := by
  rcases h with h | ⟨t, h⟩
  · exact vx_isRef h rfl
  · exact vx_isRef h rfl
/-- the same frame, seen from here: as if the method were called anew in this heap -/
theorem vx_rebase {T : State} (X : Stand p l e R s m args below meth c T locs cells slots) {R' : Room} (hf : R'.frames ≤ R.frames) (hl : R'.locals ≤ R.locals) (hc : cells + R'.cells ≤ R.cells) (hs : slots + R'.slots ≤ R.slots) :
    Stand p l e R' ((T.setVm s.vm).setFrames (.invoking m args :: below)) m args below meth c T [] 0 0 := by
  have htop : (T.setVm s.vm).topJava?.isSome := X.here.top
  have hF : ((T.setVm s.vm).setFrames (.invoking m args :: below)).frames = .invoking m args :: below := State.frames_setFrames _ (State.cur_lt_of_top htop)
  obtain ⟨g₀, hg0⟩ := Option.isSome_iff_exists.mp htop
  obtain ⟨r, hr⟩ := State.topJava?_eq_some.mp hg0
  have hl9 : e.platform.stackLimits (T.setVm s.vm).me = e.platform.stackLimits s.me := X.limits
  have hb9 : (T.setVm s.vm).me.stackBytes = s.me.stackBytes := X.bytes
  refine ⟨X.admits, X.cas, X.clock, hF, ?_, X.hears, X.method, X.code, X.here, X.tail, X.warmed, ?_, ?_, ?_⟩
  · have h := X.room
    have hU : ((T.setVm s.vm).setFrames (.invoking m args :: below)).localsInUse = s.localsInUse := by
      rw [State.localsInUse_invoking hF (meth := meth) (c := c) X.method X.code, State.localsInUse_invoking X.frames X.method X.code]
    simp only [State.hasRoom, Bool.and_eq_true, decide_eq_true_eq] at h ⊢
    obtain ⟨⟨⟨⟨h1, h2, h3, h4, h5, h6⟩, h7⟩, h8⟩, h9⟩ := h
    rw [X.frames, List.length_cons] at h2 h3
    have q1 := X.heapSize
    have q2 := X.used
    simp only [hF, hU, List.length_cons, State.stackLimits_setFrames, State.stackBytes_setFrames, hl9, hb9]
    refine ⟨⟨⟨⟨by omega, by omega, by omega, by omega, by omega, h6⟩, ?_⟩, ?_⟩, X.book⟩
    · show T.heap.size + R'.cells ≤ e.platform.maxCells
      omega
    · show T.slotsUsed + R'.slots ≤ e.platform.maxSlots
      omega
  · rw [State.stackLimits_setFrames]; rfl
  · rw [State.stackBytes_setFrames]; rfl
  · refine ⟨?_, Nat.le_refl _, Nat.le_refl _, ?_, ?_, fun a c9 h9 => ⟨c9, h9, rfl, rfl, fun _ _ => rfl⟩⟩
    · obtain ⟨t, ht, -⟩ := State.frames_cons hr
      show T.setVm s.vm = { ((T.setVm s.vm).setFrames (.invoking m args :: below)).setFrames (T.setVm s.vm).frames with heap := T.heap, slotsUsed := T.slotsUsed }
      rw [State.setFrames_setFrames, State.setFrames_self ht]
      rfl
    · show T.slotsUsed = T.slotsUsed + ((T.heap.toList.drop T.heap.size).map (·.slots.size)).sum
      rw [List.drop_eq_nil_of_le (Nat.le_of_eq Array.length_toList)]
      rfl
    · show ((T.heap.toList.drop T.heap.size).map (·.slots.size)).sum ≤ 0
      rw [List.drop_eq_nil_of_le (Nat.le_of_eq Array.length_toList)]
      exact Nat.le_refl _
/-- 'throw new E()': new; dup; invokespecial; athrow -/
theorem vx_throw0 {cc : ByteArray} {pc : Nat} (hexec : p.tables.exec = Jvm.exec) (hb : c.code = cc) (hl : l.stackTraces = false) {own cls : String} {names : List String} {ik ic mc ms : Nat} {A : Nat → Prop}
    (hown : s.vm.findClass own = some m.cls) (hcls : Bundle.fit cls = true) (hnames : ∀ n ∈ names, Bundle.fit n = true)
    (hk : (Cond.classLink own ik cls).before args s = true) (hini : (Cond.initialized cls).before args s = true) (hat : ∀ w ∈ vx_at0 own ic cls names, w.before args s = true)
    (hgood : ∀ w ∈ Cond.classLink own ik cls :: Cond.initialized cls :: vx_at0 own ic cls names, vx_ot w = true)
    (hU : vx_Zq Bundle.tN "UNASSIGNED_STACK" Bundle.steD A s s.heap) (hN : vx_Zq Bundle.tN "SUPPRESSED_SENTINEL" Bundle.listD A s s.heap) (hS : va_S A s.heap H locs) (hsize : ls.size = c.maxLocals)
    (d0 : decode cc pc = .ok (.new ik, 3)) (d3 : decode cc (pc + 3) = .ok (.dup, 1)) (d4 : decode cc (pc + 4) = .ok (.invokespecial ic, 3)) (d7 : decode cc (pc + 7) = .ok (.athrow, 1))
    (hout : ∀ x ∈ c.exceptionTable.toList, covers x (pc + 7) = false)
    (hRframes : names.length + 3 < R.frames) (hRlocals : (rest.map fun v => v.category).sum + (13 * (names.length + 1) + 42) ≤ R.locals) (hRcells : cells + 1 ≤ R.cells) (hRslots : slots + 6 ≤ R.slots) (hlocks : meth.locks = false)
    (hx : ∀ t : State, s.vm.Alike t.vm → H.size ≤ t.heap.size → (∀ q : Nat, q < H.size → t.heap[q]? = H[q]?) → XC cls s t)
    (hf : ∀ z ∈ locs, free z.base) (hc : cells + 1 ≤ mc) (hs : slots + 6 ≤ ms) :
    W p l e R s m args below meth c H locs cells slots (vx_MQ below Qc XC args s mc ms free) (F0 m pc ls rest) := by
  intro T hT X
  have htr : e.platform.stackTraces = false := (show e.platform.stackTraces = l.stackTraces by rw [X.admits.platform]).trans hl
  have Y := vx_rebase X (R' := { frames := R.frames, locals := R.locals, cells := 1, slots := 6 }) (Nat.le_refl _) (Nat.le_refl _) hRcells hRslots
  obtain ⟨s', hA⟩ : ∃ z, z = (T.setVm s.vm).setFrames (.invoking m args :: below) := ⟨_, rfl⟩
  rw [← hA] at Y
  have hvm : s'.vm = s.vm := by rw [hA]; rfl
  have hhp : s'.heap = H := by rw [hA]; exact hT
  have hW0 : s.WarmedH s'.vm := by rw [hvm]; exact State.WarmedH.refl s
  have hat' : ∀ w ∈ vx_at0 own ic cls names, w.before args s' = true := fun w hw => vx_ot_at hW0 hvm.symm (hgood w (List.mem_cons_of_mem _ (List.mem_cons_of_mem _ hw))) (hat w hw)
  have hk' : (Cond.classLink own ik cls).before args s' = true := vx_ot_at hW0 hvm.symm (hgood _ List.mem_cons_self) hk
  have hini' : (Cond.initialized cls).before args s' = true := vx_ot_at hW0 hvm.symm (hgood _ (List.mem_cons_of_mem _ List.mem_cons_self)) hini
  have hU' : vx_Zq Bundle.tN "UNASSIGNED_STACK" Bundle.steD A s' s'.heap := by rw [hhp]; exact vx_Zq.moved hW0.alike (hU.kept hS.2.1)
  have hN' : vx_Zq Bundle.tN "SUPPRESSED_SENTINEL" Bundle.listD A s' s'.heap := by rw [hhp]; exact vx_Zq.moved hW0.alike (hN.kept hS.2.1)
  have h : ∀ w ∈ Bundle.ownAtoms0 own ic cls names, w.before args s' = true := vx_own hat' (vx_isRefq hU'.1) (vx_isRefq hN'.1) hU'.2.word hN'.2.word
  have hown' : s'.vm.findClass own = some m.cls := by rw [hvm]; exact hown
  have hins : (Cond.instantiable cls 6).before args s' = true := h _ (by simp [Bundle.ownAtoms0])
  obtain ⟨vm₁, cX, kX, hfX, hkX, -, -, X₁, st1⟩ := Y.newCold hexec (own := own) (C := cls) (index := ik) (n := 6) hown' hk' hins hini'
    (g := F0 m pc ls rest) rfl (by rw [hb]; exact d0) (Nat.le_refl _) (Nat.le_refl _)
  generalize hT1 : (T.setVm vm₁).pushCell { cls := cX, slots := kX.instanceTypes.map defaultValue, vm := .none } = T1 at X₁ st1
  have hcat : (Value.ref T.heap.size).category = 1 := rfl
  have hcellA : T1.heap[T.heap.size]? = some (freshCell cX kX) := by rw [← hT1]; exact State.heap_pushCell_size _ _
  have d3' : decode c.code (pc + 3) = .ok (.dup, 1) := by rw [hb]; exact d3
  obtain ⟨U, hsteps, hrun, hend, hW, hsame, ce, hce, hO⟩ := X₁.ctorThrow0 hexec htr (own := own) (cls := cls) (names := names) (ic := ic) hown' hcls hnames h (fun x hx => nomatch hx) hfX hkX hcellA (by rw [hhp, hT]; exact Nat.le_refl _)
    (g := { method := m, pc := pc + 4, locals := ls, stack := .ref T.heap.size :: .ref T.heap.size :: rest, locked := none }) rfl hsize rfl rfl (rest := rest) rfl
    (by rw [hb]; exact d4) (by rw [hb]; exact d7) hout hRframes (by simp only [List.map_cons, List.sum_cons, hcat]; omega) hlocks
  obtain ⟨f1, f2⟩ := vx_frame hsame
  rw [hhp] at f1 f2
  have hWs : s.WarmedH U.vm := State.WarmedH.trans hW0 hW
  have hcl : s.vm.findClass cls = some ce.cls := by
    have h9 := hO.cls
    rw [hvm] at h9
    exact h9
  have hall : s.sameButNew ({ U with vm := s.vm } : State) locs mc ms := by
    subst hA
    obtain ⟨e1, e2⟩ := hsame
    rw [State.setFrames_setFrames] at e1
    have h2 : (T.setVm s.vm).sameButNew ({ U with vm := s.vm } : State) [] (0 + 1) (0 + 6) := ⟨e1, e2⟩
    have h3 := X.same.trans h2
    rw [List.append_nil] at h3
    exact h3.mono hc hs
  refine ⟨U, ?_, .threw T.heap.size, hrun, hend, Or.inr ⟨T.heap.size, rfl, cls, ce, locs, hx U hWs.alike f1 (fun q hq => f2 q hq (fun z hz => nomatch hz)), hce, hO.vm, hcl, hWs, hall, hf⟩⟩
  refine st1 _ ?_
  show Steps p.tables e below (T1.setTop { method := m, pc := pc + 3, locals := ls, stack := .ref T.heap.size :: rest, locked := none }) _
  jvm_step X₁.here [X₁.here.top, hexec, d3', Value.category]
  exact hsteps
/-- 'throw new E("text")': new; dup; ldc; invokespecial; athrow -/
theorem vx_throwS {cc : ByteArray} {pc : Nat} (hexec : p.tables.exec = Jvm.exec) (hb : c.code = cc) (hl : l.stackTraces = false) {own cls text : String} {names : List String} {ik is ic mc ms sa : Nat} {A : Nat → Prop}
    (hown : s.vm.findClass own = some m.cls) (hcls : Bundle.fit cls = true) (hnames : ∀ n ∈ names, Bundle.fit n = true)
    (hk : (Cond.classLink own ik cls).before args s = true) (hini : (Cond.initialized cls).before args s = true) (hstr : vk_R own is text sa s) (hat : ∀ w ∈ vx_atS own ic cls names, w.before args s = true)
    (hgood : ∀ w ∈ Cond.classLink own ik cls :: Cond.initialized cls :: vx_atS own ic cls names, vx_ot w = true)
    (hU : vx_Zq Bundle.tN "UNASSIGNED_STACK" Bundle.steD A s s.heap) (hN : vx_Zq Bundle.tN "SUPPRESSED_SENTINEL" Bundle.listD A s s.heap) (hS : va_S A s.heap H locs) (hsize : ls.size = c.maxLocals)
    (d0 : decode cc pc = .ok (.new ik, 3)) (d3 : decode cc (pc + 3) = .ok (.dup, 1)) (d4 : decode cc (pc + 4) = .ok (.ldc is, 2)) (d6 : decode cc (pc + 6) = .ok (.invokespecial ic, 3)) (d9 : decode cc (pc + 9) = .ok (.athrow, 1))
    (hout : ∀ x ∈ c.exceptionTable.toList, covers x (pc + 9) = false)
    (hRframes : names.length + 3 < R.frames) (hRlocals : (rest.map fun v => v.category).sum + (13 * (names.length + 1) + 43) ≤ R.locals) (hRcells : cells + 1 ≤ R.cells) (hRslots : slots + 6 ≤ R.slots) (hlocks : meth.locks = false)
    (hx : ∀ t : State, s.vm.Alike t.vm → H.size ≤ t.heap.size → (∀ q : Nat, q < H.size → t.heap[q]? = H[q]?) → XC cls s t)
    (hf : ∀ z ∈ locs, free z.base) (hc : cells + 1 ≤ mc) (hs : slots + 6 ≤ ms) :
    W p l e R s m args below meth c H locs cells slots (vx_MQ below Qc XC args s mc ms free) (F0 m pc ls rest) := by
  intro T hT X
  have htr : e.platform.stackTraces = false := (show e.platform.stackTraces = l.stackTraces by rw [X.admits.platform]).trans hl
  have Y := vx_rebase X (R' := { frames := R.frames, locals := R.locals, cells := 1, slots := 6 }) (Nat.le_refl _) (Nat.le_refl _) hRcells hRslots
  obtain ⟨s', hA⟩ : ∃ z, z = (T.setVm s.vm).setFrames (.invoking m args :: below) := ⟨_, rfl⟩
  rw [← hA] at Y
  have hvm : s'.vm = s.vm := by rw [hA]; rfl
  have hhp : s'.heap = H := by rw [hA]; exact hT
  have hW0 : s.WarmedH s'.vm := by rw [hvm]; exact State.WarmedH.refl s
  have hat' : ∀ w ∈ vx_atS own ic cls names, w.before args s' = true := fun w hw => vx_ot_at hW0 hvm.symm (hgood w (List.mem_cons_of_mem _ (List.mem_cons_of_mem _ hw))) (hat w hw)
  have hk' : (Cond.classLink own ik cls).before args s' = true := vx_ot_at hW0 hvm.symm (hgood _ List.mem_cons_self) hk
  have hini' : (Cond.initialized cls).before args s' = true := vx_ot_at hW0 hvm.symm (hgood _ (List.mem_cons_of_mem _ List.mem_cons_self)) hini
  have hU' : vx_Zq Bundle.tN "UNASSIGNED_STACK" Bundle.steD A s' s'.heap := by rw [hhp]; exact vx_Zq.moved hW0.alike (hU.kept hS.2.1)
  have hN' : vx_Zq Bundle.tN "SUPPRESSED_SENTINEL" Bundle.listD A s' s'.heap := by rw [hhp]; exact vx_Zq.moved hW0.alike (hN.kept hS.2.1)
  have h : ∀ w ∈ Bundle.ownAtoms own ic cls names, w.before args s' = true := vx_own hat' (vx_isRefq hU'.1) (vx_isRefq hN'.1) hU'.2.word hN'.2.word
  have hown' : s'.vm.findClass own = some m.cls := by rw [hvm]; exact hown
  have hins : (Cond.instantiable cls 6).before args s' = true := h _ (by simp [Bundle.ownAtoms])
  obtain ⟨vm₁, cX, kX, hfX, hkX, -, -, X₁, st1⟩ := Y.newCold hexec (own := own) (C := cls) (index := ik) (n := 6) hown' hk' hins hini'
    (g := F0 m pc ls rest) rfl (by rw [hb]; exact d0) (Nat.le_refl _) (Nat.le_refl _)
  generalize hT1 : (T.setVm vm₁).pushCell { cls := cX, slots := kX.instanceTypes.map defaultValue, vm := .none } = T1 at X₁ st1
  have hcat : (Value.ref T.heap.size).category = 1 := rfl
  have hcellA : T1.heap[T.heap.size]? = some (freshCell cX kX) := by rw [← hT1]; exact State.heap_pushCell_size _ _
  have d3' : decode c.code (pc + 3) = .ok (.dup, 1) := by rw [hb]; exact d3
  have d4' : decode c.code (pc + 4) = .ok (.ldc is, 2) := by rw [hb]; exact d4
  have hstr' : vk_R own is text sa s' := vk_R.warm hW0 hstr
  obtain ⟨U, hsteps, hrun, hend, hW, hsame, ce, hce, hO⟩ := X₁.ctorThrowS hexec htr (own := own) (cls := cls) (names := names) (ic := ic) hown' hcls hnames h (fun x hx => nomatch hx) hfX hkX hcellA (by rw [hhp, hT]; exact Nat.le_refl _) (msg := .ref sa) rfl
    (g := { method := m, pc := pc + 6, locals := ls, stack := .ref sa :: .ref T.heap.size :: .ref T.heap.size :: rest, locked := none }) rfl hsize rfl rfl (rest := rest) rfl
    (by rw [hb]; exact d6) (by rw [hb]; exact d9) hout hRframes (by simp only [List.map_cons, List.sum_cons, hcat]; omega) hlocks
  obtain ⟨f1, f2⟩ := vx_frame hsame
  rw [hhp] at f1 f2
  have hWs : s.WarmedH U.vm := State.WarmedH.trans hW0 hW
  have hcl : s.vm.findClass cls = some ce.cls := by
    have h9 := hO.cls
    rw [hvm] at h9
    exact h9
  have hall : s.sameButNew ({ U with vm := s.vm } : State) locs mc ms := by
    subst hA
    obtain ⟨e1, e2⟩ := hsame
    rw [State.setFrames_setFrames] at e1
    have h2 : (T.setVm s.vm).sameButNew ({ U with vm := s.vm } : State) [] (0 + 1) (0 + 6) := ⟨e1, e2⟩
    have h3 := X.same.trans h2
    rw [List.append_nil] at h3
    exact h3.mono hc hs
  refine ⟨U, ?_, .threw T.heap.size, hrun, hend, Or.inr ⟨T.heap.size, rfl, cls, ce, locs, hx U hWs.alike f1 (fun q hq => f2 q hq (fun z hz => nomatch hz)), hce, hO.vm, hcl, hWs, hall, hf⟩⟩
  refine st1 _ ?_
  show Steps p.tables e below (T1.setTop { method := m, pc := pc + 3, locals := ls, stack := .ref T.heap.size :: rest, locked := none }) _
  jvm_step X₁.here [X₁.here.top, hexec, d3', Value.category]
  exact X₁.ldcString hexec (own := own) (text := text) (index := is) (a := sa) hown' hstr'.1 hstr'.2
    (g := { method := m, pc := pc + 4, locals := ls, stack := .ref T.heap.size :: .ref T.heap.size :: rest, locked := none }) rfl d4' _ hsteps
/-- 'throw new E("text")', the text by a wide index -/
theorem vx_throwSW {cc : ByteArray} {pc : Nat} (hexec : p.tables.exec = Jvm.exec) (hb : c.code = cc) (hl : l.stackTraces = false) {own cls text : String} {names : List String} {ik is ic mc ms sa : Nat} {A : Nat → Prop}
    (hown : s.vm.findClass own = some m.cls) (hcls : Bundle.fit cls = true) (hnames : ∀ n ∈ names, Bundle.fit n = true)
    (hk : (Cond.classLink own ik cls).before args s = true) (hini : (Cond.initialized cls).before args s = true) (hstr : vk_R own is text sa s) (hat : ∀ w ∈ vx_atS own ic cls names, w.before args s = true)
    (hgood : ∀ w ∈ Cond.classLink own ik cls :: Cond.initialized cls :: vx_atS own ic cls names, vx_ot w = true)
    (hU : vx_Zq Bundle.tN "UNASSIGNED_STACK" Bundle.steD A s s.heap) (hN : vx_Zq Bundle.tN "SUPPRESSED_SENTINEL" Bundle.listD A s s.heap) (hS : va_S A s.heap H locs) (hsize : ls.size = c.maxLocals)
    (d0 : decode cc pc = .ok (.new ik, 3)) (d3 : decode cc (pc + 3) = .ok (.dup, 1)) (d4 : decode cc (pc + 4) = .ok (.ldc_w is, 3)) (d7 : decode cc (pc + 7) = .ok (.invokespecial ic, 3)) (d10 : decode cc (pc + 10) = .ok (.athrow, 1))
    (hout : ∀ x ∈ c.exceptionTable.toList, covers x (pc + 10) = false)
    (hRframes : names.length + 3 < R.frames) (hRlocals : (rest.map fun v => v.category).sum + (13 * (names.length + 1) + 43) ≤ R.locals) (hRcells : cells + 1 ≤ R.cells) (hRslots : slots + 6 ≤ R.slots) (hlocks : meth.locks = false)
    (hx : ∀ t : State, s.vm.Alike t.vm → H.size ≤ t.heap.size → (∀ q : Nat, q < H.size → t.heap[q]? = H[q]?) → XC cls s t)
    (hf : ∀ z ∈ locs, free z.base) (hc : cells + 1 ≤ mc) (hs : slots + 6 ≤ ms) :
    W p l e R s m args below meth c H locs cells slots (vx_MQ below Qc XC args s mc ms free) (F0 m pc ls rest) := by
  intro T hT X
  have htr : e.platform.stackTraces = false := (show e.platform.stackTraces = l.stackTraces by rw [X.admits.platform]).trans hl
  have Y := vx_rebase X (R' := { frames := R.frames, locals := R.locals, cells := 1, slots := 6 }) (Nat.le_refl _) (Nat.le_refl _) hRcells hRslots
  obtain ⟨s', hA⟩ : ∃ z, z = (T.setVm s.vm).setFrames (.invoking m args :: below) := ⟨_, rfl⟩
  rw [← hA] at Y
  have hvm : s'.vm = s.vm := by rw [hA]; rfl
  have hhp : s'.heap = H := by rw [hA]; exact hT
  have hW0 : s.WarmedH s'.vm := by rw [hvm]; exact State.WarmedH.refl s
  have hat' : ∀ w ∈ vx_atS own ic cls names, w.before args s' = true := fun w hw => vx_ot_at hW0 hvm.symm (hgood w (List.mem_cons_of_mem _ (List.mem_cons_of_mem _ hw))) (hat w hw)
  have hk' : (Cond.classLink own ik cls).before args s' = true := vx_ot_at hW0 hvm.symm (hgood _ List.mem_cons_self) hk
  have hini' : (Cond.initialized cls).before args s' = true := vx_ot_at hW0 hvm.symm (hgood _ (List.mem_cons_of_mem _ List.mem_cons_self)) hini
  have hU' : vx_Zq Bundle.tN "UNASSIGNED_STACK" Bundle.steD A s' s'.heap := by rw [hhp]; exact vx_Zq.moved hW0.alike (hU.kept hS.2.1)
  have hN' : vx_Zq Bundle.tN "SUPPRESSED_SENTINEL" Bundle.listD A s' s'.heap := by rw [hhp]; exact vx_Zq.moved hW0.alike (hN.kept hS.2.1)
  have h : ∀ w ∈ Bundle.ownAtoms own ic cls names, w.before args s' = true := vx_own hat' (vx_isRefq hU'.1) (vx_isRefq hN'.1) hU'.2.word hN'.2.word
  have hown' : s'.vm.findClass own = some m.cls := by rw [hvm]; exact hown
  have hins : (Cond.instantiable cls 6).before args s' = true := h _ (by simp [Bundle.ownAtoms])
  obtain ⟨vm₁, cX, kX, hfX, hkX, -, -, X₁, st1⟩ := Y.newCold hexec (own := own) (C := cls) (index := ik) (n := 6) hown' hk' hins hini'
    (g := F0 m pc ls rest) rfl (by rw [hb]; exact d0) (Nat.le_refl _) (Nat.le_refl _)
  generalize hT1 : (T.setVm vm₁).pushCell { cls := cX, slots := kX.instanceTypes.map defaultValue, vm := .none } = T1 at X₁ st1
  have hcat : (Value.ref T.heap.size).category = 1 := rfl
  have hcellA : T1.heap[T.heap.size]? = some (freshCell cX kX) := by rw [← hT1]; exact State.heap_pushCell_size _ _
  have d3' : decode c.code (pc + 3) = .ok (.dup, 1) := by rw [hb]; exact d3
  have d4' : decode c.code (pc + 4) = .ok (.ldc_w is, 3) := by rw [hb]; exact d4
  have hstr' : vk_R own is text sa s' := vk_R.warm hW0 hstr
  obtain ⟨U, hsteps, hrun, hend, hW, hsame, ce, hce, hO⟩ := X₁.ctorThrowS hexec htr (own := own) (cls := cls) (names := names) (ic := ic) hown' hcls hnames h (fun x hx => nomatch hx) hfX hkX hcellA (by rw [hhp, hT]; exact Nat.le_refl _) (msg := .ref sa) rfl
    (g := { method := m, pc := pc + 7, locals := ls, stack := .ref sa :: .ref T.heap.size :: .ref T.heap.size :: rest, locked := none }) rfl hsize rfl rfl (rest := rest) rfl
    (by rw [hb]; exact d7) (by rw [hb]; exact d10) hout hRframes (by simp only [List.map_cons, List.sum_cons, hcat]; omega) hlocks
  obtain ⟨f1, f2⟩ := vx_frame hsame
  rw [hhp] at f1 f2
  have hWs : s.WarmedH U.vm := State.WarmedH.trans hW0 hW
  have hcl : s.vm.findClass cls = some ce.cls := by
    have h9 := hO.cls
    rw [hvm] at h9
    exact h9
  have hall : s.sameButNew ({ U with vm := s.vm } : State) locs mc ms := by
    subst hA
    obtain ⟨e1, e2⟩ := hsame
    rw [State.setFrames_setFrames] at e1
    have h2 : (T.setVm s.vm).sameButNew ({ U with vm := s.vm } : State) [] (0 + 1) (0 + 6) := ⟨e1, e2⟩
    have h3 := X.same.trans h2
    rw [List.append_nil] at h3
    exact h3.mono hc hs
  refine ⟨U, ?_, .threw T.heap.size, hrun, hend, Or.inr ⟨T.heap.size, rfl, cls, ce, locs, hx U hWs.alike f1 (fun q hq => f2 q hq (fun z hz => nomatch hz)), hce, hO.vm, hcl, hWs, hall, hf⟩⟩
  refine st1 _ ?_
  show Steps p.tables e below (T1.setTop { method := m, pc := pc + 3, locals := ls, stack := .ref T.heap.size :: rest, locked := none }) _
  jvm_step X₁.here [X₁.here.top, hexec, d3', Value.category]
  exact X₁.ldcStringW hexec (own := own) (text := text) (index := is) (a := sa) hown' hstr'.1 hstr'.2
    (g := { method := m, pc := pc + 4, locals := ls, stack := .ref T.heap.size :: .ref T.heap.size :: rest, locked := none }) rfl d4' _ hsteps
end Ends
section Bodies
variable {l : Launch}
theorem vx_ofW {y : MethodName} {ws ws' : List Cond} {rm : Room} {Pc : Array Value → State → Prop} {Qc : Array Value → State → Outcome → State → Prop} {XC : String → State → State → Prop} {mc ms : Nat} {free : Addr → Prop} {cc : ByteArray} {maxL : Nat} {ret : Option FieldType}
    (hy : plainName y.cls = true) (hw : ws = Cond.code y cc maxL ret :: ws')
    (body : ∀ p e s m args below meth c s₁, BodyLoose p l y (headSpec ws rm) cc maxL ret e s m args below meth c s₁ → c.maxLocals = maxL → (∀ x ∈ c.exceptionTable.toList, False) → Pc args s →
      W p l e (headSpec ws rm).room s m args below meth c s.heap [] 0 0 (vx_MQ below Qc XC args s mc ms free) (entryFrame m args maxL)) : vx_Met l y ws rm Pc Qc XC mc ms free := by
  refine MetFree.of_bodyS (code := cc) (maxLocals := maxL) (ret := ret) hy ?_ ?_
  · intro args s m h hn
    obtain ⟨meth, c, h1, h2, h3, h4, h5, h6, -, -⟩ := Cond.code_spec hn (atoms_spec (ws := ws) h _ (by rw [hw]; exact List.mem_cons_self))
    exact ⟨meth, c, h1, h2, h3, h4, h5, h6⟩
  · intro p e s m args below meth c s₁ B hml hP _
    have hh0 : s₁.heap = s.heap := by rw [B.state]; rfl
    have ht : ∀ x ∈ c.exceptionTable.toList, False := by
      obtain ⟨meth9, c9, h1, h2, -, -, -, -, h7, -⟩ := Cond.code_spec B.named (atoms_spec (ws := ws) B.pre _ (by rw [hw]; exact List.mem_cons_self))
      cases Option.some.inj (h1.symm.trans B.method)
      cases Option.some.inj (h2.symm.trans (Stand.of_body B).code)
      intro x hx
      rw [Array.isEmpty_iff.mp h7] at hx
      cases hx
    obtain ⟨t, a1, o, b1, b2, b3⟩ := body p e s m args below meth c s₁ B hml ht hP s₁ hh0 (Stand.of_body B)
    exact ⟨t, o, a1, b1, b2, b3⟩
/-- the table of a body with handlers -/
theorem vx_table {p : Program} {x y : MethodName} {S : Spec} {cc bytes : ByteArray} {maxL maxL' : Nat} {ret ret' : Option FieldType} {e : Env} {s s₁ : State} {m : MethodId} {args : Array Value} {below : List Frame} {meth : Method} {c : Code} {hh : List (Nat × Nat × Nat × Nat)}
    (B : BodyLoose p l y S cc maxL ret e s m args below meth c s₁) (h : (Cond.codeWith y bytes maxL' ret' hh).before args s = true) : c.exceptionTable.toList = tableOf hh := by
  obtain ⟨m9, meth9, c9, hn9, h1, h2, -, -, h6, -⟩ := Cond.codeWith_spec h
  cases Option.some.inj (hn9.symm.trans B.named)
  cases Option.some.inj (h1.symm.trans B.method)
  cases Option.some.inj (h2.symm.trans (Stand.of_body B).code)
  rw [← h6, table_eq]
end Bodies
end VXA
/-! ===== END ===== -/
/-! ===== BEGIN a static call of a method with an exception table ===== -/
section VXS
variable {p : Program} {l : Launch} {e : Env} {R : Room} {s : State} {m : MethodId} {args : Array Value} {below : List Frame} {meth : Method} {c : Code} {T : State} {H : Heap} {locs : List Loc} {cells slots : Nat}
abbrev vx_CSW (R : Room) (s : State) (args : Array Value) (own : String) (index : Nat) (y : MethodName) (bytes : ByteArray) (maxL : Nat) (ret : Option FieldType) (hh : List (Nat × Nat × Nat × Nat)) (ws : List Cond) (rm : Room) (mc ms n : Nat) : Prop :=
  (rm.cells = mc ∧ rm.slots = ms ∧ rm.frames + 1 ≤ R.frames ∧ 8 + (maxL + 11) + rm.locals ≤ R.locals ∧ (∀ w ∈ ws, ∀ (a' : Array Value) (U : State), s.WarmedH U.vm → w.before a' U = true) ∧ Cond.codeWith y bytes maxL ret hh ∈ ws) ∧
  (Cond.codeWith y bytes maxL ret hh).before args s = true ∧ (Cond.initialized y.cls).before args s = true ∧ (y.cls ≠ "java/lang/invoke/MethodHandle" ∧ y.cls ≠ "java/lang/invoke/VarHandle") ∧
  (∀ sig, parseMethodDescriptor y.desc = some sig → n = sig.parameters.length) ∧ (Cond.methodLink own index y).before args s = true ∧ (Cond.static y).before args s = true
theorem vx_cwSW {own : String} {index maxL mc ms : Nat} {y : MethodName} {bytes : ByteArray} {ret : Option FieldType} {hh : List (Nat × Nat × Nat × Nat)} {Ts ws ws' : List Cond} {rm : Room} (n : Nat) (ht : ∀ w ∈ Ts, w.before args s = true) (hT : GoodIn Ts (va_wsS own index y ws)) (hw : ws = Cond.codeWith y bytes maxL ret hh :: ws') (hrc : rm.cells = mc) (hrs : rm.slots = ms)
    (hd : y.cls ≠ "java/lang/invoke/MethodHandle" ∧ y.cls ≠ "java/lang/invoke/VarHandle" ∧ (parseMethodDescriptor y.desc).map (fun d => d.parameters.length) = some n) (hR : rm.frames + 1 ≤ R.frames ∧ 8 + (maxL + 11) + rm.locals ≤ R.locals) :
    vx_CSW R s args own index y bytes maxL ret hh ws rm mc ms n := by
  have ok : ∀ w ∈ va_wsS own index y ws, w.before args s = true := fun w h => ht w (hT w h).1
  have hG : GoodIn Ts ws := fun w h => hT w (by unfold va_wsS; exact List.mem_append_right _ h)
  have hc : Cond.codeWith y bytes maxL ret hh ∈ ws := by rw [hw]; exact List.mem_cons_self
  refine ⟨⟨hrc, hrs, hR.1, hR.2, pay_in ht hG, hc⟩, ht _ (hG _ hc).1, ok _ (by simp [va_wsS]), ⟨hd.1, hd.2.1⟩, fun sig h => ?_, ok _ (by simp [va_wsS]), ok _ (by simp [va_wsS])⟩
  have h2 := hd.2.2
  rw [h] at h2
  exact (Option.some.inj h2).symm
theorem vx_callSW (X : Stand p l e R s m args below meth c T locs cells slots) (hexec : p.tables.exec = Jvm.exec) {own : String} {index : Nat} {y : MethodName} {bytes : ByteArray} {maxL : Nat} {ret : Option FieldType} {hh : List (Nat × Nat × Nat × Nat)}
    (hown : s.vm.findClass own = some m.cls) (hlink : (Cond.methodLink own index y).before args s = true) (hstat : (Cond.static y).before args s = true) (hinit : (Cond.initialized y.cls).before args s = true)
    (hcode : (Cond.codeWith y bytes maxL ret hh).before args s = true) (hy : y.cls ≠ "java/lang/invoke/MethodHandle" ∧ y.cls ≠ "java/lang/invoke/VarHandle")
    {W9 : Nat} {Pre : Pt → Array Value → Prop} {Post : Pt → Array Value → Option Value → Pt → Prop} (hK : Back l R p e below s args y 3 W9 Pre Post)
    {g : JFrame} (hg : g.method = m) (hsize : g.locals.size = c.maxLocals) {argsL rest : List Value} (hlen : ∀ sig, parseMethodDescriptor y.desc = some sig → argsL.length = sig.parameters.length)
    (hstack : g.stack = argsL.reverse ++ rest) (hW : 2 * g.monitorRoom + (rest.map fun v => v.category).sum ≤ W9) (hdg : decode c.code g.pc = .ok (.invokestatic index, 3))
    (hpre : ∀ vm₁, s.WarmedH vm₁ → Pre ⟨T.setVm vm₁, locs, cells, slots⟩ argsL.toArray) :
    ∃ (v : Option Value) (vm₁ : Vm) (B : Pt), s.WarmedH vm₁ ∧ Stand p l e R s m args below meth c B.U B.locs B.cells B.slots ∧ Post ⟨T.setVm vm₁, locs, cells, slots⟩ argsL.toArray v B ∧
      ∀ target, Steps p.tables e below (B.U.setTop { g with pc := g.pc + 3, stack := v.toList ++ rest }) target → Steps p.tables e below (T.setTop g) target := by
  obtain ⟨mk, methM, cM, hnamed, hmethM, -, -, -, -, -, -, hsigM⟩ := Cond.codeWith_spec hcode
  have hstatic : methM.isStatic = true := Cond.static_spec hnamed hmethM hstat
  obtain ⟨kP, hkP, -⟩ := className_of_methodNamed hnamed
  have hinitP : kP.init = .initialized := Cond.initialized_spec (findClass_of_methodNamed hnamed) hkP hinit
  obtain ⟨vm₁, X₁, hstep₁⟩ := X.invokestatic hexec hown hlink hnamed hmethM hstatic hkP hinitP hy (g := g) hg (argsL := argsL) (rest := rest) (hlen _ hsigM) hstack hdg
  obtain ⟨v, B, X', hpost, hsteps⟩ := hK m meth c ⟨T.setVm vm₁, locs, cells, slots⟩ { g with stack := rest } (.invokestatic index) mk argsL.toArray X₁ hg hsize hdg hW (X₁.named hnamed) (hpre vm₁ X₁.warmed)
  exact ⟨v, vm₁, B, X₁.warmed, X', hpost, fun target h => hstep₁ _ fun acts => by rw [doInvoke_state]; exact hsteps.trans h⟩
theorem vx_runSW {y : MethodName} {bytes cc : ByteArray} {maxL nL mc ms n index : Nat} {ret : Option FieldType} {hh : List (Nat × Nat × Nat × Nat)} {ws : List Cond} {rm : Room} {Pc : Array Value → State → Prop} {Qc : Array Value → State → Outcome → State → Prop} {free : Addr → Prop} {Ts : List Cond} {own : String} {As rest : List Value} {g : JFrame}
    (S : CallFix p m c cc nL s args Ts own) (hM : Met l y ws rm Pc Qc mc ms free) (cw : vx_CSW R s args own index y bytes maxL ret hh ws rm mc ms n) (hp : PreS s H Pc As)
    (hg : g.method = m) (hn : As.length = n) (hsize : g.locals.size = nL) (hstack : g.stack = As.reverse ++ rest) (hW : 2 * g.monitorRoom + (rest.map fun v => v.category).sum ≤ 8) (hdg : decode cc g.pc = .ok (.invokestatic index, 3)) (hf : cells + mc ≤ R.cells ∧ slots + ms ≤ R.slots) :
    va_Run p l e R s m args below meth c H locs cells slots mc ms g rest (Qc As.toArray) (free) := by
  obtain ⟨⟨hrc, hrs, hfr, hlo, hws, hcw⟩, hcode, hini, hy, hlen, hl, hstt⟩ := cw
  have hK : Back l R p e below s args y 3 8 (PreOf R mc ms Pc) (PostOf Qc mc ms free) := va_backW (hh := hh) (bytes := bytes) (maxL := maxL) (ret := ret) hM hp.1 hrc hrs hfr hlo hws hcw (fun a' U hW => word_at hW (Or.inl (by first | rfl | simp [Cond.onTables, Cond.keeps, Cond.steady])) hini)
  obtain ⟨hx, hb, hml, ho, -⟩ := S
  intro T hT X
  obtain ⟨v, vm₁, ⟨U', l2, c2, s2⟩, hW₁, X', ⟨g', mk, t, L, e1, e2, hq, h1, hL, h2, h3⟩, st⟩ := vx_callSW X hx (hh := hh) (bytes := bytes) (maxL := maxL) (ret := ret) ho hl hstt hini hcode hy hK hg (hsize.trans hml.symm) (argsL := As) (rest := rest) (fun sig h => hn.trans (hlen sig h)) hstack hW (by rw [hb]; exact hdg)
    (fun vm₁ hW₁ => ⟨hf.1, hf.2, hp.2 (T.setVm vm₁) hT hW₁⟩)
  dsimp only [Pt.U, Pt.locs, Pt.cells, Pt.slots] at X' e1 e2 h1 h2 h3 st
  subst h1; subst h2; subst h3
  exact ⟨v, (T.setVm vm₁).calling g' mk As.toArray, t, U', L, hT, X', hL, e1, e2, hq, st⟩
/-- not caught here, past rows that name other classes: it goes on to the caller -/
theorem vx_outP {p : Program} {l : Launch} {e : Env} {R : Room} {s : State} {m : MethodId} {args : Array Value} {below : List Frame} {meth : Method} {c : Code} {H : Heap} {locs : List Loc} {cells slots : Nat} {free : Addr → Prop} {ls : Array Slot} {rest : List Value} {Qc : Array Value → State → Outcome → State → Prop} {XC : String → State → State → Prop}
    {pc : Nat} {own E : String} {ce : Cell} {q : Addr} {mc ms : Nat} (hown : s.vm.findClass own = some m.cls) (hlocks : meth.locks = false)
    (hpass : ∀ z ∈ c.exceptionTable.toList, covers z pc = false ∨ (z.catchType ≠ 0 ∧ ∃ nm : String, (Cond.classLink own z.catchType nm).before args s = true ∧ va_Nc E nm s)) (hcell : H[q]? = some ce) (hv : ce.vm = .none) (hcl : s.vm.findClass E = some ce.cls)
    (hx : ∀ t : State, t.heap = H → s.vm.Alike t.vm → XC E s t) (hf : ∀ z ∈ locs, free z.base) (hc : cells ≤ mc) (hs : slots ≤ ms) :
    vx_W p l e R s m args below meth c H locs cells slots (vx_MQ below Qc XC args s mc ms free) (F0 m pc ls rest) q := by
  intro T hT X
  have hpl : e.platform.magicAccessors = ({} : Platform).magicAccessors := by rw [X.admits.platform]
  obtain ⟨vm', hW', X', st⟩ := Stand.outThrough X hlocks q (g := F0 m pc ls rest) rfl rfl rfl (cell := ce) (by rw [hT]; exact hcell) (by rw [hv]; rfl)
    (by obtain ⟨k9, h9, -⟩ := Vm.findClass_spec hcl; exact ⟨k9, h9⟩) (fun z hz => by
      rcases hpass z hz with h | ⟨hz0, nm, hl1, hn1⟩
      · exact Or.inl h
      · obtain ⟨c6, hc6, hcl6⟩ := Cond.classLink_spec hown hl1 e.platform hpl
        obtain ⟨a8, b8, h1, h2, h3⟩ := hn1
        cases Option.some.inj (h1.symm.trans hcl)
        cases Option.some.inj (h2.symm.trans hc6)
        exact Or.inr ⟨hz0, _, hcl6, h3⟩)
  obtain ⟨g₀, hfr⟩ := X'.frames_eq
  have hcell9 : ((T.setVm vm').setFrames (.throwing q :: below)).heap[q]? = some ce := by
    show T.heap[q]? = some ce
    rw [hT]; exact hcell
  have hend : Ended ((T.setVm vm').setFrames (.throwing q :: below)) below (.threw q) := State.frames_setFrames _ (State.cur_lt_of_frames hfr)
  refine ⟨(T.setVm vm').setFrames (.throwing q :: below), ?_, .threw q, X'.here.running, hend, Or.inr ⟨q, rfl, E, ce, locs, hx _ hT (X'.ends _).1.alike, hcell9, hv, hcl, (X'.ends _).1, (X'.ends _).2.mono hc hs, hf⟩⟩
  rw [X.pushThrowing_eq]
  exact st
/-- a thing of a world lies in the heap -/
theorem vx_lt {D : va_G} {cl : List vw_C} {ws : va_W} {H1 : Heap} (h : va_P D cl ws H1) {k : Nat} {q : Nat × va_E} (hk : ws[k]? = some q) : q.1 < H1.size := (h k q hk).lt
end VXS
/-! ===== END ===== -/
/-! ===== BEGIN methods with a table of their own: called by a name, returning or throwing ===== -/
section VXH
/-! vx_backW, vx_callVX, vx_callSX, vx_callVW, vx_runVW, vx_runVX, vx_runSX, vx_ofWH follow the same proofs as their sisters above (Free/Laws.lean, Shelf42/LK1.lean); vx_outP calls Shelf42/NT130.lean (outThrough). -/
section
variable {l : Launch} {R : Room} {p : Program} {e : Env} {below : List Frame} {s : State} {sargs : Array Value} {y : MethodName} {len W9 : Nat}
theorem vx_backW {ws : List Cond} {rm : Room} {Pc : Array Value → State → Prop} {Qc : Array Value → State → Outcome → State → Prop} {XC : String → State → State → Prop} {mc ms : Nat} {free : Addr → Prop} {bytes : ByteArray} {maxL : Nat} {ret : Option FieldType} {hh : List (Nat × Nat × Nat × Nat)}
    (hM : vx_Met l y ws rm Pc Qc XC mc ms free) (hblind : FrameBlind Pc) (hrc : rm.cells = mc) (hrs : rm.slots = ms)
    (hframes : rm.frames + 1 ≤ R.frames) (hlocals : W9 + (maxL + 11) + rm.locals ≤ R.locals)
    (hws : ∀ w ∈ ws, ∀ a' U, s.WarmedH U.vm → w.before a' U = true) (hcode : Cond.codeWith y bytes maxL ret hh ∈ ws) (hinit : ∀ a' U, s.WarmedH U.vm → (Cond.initialized y.cls).before a' U = true) :
    vx_Back l R p e below s sargs y len W9 (PreOf R mc ms Pc) (PostOf Qc mc ms free) (vx_Post XC mc ms free) := by
  intro m meth c A g ig mk a X hg hsize hdg hW hn hp
  have h1 : (headSpec ws rm).pre.before a A.U = true := atoms_intro fun w hw => hws w hw _ _ X.warmed
  have h2 : (Cond.codeWith y bytes maxL ret hh).before a A.U = true := hws _ hcode _ _ X.warmed
  have h3 : (Cond.initialized y.cls).before a A.U = true := hinit _ _ X.warmed
  have h4 : A.cells + (headSpec ws rm).room.cells ≤ R.cells := by rw [show (headSpec ws rm).room.cells = mc from hrc]; exact hp.1
  have h5 : A.slots + (headSpec ws rm).room.slots ≤ R.slots := by rw [show (headSpec ws rm).room.slots = ms from hrs]; exact hp.2.1
  have hPc : Pc a (A.U.calling g mk a) := hblind _ _ _ _ hp.2.2
  obtain ⟨U, Ls, c0, s0⟩ := A
  dsimp only [Pt.U, Pt.locs, Pt.cells, Pt.slots] at h1 h2 h3 h4 h5 X hn hPc ⊢
  obtain ⟨m9, methY, cY, hn9, hmY, hcY, -, hlY, -⟩ := Cond.codeWith_spec h2
  cases Option.some.inj (hn9.symm.trans hn)
  obtain ⟨kY, hkY, -⟩ := className_of_methodNamed hn
  have hinitY : kY.init = .initialized := Cond.initialized_spec (findClass_of_methodNamed hn) hkY h3
  have h : At U g.method c below := by rw [hg]; exact X.here
  have hlocals9 : W9 + (maxL + 11) + (headSpec ws rm).room.locals ≤ R.locals := hlocals
  have happ : (headSpec ws rm).appliesLoose y e.platform (U.calling g mk a) = true :=
    Spec.appliesLoose_calling (g := g) h hdg hn hkY hinitY
      (X.room_calling (g := g) (R' := (headSpec ws rm).room) hsize hmY hcY hframes (by rw [hlY]; omega) h4 h5) h1
  obtain ⟨mid, hmid⟩ := h.above
  have hfr : (U.setTop g).frames = (.java g :: mid) ++ below := by rw [State.frames_setTop' g h.top, hmid]; rfl
  obtain ⟨o, s₂, hsteps, -, hend, hq⟩ := Steps.callFree hM p X.admits X.cas X.clock (acts := []) hfr happ hPc trivial
  have hq' : vx_Q Qc XC mc ms free a (U.calling g mk a) o s₂ := hq
  rw [State.frames_setTop' g h.top] at hend
  obtain ⟨g₀, hg0⟩ := Option.isSome_iff_exists.mp h.top
  obtain ⟨r, hr⟩ := State.topJava?_eq_some.mp hg0
  have hr' : (({ U with heap := s₂.heap, slotsUsed := s₂.slotsUsed } : State).setVm s₂.vm).frames = .java g₀ :: r := hr
  rcases hq' with ⟨hqc, L, hfe, hL⟩ | ⟨q, rfl, E, ce, L, hx, hce, hcv, hcl, hW₂, hsm, hL⟩
  · obtain ⟨⟨v, rfl⟩, hW₂, e2, q2, q3, q4, q5, q6⟩ := id hfe
    have e3 : s₂ = ({ (U.calling g mk a).setFrames s₂.frames with heap := s₂.heap, slotsUsed := s₂.slotsUsed } : State).setVm s₂.vm := by
      have : s₂ = ({ s₂ with vm := (U.calling g mk a).vm } : State).setVm s₂.vm := rfl
      rw [e2] at this
      exact this
    obtain ⟨c₂, i₂, len₂, hc₂, hd₂, hf₂⟩ := hend
    have hW' : U.WarmedH s₂.vm := hW₂
    have hcc : c₂ = c := by
      have h1 : s₂.code? g.method = U.code? g.method := by
        rw [State.code?_eq, State.code?_eq, hW'.alike.method?]
      exact Option.some.inj (hc₂.symm.trans (h1.trans h.code))
    subst hcc
    have hlen : len₂ = len := by rw [hdg] at hd₂; cases hd₂; rfl
    subst hlen
    have hs₂ : s₂ = (({ U with heap := s₂.heap, slotsUsed := s₂.slotsUsed } : State).setVm s₂.vm).setTop { g with pc := g.pc + len₂, stack := v.toList ++ g.stack } := by
      refine e3.trans ?_
      rw [hf₂, State.calling_eq h.top, State.setFrames_setFrames, State.setTop_of_frames _ hr', hr]
      rfl
    have hsame : U.sameButNew ({ U with heap := s₂.heap, slotsUsed := s₂.slotsUsed } : State) L mc ms := by
      refine ⟨?_, q2, q3, q4, q5, q6⟩
      obtain ⟨t, ht, -⟩ := State.frames_cons hr
      show ({ U with heap := s₂.heap, slotsUsed := s₂.slotsUsed } : State) = { U.setFrames U.frames with heap := s₂.heap, slotsUsed := s₂.slotsUsed }
      rw [State.setFrames_self ht]
    subst hg
    refine Or.inl ⟨v, ⟨(({ U with heap := s₂.heap, slotsUsed := s₂.slotsUsed } : State).setVm s₂.vm), Ls ++ L, c0 + mc, s0 + ms⟩,
      ⟨X.admits, X.cas, X.clock, X.frames, X.room, X.hears, X.method, X.code, (X.here.setHeapUsed s₂.heap s₂.slotsUsed).setVm hW'.alike, X.tail, State.WarmedH.trans X.warmed hW', X.limits, X.bytes, X.same.trans (hsame.setVm s.vm)⟩,
      ⟨g, mk, s₂, L, rfl, rfl, hqc, rfl, hL, rfl, rfl⟩, ?_⟩
    show Steps p.tables e below _ ((({ U with heap := s₂.heap, slotsUsed := s₂.slotsUsed } : State).setVm s₂.vm).setTop { g with pc := g.pc + len₂, stack := v.toList ++ g.stack })
    rw [← hs₂]
    exact hsteps
  · obtain ⟨e2, q2, q3, q4, q5, q6⟩ := id hsm
    have e3 : s₂ = ({ (U.calling g mk a).setFrames s₂.frames with heap := s₂.heap, slotsUsed := s₂.slotsUsed } : State).setVm s₂.vm := by
      have : s₂ = ({ s₂ with vm := (U.calling g mk a).vm } : State).setVm s₂.vm := rfl
      rw [e2] at this
      exact this
    have hf₂ : s₂.frames = .throwing q :: .java g :: U.frames.tail := hend
    have hW' : U.WarmedH s₂.vm := hW₂
    have hs₂ : s₂ = ((({ U with heap := s₂.heap, slotsUsed := s₂.slotsUsed } : State).setVm s₂.vm).setTop g).pushFrame (.throwing q) := by
      refine e3.trans ?_
      rw [hf₂, State.calling_eq h.top, State.setFrames_setFrames, State.pushFrame, State.frames_setTop _ hr', State.setTop_of_frames _ hr', State.setFrames_setFrames, hr]
      rfl
    have hsame : U.sameButNew ({ U with heap := s₂.heap, slotsUsed := s₂.slotsUsed } : State) L mc ms := by
      refine ⟨?_, q2, q3, q4, q5, q6⟩
      obtain ⟨t, ht, -⟩ := State.frames_cons hr
      show ({ U with heap := s₂.heap, slotsUsed := s₂.slotsUsed } : State) = { U.setFrames U.frames with heap := s₂.heap, slotsUsed := s₂.slotsUsed }
      rw [State.setFrames_self ht]
    subst hg
    refine Or.inr ⟨q, ⟨(({ U with heap := s₂.heap, slotsUsed := s₂.slotsUsed } : State).setVm s₂.vm), Ls ++ L, c0 + mc, s0 + ms⟩,
      ⟨X.admits, X.cas, X.clock, X.frames, X.room, X.hears, X.method, X.code, (X.here.setHeapUsed s₂.heap s₂.slotsUsed).setVm hW'.alike, X.tail, State.WarmedH.trans X.warmed hW', X.limits, X.bytes, X.same.trans (hsame.setVm s.vm)⟩,
      ⟨g, mk, s₂, L, E, ce, rfl, rfl, hx, hce, hcv, hcl, rfl, hL, rfl, rfl⟩, ?_⟩
    show Steps p.tables e below _ (((({ U with heap := s₂.heap, slotsUsed := s₂.slotsUsed } : State).setVm s₂.vm).setTop g).pushFrame (.throwing q))
    rw [← hs₂]
    exact hsteps
end
variable {p : Program} {l : Launch} {e : Env} {R : Room} {s : State} {m : MethodId} {args : Array Value} {below : List Frame} {meth : Method} {c : Code} {T : State} {H : Heap} {locs : List Loc} {cells slots : Nat}
theorem vx_callVX (X : Stand p l e R s m args below meth c T locs cells slots) (hexec : p.tables.exec = Jvm.exec) {own C : String} {index : Nat} {y : MethodName} {bytes : ByteArray} {maxL : Nat} {ret : Option FieldType} {hh : List (Nat × Nat × Nat × Nat)}
    (hown : s.vm.findClass own = some m.cls) (hlink : (Cond.methodLink own index y).before args s = true) (hinst : (Cond.instanceMethod y).before args s = true) (hsel : (Cond.selects C y y).before args s = true)
    (hcode : (Cond.codeWith y bytes maxL ret hh).before args s = true) (hy : y.cls ≠ "java/lang/invoke/MethodHandle" ∧ y.cls ≠ "java/lang/invoke/VarHandle")
    {W9 : Nat} {Pre : Pt → Array Value → Prop} {Post : Pt → Array Value → Option Value → Pt → Prop} {PostX : Pt → Array Value → Addr → Pt → Prop} (hK : vx_Back l R p e below s args y 3 W9 Pre Post PostX)
    {b : Addr} {cellB : Cell} (hcell : T.heap[b]? = some cellB) (hobj : cellB.vm.isStatics = false) (hcls : s.vm.findClass C = some cellB.cls)
    {g : JFrame} (hg : g.method = m) (hsize : g.locals.size = c.maxLocals) {argsL rest : List Value} (hlen : ∀ sig, parseMethodDescriptor y.desc = some sig → argsL.length = sig.parameters.length)
    (hstack : g.stack = argsL.reverse ++ .ref b :: rest) (hW : 2 * g.monitorRoom + (rest.map fun v => v.category).sum ≤ W9) (hdg : decode c.code g.pc = .ok (.invokevirtual index, 3))
    (hpre : ∀ vm₁, s.WarmedH vm₁ → Pre ⟨T.setVm vm₁, locs, cells, slots⟩ (Value.ref b :: argsL).toArray) :
    (∃ (v : Option Value) (vm₁ : Vm) (B : Pt), s.WarmedH vm₁ ∧ Stand p l e R s m args below meth c B.U B.locs B.cells B.slots ∧ Post ⟨T.setVm vm₁, locs, cells, slots⟩ (Value.ref b :: argsL).toArray v B ∧
      ∀ target, Steps p.tables e below (B.U.setTop { g with pc := g.pc + 3, stack := v.toList ++ rest }) target → Steps p.tables e below (T.setTop g) target) ∨
    (∃ (q : Addr) (vm₁ : Vm) (B : Pt), s.WarmedH vm₁ ∧ Stand p l e R s m args below meth c B.U B.locs B.cells B.slots ∧ PostX ⟨T.setVm vm₁, locs, cells, slots⟩ (Value.ref b :: argsL).toArray q B ∧
      Steps p.tables e below (T.setTop g) ((B.U.setTop { g with stack := rest }).pushFrame (.throwing q))) := by
  obtain ⟨mk, methM, hnamed, hmethM, hstM, habM⟩ := Cond.instanceMethod_spec hinst
  obtain ⟨m8, methM', cM, hn8, hmethM', -, -, -, -, -, -, hsigM⟩ := Cond.codeWith_spec hcode
  cases Option.some.inj (hn8.symm.trans hnamed)
  cases hmethM.symm.trans hmethM'
  obtain ⟨c2, r2, m2, q1, q2, q3, q4, kP, hkP, hkPi⟩ := Cond.selects_spec hsel
  cases hcls.symm.trans q1
  cases (State.methodFound?_of_named hnamed hy).symm.trans q2
  cases hnamed.symm.trans q3
  have hselP : selectMethod e.platform s.vm cellB.cls mk = .method mk := by rw [Launch.admits_selectMethod X.admits]; exact q4
  obtain ⟨vm₁, X₁, hstep₁⟩ := X.invokevirtual hexec hown hlink hnamed hmethM hstM hkP hkPi hy (a := b) (cell := cellB) hcell
    (fun z h => by rw [h] at hobj; cases hobj) hselP hmethM habM hkP hkPi (g := g) hg (argsL := argsL) (rest := rest) (hlen _ hsigM) hstack hdg
  rcases hK m meth c ⟨T.setVm vm₁, locs, cells, slots⟩ { g with stack := rest } (.invokevirtual index) mk (Value.ref b :: argsL).toArray X₁ hg hsize hdg hW (X₁.named hnamed) (hpre vm₁ X₁.warmed) with ⟨v, B, X', hpost, hsteps⟩ | ⟨q, B, X', hpost, hsteps⟩
  · exact Or.inl ⟨v, vm₁, B, X₁.warmed, X', hpost, fun target h => hstep₁ _ fun acts => by rw [doInvoke_state]; exact hsteps.trans h⟩
  · exact Or.inr ⟨q, vm₁, B, X₁.warmed, X', hpost, hstep₁ _ fun acts => by rw [doInvoke_state]; exact hsteps⟩
theorem vx_callSX (X : Stand p l e R s m args below meth c T locs cells slots) (hexec : p.tables.exec = Jvm.exec) {own : String} {index : Nat} {y : MethodName} {bytes : ByteArray} {maxL : Nat} {ret : Option FieldType} {hh : List (Nat × Nat × Nat × Nat)}
    (hown : s.vm.findClass own = some m.cls) (hlink : (Cond.methodLink own index y).before args s = true) (hstat : (Cond.static y).before args s = true) (hinit : (Cond.initialized y.cls).before args s = true)
    (hcode : (Cond.codeWith y bytes maxL ret hh).before args s = true) (hy : y.cls ≠ "java/lang/invoke/MethodHandle" ∧ y.cls ≠ "java/lang/invoke/VarHandle")
    {W9 : Nat} {Pre : Pt → Array Value → Prop} {Post : Pt → Array Value → Option Value → Pt → Prop} {PostX : Pt → Array Value → Addr → Pt → Prop} (hK : vx_Back l R p e below s args y 3 W9 Pre Post PostX)
    {g : JFrame} (hg : g.method = m) (hsize : g.locals.size = c.maxLocals) {argsL rest : List Value} (hlen : ∀ sig, parseMethodDescriptor y.desc = some sig → argsL.length = sig.parameters.length)
    (hstack : g.stack = argsL.reverse ++ rest) (hW : 2 * g.monitorRoom + (rest.map fun v => v.category).sum ≤ W9) (hdg : decode c.code g.pc = .ok (.invokestatic index, 3))
    (hpre : ∀ vm₁, s.WarmedH vm₁ → Pre ⟨T.setVm vm₁, locs, cells, slots⟩ argsL.toArray) :
    (∃ (v : Option Value) (vm₁ : Vm) (B : Pt), s.WarmedH vm₁ ∧ Stand p l e R s m args below meth c B.U B.locs B.cells B.slots ∧ Post ⟨T.setVm vm₁, locs, cells, slots⟩ argsL.toArray v B ∧
      ∀ target, Steps p.tables e below (B.U.setTop { g with pc := g.pc + 3, stack := v.toList ++ rest }) target → Steps p.tables e below (T.setTop g) target) ∨
    (∃ (q : Addr) (vm₁ : Vm) (B : Pt), s.WarmedH vm₁ ∧ Stand p l e R s m args below meth c B.U B.locs B.cells B.slots ∧ PostX ⟨T.setVm vm₁, locs, cells, slots⟩ argsL.toArray q B ∧
      Steps p.tables e below (T.setTop g) ((B.U.setTop { g with stack := rest }).pushFrame (.throwing q))) := by
  obtain ⟨mk, methM, cM, hnamed, hmethM, -, -, -, -, -, -, hsigM⟩ := Cond.codeWith_spec hcode
  have hstatic : methM.isStatic = true := Cond.static_spec hnamed hmethM hstat
  obtain ⟨kP, hkP, -⟩ := className_of_methodNamed hnamed
  have hinitP : kP.init = .initialized := Cond.initialized_spec (findClass_of_methodNamed hnamed) hkP hinit
  obtain ⟨vm₁, X₁, hstep₁⟩ := X.invokestatic hexec hown hlink hnamed hmethM hstatic hkP hinitP hy (g := g) hg (argsL := argsL) (rest := rest) (hlen _ hsigM) hstack hdg
  rcases hK m meth c ⟨T.setVm vm₁, locs, cells, slots⟩ { g with stack := rest } (.invokestatic index) mk argsL.toArray X₁ hg hsize hdg hW (X₁.named hnamed) (hpre vm₁ X₁.warmed) with ⟨v, B, X', hpost, hsteps⟩ | ⟨q, B, X', hpost, hsteps⟩
  · exact Or.inl ⟨v, vm₁, B, X₁.warmed, X', hpost, fun target h => hstep₁ _ fun acts => by rw [doInvoke_state]; exact hsteps.trans h⟩
  · exact Or.inr ⟨q, vm₁, B, X₁.warmed, X', hpost, hstep₁ _ fun acts => by rw [doInvoke_state]; exact hsteps⟩
theorem vx_callVW (X : Stand p l e R s m args below meth c T locs cells slots) (hexec : p.tables.exec = Jvm.exec) {own C : String} {index : Nat} {y : MethodName} {bytes : ByteArray} {maxL : Nat} {ret : Option FieldType} {hh : List (Nat × Nat × Nat × Nat)}
    (hown : s.vm.findClass own = some m.cls) (hlink : (Cond.methodLink own index y).before args s = true) (hinst : (Cond.instanceMethod y).before args s = true) (hsel : (Cond.selects C y y).before args s = true)
    (hcode : (Cond.codeWith y bytes maxL ret hh).before args s = true) (hy : y.cls ≠ "java/lang/invoke/MethodHandle" ∧ y.cls ≠ "java/lang/invoke/VarHandle")
    {W9 : Nat} {Pre : Pt → Array Value → Prop} {Post : Pt → Array Value → Option Value → Pt → Prop} (hK : Back l R p e below s args y 3 W9 Pre Post)
    {b : Addr} {cellB : Cell} (hcell : T.heap[b]? = some cellB) (hobj : cellB.vm.isStatics = false) (hcls : s.vm.findClass C = some cellB.cls)
    {g : JFrame} (hg : g.method = m) (hsize : g.locals.size = c.maxLocals) {argsL rest : List Value} (hlen : ∀ sig, parseMethodDescriptor y.desc = some sig → argsL.length = sig.parameters.length)
    (hstack : g.stack = argsL.reverse ++ .ref b :: rest) (hW : 2 * g.monitorRoom + (rest.map fun v => v.category).sum ≤ W9) (hdg : decode c.code g.pc = .ok (.invokevirtual index, 3))
    (hpre : ∀ vm₁, s.WarmedH vm₁ → Pre ⟨T.setVm vm₁, locs, cells, slots⟩ (Value.ref b :: argsL).toArray) :
    ∃ (v : Option Value) (vm₁ : Vm) (B : Pt), s.WarmedH vm₁ ∧ Stand p l e R s m args below meth c B.U B.locs B.cells B.slots ∧ Post ⟨T.setVm vm₁, locs, cells, slots⟩ (Value.ref b :: argsL).toArray v B ∧
      ∀ target, Steps p.tables e below (B.U.setTop { g with pc := g.pc + 3, stack := v.toList ++ rest }) target → Steps p.tables e below (T.setTop g) target := by
  obtain ⟨mk, methM, hnamed, hmethM, hstM, habM⟩ := Cond.instanceMethod_spec hinst
  obtain ⟨m8, methM', cM, hn8, hmethM', -, -, -, -, -, -, hsigM⟩ := Cond.codeWith_spec hcode
  cases Option.some.inj (hn8.symm.trans hnamed)
  cases hmethM.symm.trans hmethM'
  obtain ⟨c2, r2, m2, q1, q2, q3, q4, kP, hkP, hkPi⟩ := Cond.selects_spec hsel
  cases hcls.symm.trans q1
  cases (State.methodFound?_of_named hnamed hy).symm.trans q2
  cases hnamed.symm.trans q3
  have hselP : selectMethod e.platform s.vm cellB.cls mk = .method mk := by rw [Launch.admits_selectMethod X.admits]; exact q4
  obtain ⟨vm₁, X₁, hstep₁⟩ := X.invokevirtual hexec hown hlink hnamed hmethM hstM hkP hkPi hy (a := b) (cell := cellB) hcell
    (fun z h => by rw [h] at hobj; cases hobj) hselP hmethM habM hkP hkPi (g := g) hg (argsL := argsL) (rest := rest) (hlen _ hsigM) hstack hdg
  obtain ⟨v, B, X', hpost, hsteps⟩ := hK m meth c ⟨T.setVm vm₁, locs, cells, slots⟩ { g with stack := rest } (.invokevirtual index) mk (Value.ref b :: argsL).toArray X₁ hg hsize hdg hW (X₁.named hnamed) (hpre vm₁ X₁.warmed)
  exact ⟨v, vm₁, B, X₁.warmed, X', hpost, fun target h => hstep₁ _ fun acts => by rw [doInvoke_state]; exact hsteps.trans h⟩
abbrev vx_CVW (R : Room) (s : State) (args : Array Value) (own C : String) (index : Nat) (y : MethodName) (bytes : ByteArray) (maxL : Nat) (ret : Option FieldType) (hh : List (Nat × Nat × Nat × Nat)) (ws : List Cond) (rm : Room) (mc ms n : Nat) : Prop :=
  (rm.cells = mc ∧ rm.slots = ms ∧ rm.frames + 1 ≤ R.frames ∧ 8 + (maxL + 11) + rm.locals ≤ R.locals ∧ (∀ w ∈ ws, ∀ (a' : Array Value) (U : State), s.WarmedH U.vm → w.before a' U = true) ∧ Cond.codeWith y bytes maxL ret hh ∈ ws) ∧
  (Cond.codeWith y bytes maxL ret hh).before args s = true ∧ (Cond.initialized y.cls).before args s = true ∧ (y.cls ≠ "java/lang/invoke/MethodHandle" ∧ y.cls ≠ "java/lang/invoke/VarHandle") ∧
  (∀ sig, parseMethodDescriptor y.desc = some sig → n = sig.parameters.length) ∧ (Cond.methodLink own index y).before args s = true ∧ (Cond.instanceMethod y).before args s = true ∧ (Cond.selects C y y).before args s = true
theorem vx_cwVW {own C : String} {index maxL mc ms : Nat} {y : MethodName} {bytes : ByteArray} {ret : Option FieldType} {hh : List (Nat × Nat × Nat × Nat)} {Ts ws ws' : List Cond} {rm : Room} (n : Nat) (ht : ∀ w ∈ Ts, w.before args s = true) (hT : GoodIn Ts (wsV own index C y ws)) (hw : ws = Cond.codeWith y bytes maxL ret hh :: ws') (hrc : rm.cells = mc) (hrs : rm.slots = ms)
    (hd : y.cls = C ∧ y.cls ≠ "java/lang/invoke/MethodHandle" ∧ y.cls ≠ "java/lang/invoke/VarHandle" ∧ (parseMethodDescriptor y.desc).map (fun d => d.parameters.length) = some n) (hR : rm.frames + 1 ≤ R.frames ∧ 8 + (maxL + 11) + rm.locals ≤ R.locals) :
    vx_CVW R s args own C index y bytes maxL ret hh ws rm mc ms n := by
  obtain ⟨hC, hd⟩ := hd
  subst hC
  have ok : ∀ w ∈ wsV own index y.cls y ws, w.before args s = true := fun w h => ht w (hT w h).1
  have hG : GoodIn Ts ws := fun w h => hT w (by unfold wsV; exact List.mem_append_right _ h)
  have hc : Cond.codeWith y bytes maxL ret hh ∈ ws := by rw [hw]; exact List.mem_cons_self
  refine ⟨⟨hrc, hrs, hR.1, hR.2, pay_in ht hG, hc⟩, ht _ (hG _ hc).1, ok _ (by simp [wsV]), ⟨hd.1, hd.2.1⟩, fun sig h => ?_, ok _ (by simp [wsV]), ok _ (by simp [wsV]), ok _ (by simp [wsV])⟩
  have h2 := hd.2.2
  rw [h] at h2
  exact (Option.some.inj h2).symm
theorem vx_runVW {y : MethodName} {bytes cc : ByteArray} {maxL nL mc ms n index : Nat} {ret : Option FieldType} {hh : List (Nat × Nat × Nat × Nat)} {ws : List Cond} {rm : Room} {Pc : Array Value → State → Prop} {Qc : Array Value → State → Outcome → State → Prop} {free : Addr → Prop} {Ts : List Cond} {own C : String} {b : Addr} {As rest : List Value} {g : JFrame}
    (S : CallFix p m c cc nL s args Ts own) (hM : Met l y ws rm Pc Qc mc ms free) (cw : vx_CVW R s args own C index y bytes maxL ret hh ws rm mc ms n) (hp : PreV s H C b Pc As)
    (hg : g.method = m) (hn : As.length = n) (hsize : g.locals.size = nL) (hstack : g.stack = As.reverse ++ .ref b :: rest) (hW : 2 * g.monitorRoom + (rest.map fun v => v.category).sum ≤ 8) (hdg : decode cc g.pc = .ok (.invokevirtual index, 3)) (hf : cells + mc ≤ R.cells ∧ slots + ms ≤ R.slots) :
    va_Run p l e R s m args below meth c H locs cells slots mc ms g rest (Qc (Value.ref b :: As).toArray) free := by
  obtain ⟨⟨hrc, hrs, hfr, hlo, hws, hcw⟩, hcode, hini, hy, hlen, hl, hin, hse⟩ := cw
  have hK : Back l R p e below s args y 3 8 (PreOf R mc ms Pc) (PostOf Qc mc ms free) := va_backW (hh := hh) (bytes := bytes) (maxL := maxL) (ret := ret) hM hp.1 hrc hrs hfr hlo hws hcw (fun a' U hW => word_at hW (Or.inl (by first | rfl | simp [Cond.onTables, Cond.keeps, Cond.steady])) hini)
  obtain ⟨hx, hb, hml, ho, -⟩ := S
  obtain ⟨-, ⟨cellB, hcB, hoB, hclB⟩, hPc⟩ := hp
  intro T hT X
  obtain ⟨v, vm₁, ⟨U', l2, c2, s2⟩, hW₁, X', ⟨g', mk, t, L, e1, e2, hq, h1, hL, h2, h3⟩, st⟩ := vx_callVW X hx (C := C) (hh := hh) (bytes := bytes) (maxL := maxL) (ret := ret) ho hl hin hse hcode hy hK (by rw [hT]; exact hcB) hoB hclB hg (hsize.trans hml.symm) (argsL := As) (rest := rest) (fun sig h => hn.trans (hlen sig h)) hstack hW (by rw [hb]; exact hdg)
    (fun vm₁ hW₁ => ⟨hf.1, hf.2, hPc (T.setVm vm₁) hT hW₁⟩)
  dsimp only [Pt.U, Pt.locs, Pt.cells, Pt.slots] at X' e1 e2 h1 h2 h3 st
  subst h1; subst h2; subst h3
  exact ⟨v, (T.setVm vm₁).calling g' mk (Value.ref b :: As).toArray, t, U', L, hT, X', hL, e1, e2, hq, st⟩
section
variable {y : MethodName} {bytes cc : ByteArray} {maxL nL mc ms n index : Nat} {ret : Option FieldType} {ws : List Cond} {rm : Room} {Pc : Array Value → State → Prop} {Qc : Array Value → State → Outcome → State → Prop} {XC : String → State → State → Prop} {free : Addr → Prop} {Ts : List Cond} {own C : String} {b : Addr} {As rest : List Value} {g : JFrame}
theorem vx_runVX {hh : List (Nat × Nat × Nat × Nat)} (S : CallFix p m c cc nL s args Ts own) (hM : vx_Met l y ws rm Pc Qc XC mc ms free) (cw : vx_CVW R s args own C index y bytes maxL ret hh ws rm mc ms n) (hp : PreV s H C b Pc As)
    (hg : g.method = m) (hn : As.length = n) (hsize : g.locals.size = nL) (hstack : g.stack = As.reverse ++ .ref b :: rest) (hW : 2 * g.monitorRoom + (rest.map fun v => v.category).sum ≤ 8) (hdg : decode cc g.pc = .ok (.invokevirtual index, 3)) (hf : cells + mc ≤ R.cells ∧ slots + ms ≤ R.slots) :
    vx_Run p l e R s m args below meth c H locs cells slots mc ms g rest (Qc (Value.ref b :: As).toArray) XC free := by
  obtain ⟨⟨hrc, hrs, hfr, hlo, hws, hcw⟩, hcode, hini, hy, hlen, hl, hin, hse⟩ := cw
  have hK : vx_Back l R p e below s args y 3 8 (PreOf R mc ms Pc) (PostOf Qc mc ms free) (vx_Post XC mc ms free) := vx_backW (hh := hh) (bytes := bytes) (maxL := maxL) (ret := ret) hM hp.1 hrc hrs hfr hlo hws hcw (fun a' U hW => word_at hW (Or.inl (by first | rfl | simp [Cond.onTables, Cond.keeps, Cond.steady])) hini)
  obtain ⟨hx, hb, hml, ho, -⟩ := S
  obtain ⟨-, ⟨cellB, hcB, hoB, hclB⟩, hPc⟩ := hp
  intro T hT X
  rcases vx_callVX X hx (C := C) (hh := hh) (bytes := bytes) (maxL := maxL) (ret := ret) ho hl hin hse hcode hy hK (by rw [hT]; exact hcB) hoB hclB hg (hsize.trans hml.symm) (argsL := As) (rest := rest) (fun sig h => hn.trans (hlen sig h)) hstack hW (by rw [hb]; exact hdg)
    (fun vm₁ hW₁ => ⟨hf.1, hf.2, hPc (T.setVm vm₁) hT hW₁⟩) with ⟨v, vm₁, ⟨U', l2, c2, s2⟩, hW₁, X', ⟨g', mk, t, L, e1, e2, hq, h1, hL, h2, h3⟩, st⟩ | ⟨q, vm₁, ⟨U', l2, c2, s2⟩, hW₁, X', ⟨g', mk, t, L, E, ce, e1, e2, hq, hce, hcv, hcl, h1, hL, h2, h3⟩, st⟩
  · dsimp only [Pt.U, Pt.locs, Pt.cells, Pt.slots] at X' e1 e2 h1 h2 h3 st
    subst h1; subst h2; subst h3
    exact Or.inl ⟨v, (T.setVm vm₁).calling g' mk (Value.ref b :: As).toArray, t, U', L, hT, X', hL, e1, e2, hq, st⟩
  · dsimp only [Pt.U, Pt.locs, Pt.cells, Pt.slots] at X' e1 e2 h1 h2 h3 st hcl
    subst h1; subst h2; subst h3
    exact Or.inr ⟨q, (T.setVm vm₁).calling g' mk (Value.ref b :: As).toArray, t, U', L, E, ce, hT, X', hL, e1, e2, hq, hce, hcv, vx_cls hW₁ hcl, st⟩
theorem vx_runSX {hh : List (Nat × Nat × Nat × Nat)} (S : CallFix p m c cc nL s args Ts own) (hM : vx_Met l y ws rm Pc Qc XC mc ms free) (cw : vx_CSW R s args own index y bytes maxL ret hh ws rm mc ms n) (hp : PreS s H Pc As)
    (hg : g.method = m) (hn : As.length = n) (hsize : g.locals.size = nL) (hstack : g.stack = As.reverse ++ rest) (hW : 2 * g.monitorRoom + (rest.map fun v => v.category).sum ≤ 8) (hdg : decode cc g.pc = .ok (.invokestatic index, 3)) (hf : cells + mc ≤ R.cells ∧ slots + ms ≤ R.slots) :
    vx_Run p l e R s m args below meth c H locs cells slots mc ms g rest (Qc As.toArray) XC free := by
  obtain ⟨⟨hrc, hrs, hfr, hlo, hws, hcw⟩, hcode, hini, hy, hlen, hl, hstt⟩ := cw
  have hK : vx_Back l R p e below s args y 3 8 (PreOf R mc ms Pc) (PostOf Qc mc ms free) (vx_Post XC mc ms free) := vx_backW (hh := hh) (bytes := bytes) (maxL := maxL) (ret := ret) hM hp.1 hrc hrs hfr hlo hws hcw (fun a' U hW => word_at hW (Or.inl (by first | rfl | simp [Cond.onTables, Cond.keeps, Cond.steady])) hini)
  obtain ⟨hx, hb, hml, ho, -⟩ := S
  intro T hT X
  rcases vx_callSX X hx (hh := hh) (bytes := bytes) (maxL := maxL) (ret := ret) ho hl hstt hini hcode hy hK hg (hsize.trans hml.symm) (argsL := As) (rest := rest) (fun sig h => hn.trans (hlen sig h)) hstack hW (by rw [hb]; exact hdg)
    (fun vm₁ hW₁ => ⟨hf.1, hf.2, hp.2 (T.setVm vm₁) hT hW₁⟩) with ⟨v, vm₁, ⟨U', l2, c2, s2⟩, hW₁, X', ⟨g', mk, t, L, e1, e2, hq, h1, hL, h2, h3⟩, st⟩ | ⟨q, vm₁, ⟨U', l2, c2, s2⟩, hW₁, X', ⟨g', mk, t, L, E, ce, e1, e2, hq, hce, hcv, hcl, h1, hL, h2, h3⟩, st⟩
  · dsimp only [Pt.U, Pt.locs, Pt.cells, Pt.slots] at X' e1 e2 h1 h2 h3 st
    subst h1; subst h2; subst h3
    exact Or.inl ⟨v, (T.setVm vm₁).calling g' mk As.toArray, t, U', L, hT, X', hL, e1, e2, hq, st⟩
  · dsimp only [Pt.U, Pt.locs, Pt.cells, Pt.slots] at X' e1 e2 h1 h2 h3 st hcl
    subst h1; subst h2; subst h3
    exact Or.inr ⟨q, (T.setVm vm₁).calling g' mk As.toArray, t, U', L, E, ce, hT, X', hL, e1, e2, hq, hce, hcv, vx_cls hW₁ hcl, st⟩
end
end VXH
theorem vx_ofWH {l : Launch} {y : MethodName} {ws ws' : List Cond} {rm : Room} {Pc : Array Value → State → Prop} {Qc : Array Value → State → Outcome → State → Prop} {XC : String → State → State → Prop} {mc ms : Nat} {free : Addr → Prop} {cc : ByteArray} {maxL : Nat} {ret : Option FieldType} {hh : List (Nat × Nat × Nat × Nat)}
    (hy : plainName y.cls = true) (hw : ws = Cond.codeWith y cc maxL ret hh :: ws')
    (body : ∀ p e s m args below meth c s₁, BodyLoose p l y (headSpec ws rm) cc maxL ret e s m args below meth c s₁ → c.maxLocals = maxL → Pc args s →
      W p l e (headSpec ws rm).room s m args below meth c s.heap [] 0 0 (vx_MQ below Qc XC args s mc ms free) (entryFrame m args maxL)) : vx_Met l y ws rm Pc Qc XC mc ms free := by
  refine MetFree.of_bodyS (code := cc) (maxLocals := maxL) (ret := ret) hy ?_ ?_
  · intro args s m h hn
    obtain ⟨m9, meth, c, hn9, h1, h2, h3, h4, -, h5, h6, -⟩ := Cond.codeWith_spec (atoms_spec (ws := ws) h _ (by rw [hw]; exact List.mem_cons_self))
    cases hn.symm.trans hn9
    exact ⟨meth, c, h1, h2, h3, h4, h5, h6⟩
  · intro p e s m args below meth c s₁ B hml hP _
    have hh0 : s₁.heap = s.heap := by rw [B.state]; rfl
    obtain ⟨t, a1, o, b1, b2, b3⟩ := body p e s m args below meth c s₁ B hml hP s₁ hh0 (Stand.of_body B)
    exact ⟨t, o, a1, b1, b2, b3⟩
/-! ===== END ===== -/
end
section
/-! ===== BEGIN printed: names, fields, word lists, decode rows ===== -/
def RX0 : String := "TreapVersions$Store"
def TX0 : u_T := fun k => match k with
  | 0 => ("TreapVersions$Store", "room", "I", true)
  | 1 => ("TreapVersions$Store", "key", "[I", true)
  | 2 => ("TreapVersions$Store", "value", "[I", true)
  | 3 => ("TreapVersions$Store", "weight", "[I", true)
  | 4 => ("TreapVersions$Store", "left", "[I", true)
  | 5 => ("TreapVersions$Store", "right", "[I", true)
  | 6 => ("TreapVersions$Store", "count", "[I", true)
  | 7 => ("TreapVersions$Store", "usedPlaces", "I", false)
  | 8 => ("TreapVersions$Store", "taken", "[Z", true)
  | 9 => ("TreapVersions$Store", "reached", "[Z", true)
  | _ => ("TreapVersions$Store", "pending", "[I", true)
def tyX0 : Nat → FieldType := fun k => match k with
  | 0 => .int
  | 1 => .array .int
  | 2 => .array .int
  | 3 => .array .int
  | 4 => .array .int
  | 5 => .array .int
  | 6 => .array .int
  | 7 => .int
  | 8 => .array .boolean
  | 9 => .array .boolean
  | _ => .array .int
abbrev wsX00 : List Cond := u_ws RX0 TX0 11
theorem nmX0 : ∀ a, a < 11 → ∀ b, b < 11 → a ≠ b → (TX0 a).2.1 ≠ (TX0 b).2.1 := by decide +kernel
theorem tyX0_ok : ∀ k, k < 11 → parseFieldDescriptor (TX0 k).2.2.1 = some (tyX0 k) := by decide +kernel
abbrev cX0_init : ByteArray := prog_2_method_1_code
def yX0_init : MethodName := ⟨RX0, "<init>", "(I)V"⟩
abbrev cX0_hasRoom : ByteArray := prog_2_method_2_code
def yX0_hasRoom : MethodName := ⟨RX0, "hasRoom", "(I)Z"⟩
abbrev cX0_fresh : ByteArray := prog_2_method_3_code
def yX0_fresh : MethodName := ⟨RX0, "fresh", "(IIIII)I"⟩
abbrev cX0_copy : ByteArray := prog_2_method_4_code
def yX0_copy : MethodName := ⟨RX0, "copy", "(III)I"⟩
abbrev cX0_freePlace : ByteArray := prog_2_method_5_code
def yX0_freePlace : MethodName := ⟨RX0, "freePlace", "()I"⟩
abbrev cX0_goesAbove : ByteArray := prog_2_method_6_code
def yX0_goesAbove : MethodName := ⟨RX0, "goesAbove", "(III)Z"⟩
abbrev cX0_forgetReached : ByteArray := prog_2_method_7_code
def yX0_forgetReached : MethodName := ⟨RX0, "forgetReached", "()V"⟩
abbrev cX0_reach : ByteArray := prog_2_method_8_code
def yX0_reach : MethodName := ⟨RX0, "reach", "(I)I"⟩
abbrev cX0_pend : ByteArray := prog_2_method_9_code
def yX0_pend : MethodName := ⟨RX0, "pend", "(II)I"⟩
abbrev cX0_keepReached : ByteArray := prog_2_method_10_code
def yX0_keepReached : MethodName := ⟨RX0, "keepReached", "()V"⟩
abbrev cX0_sumReached : ByteArray := prog_2_method_11_code
def yX0_sumReached : MethodName := ⟨RX0, "sumReached", "(II)J"⟩
abbrev cX0_nodeAt : ByteArray := prog_2_method_12_code
def yX0_nodeAt : MethodName := ⟨RX0, "nodeAt", "(II)I"⟩
abbrev cX0_floorNode : ByteArray := prog_2_method_13_code
def yX0_floorNode : MethodName := ⟨RX0, "floorNode", "(II)I"⟩
def RX1 : String := "TreapVersions$Way"
def TX1 : u_T := fun k => match k with
  | 0 => ("TreapVersions$Way", "store", "LTreapVersions$Store;", true)
  | 1 => ("TreapVersions$Way", "noted", "[I", true)
  | _ => ("TreapVersions$Way", "length", "I", false)
def tyX1 : Nat → FieldType := fun k => match k with
  | 0 => .object "TreapVersions$Store"
  | 1 => .array .int
  | _ => .int
abbrev wsX10 : List Cond := u_ws RX1 TX1 3
theorem nmX1 : ∀ a, a < 3 → ∀ b, b < 3 → a ≠ b → (TX1 a).2.1 ≠ (TX1 b).2.1 := by decide +kernel
theorem tyX1_ok : ∀ k, k < 3 → parseFieldDescriptor (TX1 k).2.2.1 = some (tyX1 k) := by decide +kernel
abbrev cX1_init : ByteArray := prog_3_method_1_code
def yX1_init : MethodName := ⟨RX1, "<init>", "(LTreapVersions$Store;)V"⟩
abbrev cX1_noteTo : ByteArray := prog_3_method_2_code
def yX1_noteTo : MethodName := ⟨RX1, "noteTo", "(II)I"⟩
abbrev cX1_noteLesser : ByteArray := prog_3_method_3_code
def yX1_noteLesser : MethodName := ⟨RX1, "noteLesser", "(II)V"⟩
abbrev cX1_noteRemoval : ByteArray := prog_3_method_4_code
def yX1_noteRemoval : MethodName := ⟨RX1, "noteRemoval", "(II)I"⟩
abbrev cX1_noteJoint : ByteArray := prog_3_method_5_code
def yX1_noteJoint : MethodName := ⟨RX1, "noteJoint", "(II)I"⟩
abbrev cX1_placeNew : ByteArray := prog_3_method_6_code
def yX1_placeNew : MethodName := ⟨RX1, "placeNew", "(III)I"⟩
abbrev cX1_copyOver : ByteArray := prog_3_method_7_code
def yX1_copyOver : MethodName := ⟨RX1, "copyOver", "(II)I"⟩
def RX2 : String := "TreapVersions"
def TX2 : u_T := fun k => match k with
  | 0 => ("TreapVersions", "store", "LTreapVersions$Store;", true)
  | 1 => ("TreapVersions", "way", "LTreapVersions$Way;", true)
  | 2 => ("TreapVersions", "live", "[Z", true)
  | 3 => ("TreapVersions", "roots", "[I", true)
  | 4 => ("TreapVersions", "seed", "I", false)
  | _ => ("TreapVersions", "sweepCount", "I", false)
def tyX2 : Nat → FieldType := fun k => match k with
  | 0 => .object "TreapVersions$Store"
  | 1 => .object "TreapVersions$Way"
  | 2 => .array .boolean
  | 3 => .array .int
  | 4 => .int
  | _ => .int
abbrev wsX20 : List Cond := u_ws RX2 TX2 6
theorem nmX2 : ∀ a, a < 6 → ∀ b, b < 6 → a ≠ b → (TX2 a).2.1 ≠ (TX2 b).2.1 := by decide +kernel
theorem tyX2_ok : ∀ k, k < 6 → parseFieldDescriptor (TX2 k).2.2.1 = some (tyX2 k) := by decide +kernel
abbrev cX2_init : ByteArray := prog_1_method_1_code
def yX2_init : MethodName := ⟨RX2, "<init>", "(III)V"⟩
abbrev cX2_put : ByteArray := prog_1_method_2_code
def yX2_put : MethodName := ⟨RX2, "put", "(III)I"⟩
abbrev cX2_remove : ByteArray := prog_1_method_3_code
def yX2_remove : MethodName := ⟨RX2, "remove", "(II)I"⟩
abbrev cX2_below : ByteArray := prog_1_method_4_code
def yX2_below : MethodName := ⟨RX2, "below", "(II)I"⟩
abbrev cX2_join : ByteArray := prog_1_method_5_code
def yX2_join : MethodName := ⟨RX2, "join", "(II)I"⟩
abbrev cX2_drop : ByteArray := prog_1_method_6_code
def yX2_drop : MethodName := ⟨RX2, "drop", "(I)Z"⟩
abbrev cX2_isLive : ByteArray := prog_1_method_7_code
def yX2_isLive : MethodName := ⟨RX2, "isLive", "(I)Z"⟩
abbrev cX2_get : ByteArray := prog_1_method_8_code
def yX2_get : MethodName := ⟨RX2, "get", "(II)I"⟩
abbrev cX2_contains : ByteArray := prog_1_method_9_code
def yX2_contains : MethodName := ⟨RX2, "contains", "(II)Z"⟩
abbrev cX2_size : ByteArray := prog_1_method_10_code
def yX2_size : MethodName := ⟨RX2, "size", "(I)I"⟩
abbrev cX2_floor : ByteArray := prog_1_method_11_code
def yX2_floor : MethodName := ⟨RX2, "floor", "(II)I"⟩
abbrev cX2_keyAt : ByteArray := prog_1_method_12_code
def yX2_keyAt : MethodName := ⟨RX2, "keyAt", "(II)I"⟩
abbrev cX2_sum : ByteArray := prog_1_method_13_code
def yX2_sum : MethodName := ⟨RX2, "sum", "(III)J"⟩
abbrev cX2_depth : ByteArray := prog_1_method_14_code
def yX2_depth : MethodName := ⟨RX2, "depth", "(II)I"⟩
abbrev cX2_shared : ByteArray := prog_1_method_15_code
def yX2_shared : MethodName := ⟨RX2, "shared", "(II)I"⟩
abbrev cX2_nodes : ByteArray := prog_1_method_16_code
def yX2_nodes : MethodName := ⟨RX2, "nodes", "()I"⟩
abbrev cX2_used : ByteArray := prog_1_method_17_code
def yX2_used : MethodName := ⟨RX2, "used", "()I"⟩
abbrev cX2_sweeps : ByteArray := prog_1_method_18_code
def yX2_sweeps : MethodName := ⟨RX2, "sweeps", "()I"⟩
abbrev cX2_nodeWith : ByteArray := prog_1_method_19_code
def yX2_nodeWith : MethodName := ⟨RX2, "nodeWith", "(II)I"⟩
abbrev cX2_handleFor : ByteArray := prog_1_method_20_code
def yX2_handleFor : MethodName := ⟨RX2, "handleFor", "(I)I"⟩
abbrev cX2_makeRoom : ByteArray := prog_1_method_21_code
def yX2_makeRoom : MethodName := ⟨RX2, "makeRoom", "(I)Z"⟩
abbrev cX2_reachLive : ByteArray := prog_1_method_22_code
def yX2_reachLive : MethodName := ⟨RX2, "reachLive", "()I"⟩
abbrev cX2_open : ByteArray := prog_1_method_23_code
def yX2_open : MethodName := ⟨RX2, "open", "(II)I"⟩
abbrev cX2_drawWeight : ByteArray := prog_1_method_24_code
def yX2_drawWeight : MethodName := ⟨RX2, "drawWeight", "()I"⟩
def RX3 : String := "TreapVersionsModel"
def TX3 : u_T := fun k => match k with
  | 0 => ("TreapVersionsModel", "thrown", "I", false)
  | 1 => ("TreapVersionsModel", "room", "I", false)
  | 2 => ("TreapVersionsModel", "versions", "I", false)
  | 3 => ("TreapVersionsModel", "seed", "I", false)
  | 4 => ("TreapVersionsModel", "used", "I", false)
  | 5 => ("TreapVersionsModel", "sweeps", "I", false)
  | 6 => ("TreapVersionsModel", "key", "[I", true)
  | 7 => ("TreapVersionsModel", "value", "[I", true)
  | 8 => ("TreapVersionsModel", "weight", "[I", true)
  | 9 => ("TreapVersionsModel", "left", "[I", true)
  | 10 => ("TreapVersionsModel", "right", "[I", true)
  | 11 => ("TreapVersionsModel", "live", "[Z", true)
  | 12 => ("TreapVersionsModel", "other", "[Z", true)
  | 13 => ("TreapVersionsModel", "stack", "[I", true)
  | 14 => ("TreapVersionsModel", "top", "I", false)
  | 15 => ("TreapVersionsModel", "isLive", "[Z", true)
  | 16 => ("TreapVersionsModel", "root", "[I", true)
  | 17 => ("TreapVersionsModel", "fresh", "I", false)
  | 18 => ("TreapVersionsModel", "next", "I", false)
  | 19 => ("TreapVersionsModel", "tree", "I", false)
  | 20 => ("TreapVersionsModel", "hole", "I", false)
  | 21 => ("TreapVersionsModel", "holeRight", "Z", false)
  | 22 => ("TreapVersionsModel", "steps", "I", false)
  | _ => ("TreapVersionsModel", "way", "[I", true)
def tyX3 : Nat → FieldType := fun k => match k with
  | 0 => .int
  | 1 => .int
  | 2 => .int
  | 3 => .int
  | 4 => .int
  | 5 => .int
  | 6 => .array .int
  | 7 => .array .int
  | 8 => .array .int
  | 9 => .array .int
  | 10 => .array .int
  | 11 => .array .boolean
  | 12 => .array .boolean
  | 13 => .array .int
  | 14 => .int
  | 15 => .array .boolean
  | 16 => .array .int
  | 17 => .int
  | 18 => .int
  | 19 => .int
  | 20 => .int
  | 21 => .boolean
  | 22 => .int
  | _ => .array .int
abbrev wsX30 : List Cond := u_ws RX3 TX3 24
theorem nmX3 : ∀ a, a < 24 → ∀ b, b < 24 → a ≠ b → (TX3 a).2.1 ≠ (TX3 b).2.1 := by decide +kernel
theorem tyX3_ok : ∀ k, k < 24 → parseFieldDescriptor (TX3 k).2.2.1 = some (tyX3 k) := by decide +kernel
abbrev cX3_init : ByteArray := prog_5_method_1_code
def yX3_init : MethodName := ⟨RX3, "<init>", "(III)V"⟩
abbrev cX3_thrown : ByteArray := prog_5_method_2_code
def yX3_thrown : MethodName := ⟨RX3, "thrown", "()I"⟩
abbrev cX3_fail : ByteArray := prog_5_method_3_code
def yX3_fail : MethodName := ⟨RX3, "fail", "(I)I"⟩
abbrev cX3_has : ByteArray := prog_5_method_4_code
def yX3_has : MethodName := ⟨RX3, "has", "(I)Z"⟩
abbrev cX3_mark : ByteArray := prog_5_method_5_code
def yX3_mark : MethodName := ⟨RX3, "mark", "(I[Z)I"⟩
abbrev cX3_markAll : ByteArray := prog_5_method_6_code
def yX3_markAll : MethodName := ⟨RX3, "markAll", "()I"⟩
abbrev cX3_above : ByteArray := prog_5_method_7_code
def yX3_above : MethodName := ⟨RX3, "above", "(II)Z"⟩
abbrev cX3_begin : ByteArray := prog_5_method_8_code
def yX3_begin : MethodName := ⟨RX3, "begin", "()V"⟩
abbrev cX3_make : ByteArray := prog_5_method_9_code
def yX3_make : MethodName := ⟨RX3, "make", "(IIIII)I"⟩
abbrev cX3_copy : ByteArray := prog_5_method_10_code
def yX3_copy : MethodName := ⟨RX3, "copy", "(I)I"⟩
abbrev cX3_hang : ByteArray := prog_5_method_11_code
def yX3_hang : MethodName := ⟨RX3, "hang", "(I)V"⟩
abbrev cX3_holeAt : ByteArray := prog_5_method_12_code
def yX3_holeAt : MethodName := ⟨RX3, "holeAt", "(IZ)V"⟩
abbrev cX3_go : ByteArray := prog_5_method_13_code
def yX3_go : MethodName := ⟨RX3, "go", "(IIZ)V"⟩
abbrev cX3_find : ByteArray := prog_5_method_14_code
def yX3_find : MethodName := ⟨RX3, "find", "(II)I"⟩
abbrev cX3_freeHandle : ByteArray := prog_5_method_15_code
def yX3_freeHandle : MethodName := ⟨RX3, "freeHandle", "()I"⟩
abbrev cX3_takes : ByteArray := prog_5_method_16_code
def yX3_takes : MethodName := ⟨RX3, "takes", "(I)Z"⟩
abbrev cX3_settle : ByteArray := prog_5_method_17_code
def yX3_settle : MethodName := ⟨RX3, "settle", "(I)I"⟩
abbrev cX3_putValue : ByteArray := prog_5_method_18_code
def yX3_putValue : MethodName := ⟨RX3, "putValue", "(II)V"⟩
abbrev cX3_putNew : ByteArray := prog_5_method_19_code
def yX3_putNew : MethodName := ⟨RX3, "putNew", "(II)V"⟩
abbrev cX3_put : ByteArray := prog_5_method_20_code
def yX3_put : MethodName := ⟨RX3, "put", "(III)I"⟩
abbrev cX3_joint : ByteArray := prog_5_method_21_code
def yX3_joint : MethodName := ⟨RX3, "joint", "(II)V"⟩
abbrev cX3_remove : ByteArray := prog_5_method_22_code
def yX3_remove : MethodName := ⟨RX3, "remove", "(II)I"⟩
abbrev cX3_below : ByteArray := prog_5_method_23_code
def yX3_below : MethodName := ⟨RX3, "below", "(II)I"⟩
abbrev cX3_least : ByteArray := prog_5_method_24_code
def yX3_least : MethodName := ⟨RX3, "least", "(I)I"⟩
abbrev cX3_greatest : ByteArray := prog_5_method_25_code
def yX3_greatest : MethodName := ⟨RX3, "greatest", "(I)I"⟩
abbrev cX3_join : ByteArray := prog_5_method_26_code
def yX3_join : MethodName := ⟨RX3, "join", "(II)I"⟩
abbrev cX3_drop : ByteArray := prog_5_method_27_code
def yX3_drop : MethodName := ⟨RX3, "drop", "(I)Z"⟩
abbrev cX3_isLive : ByteArray := prog_5_method_28_code
def yX3_isLive : MethodName := ⟨RX3, "isLive", "(I)Z"⟩
abbrev cX3_get : ByteArray := prog_5_method_29_code
def yX3_get : MethodName := ⟨RX3, "get", "(II)I"⟩
abbrev cX3_contains : ByteArray := prog_5_method_30_code
def yX3_contains : MethodName := ⟨RX3, "contains", "(II)Z"⟩
abbrev cX3_clear : ByteArray := prog_5_method_31_code
def yX3_clear : MethodName := ⟨RX3, "clear", "()V"⟩
abbrev cX3_size : ByteArray := prog_5_method_32_code
def yX3_size : MethodName := ⟨RX3, "size", "(I)I"⟩
abbrev cX3_floor : ByteArray := prog_5_method_33_code
def yX3_floor : MethodName := ⟨RX3, "floor", "(II)I"⟩
abbrev cX3_rank : ByteArray := prog_5_method_34_code
def yX3_rank : MethodName := ⟨RX3, "rank", "(I)I"⟩
abbrev cX3_keyAt : ByteArray := prog_5_method_35_code
def yX3_keyAt : MethodName := ⟨RX3, "keyAt", "(II)I"⟩
abbrev cX3_sum : ByteArray := prog_5_method_36_code
def yX3_sum : MethodName := ⟨RX3, "sum", "(III)J"⟩
abbrev cX3_depth : ByteArray := prog_5_method_37_code
def yX3_depth : MethodName := ⟨RX3, "depth", "(II)I"⟩
abbrev cX3_shared : ByteArray := prog_5_method_38_code
def yX3_shared : MethodName := ⟨RX3, "shared", "(II)I"⟩
abbrev cX3_union : ByteArray := prog_5_method_39_code
def yX3_union : MethodName := ⟨RX3, "union", "(II)I"⟩
abbrev cX3_nodes : ByteArray := prog_5_method_40_code
def yX3_nodes : MethodName := ⟨RX3, "nodes", "()I"⟩
abbrev cX3_used : ByteArray := prog_5_method_41_code
def yX3_used : MethodName := ⟨RX3, "used", "()I"⟩
abbrev cX3_sweeps : ByteArray := prog_5_method_42_code
def yX3_sweeps : MethodName := ⟨RX3, "sweeps", "()I"⟩
def RL : String := "TreapVersionsLaw"
abbrev cL_cell : ByteArray := method_2_code
def yL_cell : MethodName := ⟨RL, "cell", "([II)I"⟩
abbrev cL_get : ByteArray := method_3_code
def yL_get : MethodName := ⟨RL, "get", "(LTreapVersions;II[J)I"⟩
abbrev cL_floor : ByteArray := method_4_code
def yL_floor : MethodName := ⟨RL, "floor", "(LTreapVersions;II[J)I"⟩
abbrev cL_keyAt : ByteArray := method_5_code
def yL_keyAt : MethodName := ⟨RL, "keyAt", "(LTreapVersions;II[J)I"⟩
abbrev cL_depth : ByteArray := method_6_code
def yL_depth : MethodName := ⟨RL, "depth", "(LTreapVersions;II[J)I"⟩
abbrev cL_law : ByteArray := code
def yL_law : MethodName := ⟨RL, "law", "([I)Z"⟩
def wsX0_init : List Cond := .code yX0_init cX0_init 2 none :: ([.methodLink RX0 3 objectInit, .instanceMethod objectInit, .code objectInit ⟨#[0xb1]⟩ 1 none, .fieldLink RX0 9 "TreapVersions$Store" "room" "I", .arrayClass .int, .fieldLink RX0 15 "TreapVersions$Store" "key" "[I", .fieldLink RX0 19 "TreapVersions$Store" "value" "[I", .fieldLink RX0 22 "TreapVersions$Store" "weight" "[I", .fieldLink RX0 25 "TreapVersions$Store" "left" "[I", .fieldLink RX0 28 "TreapVersions$Store" "right" "[I", .fieldLink RX0 31 "TreapVersions$Store" "count" "[I", .arrayClass .boolean, .fieldLink RX0 34 "TreapVersions$Store" "taken" "[Z", .fieldLink RX0 38 "TreapVersions$Store" "reached" "[Z", .fieldLink RX0 41 "TreapVersions$Store" "pending" "[I"] ++ wsX00)
def wsX0_hasRoom : List Cond := .code yX0_hasRoom cX0_hasRoom 2 (some .boolean) :: ([.fieldLink RX0 44 "TreapVersions$Store" "usedPlaces" "I", .fieldLink RX0 9 "TreapVersions$Store" "room" "I"] ++ wsX00)
def wsX0_freePlace : List Cond := .code yX0_freePlace cX0_freePlace 2 (some .int) :: ([.fieldLink RX0 9 "TreapVersions$Store" "room" "I", .fieldLink RX0 34 "TreapVersions$Store" "taken" "[Z"] ++ wsX00)
def wsX0_fresh : List Cond := .code yX0_fresh cX0_fresh 7 (some .int) :: ([.fieldLink RX0 34 "TreapVersions$Store" "taken" "[Z", .fieldLink RX0 44 "TreapVersions$Store" "usedPlaces" "I", .fieldLink RX0 15 "TreapVersions$Store" "key" "[I", .fieldLink RX0 19 "TreapVersions$Store" "value" "[I", .fieldLink RX0 22 "TreapVersions$Store" "weight" "[I", .fieldLink RX0 25 "TreapVersions$Store" "left" "[I", .fieldLink RX0 28 "TreapVersions$Store" "right" "[I", .fieldLink RX0 31 "TreapVersions$Store" "count" "[I", .methodLink RX0 47 yX0_freePlace, .instanceMethod yX0_freePlace, .selects RX0 yX0_freePlace yX0_freePlace, .initialized RX0, .code yX0_freePlace cX0_freePlace 2 (some .int), .fieldLink RX0 9 "TreapVersions$Store" "room" "I"] ++ wsX00)
def wsX0_copy : List Cond := .code yX0_copy cX0_copy 4 (some .int) :: ([.fieldLink RX0 15 "TreapVersions$Store" "key" "[I", .fieldLink RX0 19 "TreapVersions$Store" "value" "[I", .fieldLink RX0 22 "TreapVersions$Store" "weight" "[I", .methodLink RX0 51 yX0_fresh, .instanceMethod yX0_fresh, .selects RX0 yX0_fresh yX0_fresh, .initialized RX0, .code yX0_fresh cX0_fresh 7 (some .int), .fieldLink RX0 34 "TreapVersions$Store" "taken" "[Z", .fieldLink RX0 44 "TreapVersions$Store" "usedPlaces" "I", .fieldLink RX0 25 "TreapVersions$Store" "left" "[I", .fieldLink RX0 28 "TreapVersions$Store" "right" "[I", .fieldLink RX0 31 "TreapVersions$Store" "count" "[I", .methodLink RX0 47 yX0_freePlace, .instanceMethod yX0_freePlace, .selects RX0 yX0_freePlace yX0_freePlace, .code yX0_freePlace cX0_freePlace 2 (some .int), .fieldLink RX0 9 "TreapVersions$Store" "room" "I"] ++ wsX00)
def wsX0_goesAbove : List Cond := .code yX0_goesAbove cX0_goesAbove 4 (some .boolean) :: ([.fieldLink RX0 22 "TreapVersions$Store" "weight" "[I", .fieldLink RX0 15 "TreapVersions$Store" "key" "[I"] ++ wsX00)
def wsX0_forgetReached : List Cond := .code yX0_forgetReached cX0_forgetReached 2 none :: ([.fieldLink RX0 9 "TreapVersions$Store" "room" "I", .fieldLink RX0 38 "TreapVersions$Store" "reached" "[Z"] ++ wsX00)
def wsX0_pend : List Cond := .code yX0_pend cX0_pend 3 (some .int) :: ([.fieldLink RX0 38 "TreapVersions$Store" "reached" "[Z", .fieldLink RX0 41 "TreapVersions$Store" "pending" "[I"] ++ wsX00)
def wsX0_reach : List Cond := .code yX0_reach cX0_reach 7 (some .int) :: ([.fieldLink RX0 9 "TreapVersions$Store" "room" "I", .fieldLink RX0 41 "TreapVersions$Store" "pending" "[I", .fieldLink RX0 25 "TreapVersions$Store" "left" "[I", .fieldLink RX0 28 "TreapVersions$Store" "right" "[I", .methodLink RX0 55 yX0_pend, .instanceMethod yX0_pend, .selects RX0 yX0_pend yX0_pend, .initialized RX0, .code yX0_pend cX0_pend 3 (some .int), .fieldLink RX0 38 "TreapVersions$Store" "reached" "[Z"] ++ wsX00)
def wsX0_keepReached : List Cond := .code yX0_keepReached cX0_keepReached 2 none :: ([.fieldLink RX0 44 "TreapVersions$Store" "usedPlaces" "I", .fieldLink RX0 9 "TreapVersions$Store" "room" "I", .fieldLink RX0 34 "TreapVersions$Store" "taken" "[Z", .fieldLink RX0 38 "TreapVersions$Store" "reached" "[Z"] ++ wsX00)
def wsX0_sumReached : List Cond := .code yX0_sumReached cX0_sumReached 6 (some .long) :: ([.fieldLink RX0 9 "TreapVersions$Store" "room" "I", .fieldLink RX0 38 "TreapVersions$Store" "reached" "[Z", .fieldLink RX0 15 "TreapVersions$Store" "key" "[I", .fieldLink RX0 19 "TreapVersions$Store" "value" "[I"] ++ wsX00)
def wsX0_nodeAt : List Cond := .code yX0_nodeAt cX0_nodeAt 6 (some .int) :: ([.fieldLink RX0 9 "TreapVersions$Store" "room" "I", .fieldLink RX0 31 "TreapVersions$Store" "count" "[I", .fieldLink RX0 25 "TreapVersions$Store" "left" "[I", .fieldLink RX0 28 "TreapVersions$Store" "right" "[I"] ++ wsX00)
def wsX0_floorNode : List Cond := .code yX0_floorNode cX0_floorNode 6 (some .int) :: ([.fieldLink RX0 9 "TreapVersions$Store" "room" "I", .fieldLink RX0 15 "TreapVersions$Store" "key" "[I", .fieldLink RX0 28 "TreapVersions$Store" "right" "[I", .fieldLink RX0 25 "TreapVersions$Store" "left" "[I"] ++ wsX00)
def wsX1_init : List Cond := .code yX1_init cX1_init 2 none :: ([.methodLink RX1 3 objectInit, .instanceMethod objectInit, .code objectInit ⟨#[0xb1]⟩ 1 none, .fieldLink RX1 9 "TreapVersions$Way" "store" "LTreapVersions$Store;", .fieldLink RX1 15 "TreapVersions$Store" "room" "I", .arrayClass .int, .fieldLink RX1 21 "TreapVersions$Way" "noted" "[I"] ++ wsX10 ++ wsX00)
def wsX1_noteTo : List Cond := .code yX1_noteTo cX1_noteTo 4 (some .int) :: ([.fieldLink RX1 25 "TreapVersions$Way" "length" "I", .fieldLink RX1 21 "TreapVersions$Way" "noted" "[I", .fieldLink RX1 9 "TreapVersions$Way" "store" "LTreapVersions$Store;", .fieldLink RX1 28 "TreapVersions$Store" "key" "[I", .fieldLink RX1 31 "TreapVersions$Store" "right" "[I", .fieldLink RX1 34 "TreapVersions$Store" "left" "[I"] ++ wsX10 ++ wsX00)
def wsX1_noteLesser : List Cond := .code yX1_noteLesser cX1_noteLesser 5 none :: ([.fieldLink RX1 25 "TreapVersions$Way" "length" "I", .fieldLink RX1 21 "TreapVersions$Way" "noted" "[I", .fieldLink RX1 9 "TreapVersions$Way" "store" "LTreapVersions$Store;", .fieldLink RX1 28 "TreapVersions$Store" "key" "[I", .fieldLink RX1 31 "TreapVersions$Store" "right" "[I", .fieldLink RX1 34 "TreapVersions$Store" "left" "[I"] ++ wsX10 ++ wsX00)
def wsX1_noteJoint : List Cond := .code yX1_noteJoint cX1_noteJoint 5 (some .int) :: ([.fieldLink RX1 25 "TreapVersions$Way" "length" "I", .fieldLink RX1 21 "TreapVersions$Way" "noted" "[I", .fieldLink RX1 9 "TreapVersions$Way" "store" "LTreapVersions$Store;", .fieldLink RX1 44 "TreapVersions$Store" "weight" "[I", .fieldLink RX1 28 "TreapVersions$Store" "key" "[I", .fieldLink RX1 31 "TreapVersions$Store" "right" "[I", .fieldLink RX1 34 "TreapVersions$Store" "left" "[I", .methodLink RX1 47 yX0_goesAbove, .instanceMethod yX0_goesAbove, .selects RX0 yX0_goesAbove yX0_goesAbove, .initialized RX0, .code yX0_goesAbove cX0_goesAbove 4 (some .boolean), .fieldLink RX0 22 "TreapVersions$Store" "weight" "[I", .fieldLink RX0 15 "TreapVersions$Store" "key" "[I"] ++ wsX10 ++ wsX00)
def wsX1_noteRemoval : List Cond := .code yX1_noteRemoval cX1_noteRemoval 4 (some .int) :: ([.fieldLink RX1 25 "TreapVersions$Way" "length" "I", .fieldLink RX1 9 "TreapVersions$Way" "store" "LTreapVersions$Store;", .fieldLink RX1 34 "TreapVersions$Store" "left" "[I", .fieldLink RX1 31 "TreapVersions$Store" "right" "[I", .methodLink RX1 37 yX1_noteTo, .instanceMethod yX1_noteTo, .selects RX1 yX1_noteTo yX1_noteTo, .initialized RX1, .code yX1_noteTo cX1_noteTo 4 (some .int), .fieldLink RX1 21 "TreapVersions$Way" "noted" "[I", .fieldLink RX1 28 "TreapVersions$Store" "key" "[I", .methodLink RX1 41 yX1_noteJoint, .instanceMethod yX1_noteJoint, .selects RX1 yX1_noteJoint yX1_noteJoint, .code yX1_noteJoint cX1_noteJoint 5 (some .int), .fieldLink RX1 44 "TreapVersions$Store" "weight" "[I", .methodLink RX1 47 yX0_goesAbove, .instanceMethod yX0_goesAbove, .selects RX0 yX0_goesAbove yX0_goesAbove, .initialized RX0, .code yX0_goesAbove cX0_goesAbove 4 (some .boolean), .fieldLink RX0 22 "TreapVersions$Store" "weight" "[I", .fieldLink RX0 15 "TreapVersions$Store" "key" "[I"] ++ wsX10 ++ wsX00)
def wsX1_placeNew_r1 : List Cond := [Cond.fieldLink RX1 25 "TreapVersions$Way" "length" "I", Cond.fieldLink RX1 9 "TreapVersions$Way" "store" "LTreapVersions$Store;", Cond.fieldLink RX1 21 "TreapVersions$Way" "noted" "[I", Cond.fieldLink RX1 28 "TreapVersions$Store" "key" "[I", Cond.fieldLink RX1 34 "TreapVersions$Store" "left" "[I", Cond.fieldLink RX1 31 "TreapVersions$Store" "right" "[I", Cond.methodLink RX1 47 yX0_goesAbove, Cond.instanceMethod yX0_goesAbove, Cond.selects RX0 yX0_goesAbove yX0_goesAbove, Cond.initialized RX0, Cond.code yX0_goesAbove cX0_goesAbove 4 (some .boolean), Cond.fieldLink RX0 22 "TreapVersions$Store" "weight" "[I", Cond.fieldLink RX0 15 "TreapVersions$Store" "key" "[I", Cond.methodLink RX1 51 yX0_copy, Cond.instanceMethod yX0_copy, Cond.selects RX0 yX0_copy yX0_copy, Cond.code yX0_copy cX0_copy 4 (some .int), Cond.fieldLink RX0 19 "TreapVersions$Store" "value" "[I", Cond.methodLink RX0 51 yX0_fresh, Cond.instanceMethod yX0_fresh, Cond.selects RX0 yX0_fresh yX0_fresh, Cond.code yX0_fresh cX0_fresh 7 (some .int), Cond.fieldLink RX0 34 "TreapVersions$Store" "taken" "[Z", Cond.fieldLink RX0 44 "TreapVersions$Store" "usedPlaces" "I"]
def wsX1_placeNew_r2 : List Cond := [Cond.fieldLink RX0 25 "TreapVersions$Store" "left" "[I", Cond.fieldLink RX0 28 "TreapVersions$Store" "right" "[I", Cond.fieldLink RX0 31 "TreapVersions$Store" "count" "[I", Cond.methodLink RX0 47 yX0_freePlace, Cond.instanceMethod yX0_freePlace, Cond.selects RX0 yX0_freePlace yX0_freePlace, Cond.code yX0_freePlace cX0_freePlace 2 (some .int), Cond.fieldLink RX0 9 "TreapVersions$Store" "room" "I", Cond.methodLink RX1 55 yX0_fresh]
def wsX1_placeNew : List Cond := .code yX1_placeNew cX1_placeNew 7 (some .int) :: ((wsX1_placeNew_r1 ++ wsX1_placeNew_r2) ++ wsX10 ++ wsX00)
def wsX1_copyOver_r1 : List Cond := [Cond.fieldLink RX1 25 "TreapVersions$Way" "length" "I", Cond.fieldLink RX1 21 "TreapVersions$Way" "noted" "[I", Cond.fieldLink RX1 9 "TreapVersions$Way" "store" "LTreapVersions$Store;", Cond.fieldLink RX1 28 "TreapVersions$Store" "key" "[I", Cond.fieldLink RX1 34 "TreapVersions$Store" "left" "[I", Cond.fieldLink RX1 31 "TreapVersions$Store" "right" "[I", Cond.methodLink RX1 51 yX0_copy, Cond.instanceMethod yX0_copy, Cond.selects RX0 yX0_copy yX0_copy, Cond.initialized RX0, Cond.code yX0_copy cX0_copy 4 (some .int), Cond.fieldLink RX0 15 "TreapVersions$Store" "key" "[I", Cond.fieldLink RX0 19 "TreapVersions$Store" "value" "[I", Cond.fieldLink RX0 22 "TreapVersions$Store" "weight" "[I", Cond.methodLink RX0 51 yX0_fresh, Cond.instanceMethod yX0_fresh, Cond.selects RX0 yX0_fresh yX0_fresh, Cond.code yX0_fresh cX0_fresh 7 (some .int), Cond.fieldLink RX0 34 "TreapVersions$Store" "taken" "[Z", Cond.fieldLink RX0 44 "TreapVersions$Store" "usedPlaces" "I", Cond.fieldLink RX0 25 "TreapVersions$Store" "left" "[I", Cond.fieldLink RX0 28 "TreapVersions$Store" "right" "[I", Cond.fieldLink RX0 31 "TreapVersions$Store" "count" "[I", Cond.methodLink RX0 47 yX0_freePlace]
def wsX1_copyOver_r2 : List Cond := [Cond.instanceMethod yX0_freePlace, Cond.selects RX0 yX0_freePlace yX0_freePlace, Cond.code yX0_freePlace cX0_freePlace 2 (some .int), Cond.fieldLink RX0 9 "TreapVersions$Store" "room" "I"]
def wsX1_copyOver : List Cond := .code yX1_copyOver cX1_copyOver 5 (some .int) :: ((wsX1_copyOver_r1 ++ wsX1_copyOver_r2) ++ wsX10 ++ wsX00)
def wsX2_init_r1 : List Cond := [Cond.methodLink RX2 1 objectInit, Cond.instanceMethod objectInit, Cond.code objectInit ⟨#[0xb1]⟩ 1 none, Cond.classLink RX2 9 RX0, Cond.instantiable RX0 11, Cond.initialized RX0, Cond.fieldLink RX2 14 "TreapVersions" "store" "LTreapVersions$Store;", Cond.classLink RX2 18 RX1, Cond.instantiable RX1 3, Cond.initialized RX1, Cond.fieldLink RX2 23 "TreapVersions" "way" "LTreapVersions$Way;", Cond.arrayClass .boolean, Cond.fieldLink RX2 27 "TreapVersions" "live" "[Z", Cond.arrayClass .int, Cond.fieldLink RX2 31 "TreapVersions" "roots" "[I", Cond.fieldLink RX2 35 "TreapVersions" "seed" "I", Cond.methodLink RX2 11 yX0_init, Cond.instanceMethod yX0_init, Cond.code yX0_init cX0_init 2 none, Cond.methodLink RX0 3 objectInit, Cond.fieldLink RX0 9 "TreapVersions$Store" "room" "I", Cond.fieldLink RX0 15 "TreapVersions$Store" "key" "[I", Cond.fieldLink RX0 19 "TreapVersions$Store" "value" "[I", Cond.fieldLink RX0 22 "TreapVersions$Store" "weight" "[I"]
def wsX2_init_r2 : List Cond := [Cond.fieldLink RX0 25 "TreapVersions$Store" "left" "[I", Cond.fieldLink RX0 28 "TreapVersions$Store" "right" "[I", Cond.fieldLink RX0 31 "TreapVersions$Store" "count" "[I", Cond.fieldLink RX0 34 "TreapVersions$Store" "taken" "[Z", Cond.fieldLink RX0 38 "TreapVersions$Store" "reached" "[Z", Cond.fieldLink RX0 41 "TreapVersions$Store" "pending" "[I", Cond.methodLink RX2 20 yX1_init, Cond.instanceMethod yX1_init, Cond.code yX1_init cX1_init 2 none, Cond.methodLink RX1 3 objectInit, Cond.fieldLink RX1 9 "TreapVersions$Way" "store" "LTreapVersions$Store;", Cond.fieldLink RX1 15 "TreapVersions$Store" "room" "I", Cond.fieldLink RX1 21 "TreapVersions$Way" "noted" "[I"]
def wsX2_init : List Cond := .code yX2_init cX2_init 7 none :: ((wsX2_init_r1 ++ wsX2_init_r2) ++ wsX00 ++ wsX20 ++ wsX10)
def wsX2_isLive : List Cond := .code yX2_isLive cX2_isLive 2 (some .boolean) :: ([.fieldLink RX2 27 "TreapVersions" "live" "[Z"] ++ wsX20)
def wsX2_reachLive : List Cond := .code yX2_reachLive cX2_reachLive 3 (some .int) :: ([.fieldLink RX2 14 "TreapVersions" "store" "LTreapVersions$Store;", .fieldLink RX2 27 "TreapVersions" "live" "[Z", .fieldLink RX2 31 "TreapVersions" "roots" "[I", .methodLink RX2 115 yX0_forgetReached, .instanceMethod yX0_forgetReached, .selects RX0 yX0_forgetReached yX0_forgetReached, .initialized RX0, .code yX0_forgetReached cX0_forgetReached 2 none, .fieldLink RX0 9 "TreapVersions$Store" "room" "I", .fieldLink RX0 38 "TreapVersions$Store" "reached" "[Z", .methodLink RX2 118 yX0_reach, .instanceMethod yX0_reach, .selects RX0 yX0_reach yX0_reach, .code yX0_reach cX0_reach 7 (some .int), .fieldLink RX0 41 "TreapVersions$Store" "pending" "[I", .fieldLink RX0 25 "TreapVersions$Store" "left" "[I", .fieldLink RX0 28 "TreapVersions$Store" "right" "[I", .methodLink RX0 55 yX0_pend, .instanceMethod yX0_pend, .selects RX0 yX0_pend yX0_pend, .code yX0_pend cX0_pend 3 (some .int)] ++ wsX20 ++ wsX00)
def wsX2_makeRoom_r1 : List Cond := [Cond.fieldLink RX2 14 "TreapVersions" "store" "LTreapVersions$Store;", Cond.fieldLink RX2 131 "TreapVersions" "sweepCount" "I", Cond.methodLink RX2 137 yX0_hasRoom, Cond.instanceMethod yX0_hasRoom, Cond.selects RX0 yX0_hasRoom yX0_hasRoom, Cond.initialized RX0, Cond.code yX0_hasRoom cX0_hasRoom 2 (some .boolean), Cond.fieldLink RX0 44 "TreapVersions$Store" "usedPlaces" "I", Cond.fieldLink RX0 9 "TreapVersions$Store" "room" "I", Cond.methodLink RX2 125 yX2_reachLive, Cond.instanceMethod yX2_reachLive, Cond.selects RX2 yX2_reachLive yX2_reachLive, Cond.initialized RX2, Cond.code yX2_reachLive cX2_reachLive 3 (some .int), Cond.fieldLink RX2 27 "TreapVersions" "live" "[Z", Cond.fieldLink RX2 31 "TreapVersions" "roots" "[I", Cond.methodLink RX2 115 yX0_forgetReached, Cond.instanceMethod yX0_forgetReached, Cond.selects RX0 yX0_forgetReached yX0_forgetReached, Cond.code yX0_forgetReached cX0_forgetReached 2 none, Cond.fieldLink RX0 38 "TreapVersions$Store" "reached" "[Z", Cond.methodLink RX2 118 yX0_reach, Cond.instanceMethod yX0_reach, Cond.selects RX0 yX0_reach yX0_reach]
def wsX2_makeRoom_r2 : List Cond := [Cond.code yX0_reach cX0_reach 7 (some .int), Cond.fieldLink RX0 41 "TreapVersions$Store" "pending" "[I", Cond.fieldLink RX0 25 "TreapVersions$Store" "left" "[I", Cond.fieldLink RX0 28 "TreapVersions$Store" "right" "[I", Cond.methodLink RX0 55 yX0_pend, Cond.instanceMethod yX0_pend, Cond.selects RX0 yX0_pend yX0_pend, Cond.code yX0_pend cX0_pend 3 (some .int), Cond.methodLink RX2 140 yX0_keepReached, Cond.instanceMethod yX0_keepReached, Cond.selects RX0 yX0_keepReached yX0_keepReached, Cond.code yX0_keepReached cX0_keepReached 2 none, Cond.fieldLink RX0 34 "TreapVersions$Store" "taken" "[Z"]
def wsX2_makeRoom : List Cond := .code yX2_makeRoom cX2_makeRoom 2 (some .boolean) :: ((wsX2_makeRoom_r1 ++ wsX2_makeRoom_r2) ++ wsX20 ++ wsX00)
def wsX2_handleFor_r1 : List Cond := [Cond.fieldLink RX2 27 "TreapVersions" "live" "[Z", Cond.methodLink RX2 134 yX2_makeRoom, Cond.instanceMethod yX2_makeRoom, Cond.selects RX2 yX2_makeRoom yX2_makeRoom, Cond.initialized RX2, Cond.code yX2_makeRoom cX2_makeRoom 2 (some .boolean), Cond.fieldLink RX2 14 "TreapVersions" "store" "LTreapVersions$Store;", Cond.fieldLink RX2 131 "TreapVersions" "sweepCount" "I", Cond.methodLink RX2 137 yX0_hasRoom, Cond.instanceMethod yX0_hasRoom, Cond.selects RX0 yX0_hasRoom yX0_hasRoom, Cond.initialized RX0, Cond.code yX0_hasRoom cX0_hasRoom 2 (some .boolean), Cond.fieldLink RX0 44 "TreapVersions$Store" "usedPlaces" "I", Cond.fieldLink RX0 9 "TreapVersions$Store" "room" "I", Cond.methodLink RX2 125 yX2_reachLive, Cond.instanceMethod yX2_reachLive, Cond.selects RX2 yX2_reachLive yX2_reachLive, Cond.code yX2_reachLive cX2_reachLive 3 (some .int), Cond.fieldLink RX2 31 "TreapVersions" "roots" "[I", Cond.methodLink RX2 115 yX0_forgetReached, Cond.instanceMethod yX0_forgetReached, Cond.selects RX0 yX0_forgetReached yX0_forgetReached, Cond.code yX0_forgetReached cX0_forgetReached 2 none]
def wsX2_handleFor_r2 : List Cond := [Cond.fieldLink RX0 38 "TreapVersions$Store" "reached" "[Z", Cond.methodLink RX2 118 yX0_reach, Cond.instanceMethod yX0_reach, Cond.selects RX0 yX0_reach yX0_reach, Cond.code yX0_reach cX0_reach 7 (some .int), Cond.fieldLink RX0 41 "TreapVersions$Store" "pending" "[I", Cond.fieldLink RX0 25 "TreapVersions$Store" "left" "[I", Cond.fieldLink RX0 28 "TreapVersions$Store" "right" "[I", Cond.methodLink RX0 55 yX0_pend, Cond.instanceMethod yX0_pend, Cond.selects RX0 yX0_pend yX0_pend, Cond.code yX0_pend cX0_pend 3 (some .int), Cond.methodLink RX2 140 yX0_keepReached, Cond.instanceMethod yX0_keepReached, Cond.selects RX0 yX0_keepReached yX0_keepReached, Cond.code yX0_keepReached cX0_keepReached 2 none, Cond.fieldLink RX0 34 "TreapVersions$Store" "taken" "[Z"]
def wsX2_handleFor : List Cond := .code yX2_handleFor cX2_handleFor 3 (some .int) :: ((wsX2_handleFor_r1 ++ wsX2_handleFor_r2) ++ wsX20 ++ wsX00)
def wsX2_drawWeight : List Cond := .code yX2_drawWeight cX2_drawWeight 1 (some .int) :: ([.fieldLink RX2 35 "TreapVersions" "seed" "I", .constant RX2 143 (1103515245)] ++ wsX20)
def wsX2_open : List Cond := .code yX2_open cX2_open 3 (some .int) :: ([.fieldLink RX2 27 "TreapVersions" "live" "[Z", .fieldLink RX2 31 "TreapVersions" "roots" "[I"] ++ wsX20)
def wsX2_put_r1 : List Cond := [Cond.fieldLink RX2 23 "TreapVersions" "way" "LTreapVersions$Way;", Cond.fieldLink RX2 31 "TreapVersions" "roots" "[I", Cond.fieldLink RX2 47 "TreapVersions$Way" "length" "I", Cond.fieldLink RX2 14 "TreapVersions" "store" "LTreapVersions$Store;", Cond.fieldLink RX2 62 "TreapVersions$Store" "weight" "[I", Cond.fieldLink RX2 65 "TreapVersions$Store" "left" "[I", Cond.fieldLink RX2 68 "TreapVersions$Store" "right" "[I", Cond.methodLink RX2 39 yX2_isLive, Cond.instanceMethod yX2_isLive, Cond.selects RX2 yX2_isLive yX2_isLive, Cond.initialized RX2, Cond.code yX2_isLive cX2_isLive 2 (some .boolean), Cond.fieldLink RX2 27 "TreapVersions" "live" "[Z", Cond.methodLink RX2 43 yX1_noteTo, Cond.instanceMethod yX1_noteTo, Cond.selects RX1 yX1_noteTo yX1_noteTo, Cond.initialized RX1, Cond.code yX1_noteTo cX1_noteTo 4 (some .int), Cond.fieldLink RX1 25 "TreapVersions$Way" "length" "I", Cond.fieldLink RX1 21 "TreapVersions$Way" "noted" "[I", Cond.fieldLink RX1 9 "TreapVersions$Way" "store" "LTreapVersions$Store;", Cond.fieldLink RX1 28 "TreapVersions$Store" "key" "[I", Cond.fieldLink RX1 31 "TreapVersions$Store" "right" "[I", Cond.fieldLink RX1 34 "TreapVersions$Store" "left" "[I"]
def wsX2_put_r2 : List Cond := [Cond.methodLink RX2 50 yX2_handleFor, Cond.instanceMethod yX2_handleFor, Cond.selects RX2 yX2_handleFor yX2_handleFor, Cond.code yX2_handleFor cX2_handleFor 3 (some .int), Cond.methodLink RX2 134 yX2_makeRoom, Cond.instanceMethod yX2_makeRoom, Cond.selects RX2 yX2_makeRoom yX2_makeRoom, Cond.code yX2_makeRoom cX2_makeRoom 2 (some .boolean), Cond.fieldLink RX2 131 "TreapVersions" "sweepCount" "I", Cond.methodLink RX2 137 yX0_hasRoom, Cond.instanceMethod yX0_hasRoom, Cond.selects RX0 yX0_hasRoom yX0_hasRoom, Cond.initialized RX0, Cond.code yX0_hasRoom cX0_hasRoom 2 (some .boolean), Cond.fieldLink RX0 44 "TreapVersions$Store" "usedPlaces" "I", Cond.fieldLink RX0 9 "TreapVersions$Store" "room" "I", Cond.methodLink RX2 125 yX2_reachLive, Cond.instanceMethod yX2_reachLive, Cond.selects RX2 yX2_reachLive yX2_reachLive, Cond.code yX2_reachLive cX2_reachLive 3 (some .int), Cond.methodLink RX2 115 yX0_forgetReached, Cond.instanceMethod yX0_forgetReached, Cond.selects RX0 yX0_forgetReached yX0_forgetReached, Cond.code yX0_forgetReached cX0_forgetReached 2 none]
def wsX2_put_r3 : List Cond := [Cond.fieldLink RX0 38 "TreapVersions$Store" "reached" "[Z", Cond.methodLink RX2 118 yX0_reach, Cond.instanceMethod yX0_reach, Cond.selects RX0 yX0_reach yX0_reach, Cond.code yX0_reach cX0_reach 7 (some .int), Cond.fieldLink RX0 41 "TreapVersions$Store" "pending" "[I", Cond.fieldLink RX0 25 "TreapVersions$Store" "left" "[I", Cond.fieldLink RX0 28 "TreapVersions$Store" "right" "[I", Cond.methodLink RX0 55 yX0_pend, Cond.instanceMethod yX0_pend, Cond.selects RX0 yX0_pend yX0_pend, Cond.code yX0_pend cX0_pend 3 (some .int), Cond.methodLink RX2 140 yX0_keepReached, Cond.instanceMethod yX0_keepReached, Cond.selects RX0 yX0_keepReached yX0_keepReached, Cond.code yX0_keepReached cX0_keepReached 2 none, Cond.fieldLink RX0 34 "TreapVersions$Store" "taken" "[Z", Cond.methodLink RX2 54 yX2_drawWeight, Cond.instanceMethod yX2_drawWeight, Cond.selects RX2 yX2_drawWeight yX2_drawWeight, Cond.code yX2_drawWeight cX2_drawWeight 1 (some .int), Cond.fieldLink RX2 35 "TreapVersions" "seed" "I", Cond.constant RX2 143 (1103515245), Cond.methodLink RX2 58 yX1_placeNew]
def wsX2_put_r4 : List Cond := [Cond.instanceMethod yX1_placeNew, Cond.selects RX1 yX1_placeNew yX1_placeNew, Cond.code yX1_placeNew cX1_placeNew 7 (some .int), Cond.methodLink RX1 47 yX0_goesAbove, Cond.instanceMethod yX0_goesAbove, Cond.selects RX0 yX0_goesAbove yX0_goesAbove, Cond.code yX0_goesAbove cX0_goesAbove 4 (some .boolean), Cond.fieldLink RX0 22 "TreapVersions$Store" "weight" "[I", Cond.fieldLink RX0 15 "TreapVersions$Store" "key" "[I", Cond.methodLink RX1 51 yX0_copy, Cond.instanceMethod yX0_copy, Cond.selects RX0 yX0_copy yX0_copy, Cond.code yX0_copy cX0_copy 4 (some .int), Cond.fieldLink RX0 19 "TreapVersions$Store" "value" "[I", Cond.methodLink RX0 51 yX0_fresh, Cond.instanceMethod yX0_fresh, Cond.selects RX0 yX0_fresh yX0_fresh, Cond.code yX0_fresh cX0_fresh 7 (some .int), Cond.fieldLink RX0 31 "TreapVersions$Store" "count" "[I", Cond.methodLink RX0 47 yX0_freePlace, Cond.instanceMethod yX0_freePlace, Cond.selects RX0 yX0_freePlace yX0_freePlace, Cond.code yX0_freePlace cX0_freePlace 2 (some .int), Cond.methodLink RX1 55 yX0_fresh]
def wsX2_put_r5 : List Cond := [Cond.methodLink RX2 71 yX0_fresh, Cond.methodLink RX2 75 yX1_copyOver, Cond.instanceMethod yX1_copyOver, Cond.selects RX1 yX1_copyOver yX1_copyOver, Cond.code yX1_copyOver cX1_copyOver 5 (some .int), Cond.methodLink RX2 78 yX2_open, Cond.instanceMethod yX2_open, Cond.selects RX2 yX2_open yX2_open, Cond.code yX2_open cX2_open 3 (some .int)]
def wsX2_put : List Cond := .code yX2_put cX2_put 7 (some .int) :: ((wsX2_put_r1 ++ (wsX2_put_r2 ++ (wsX2_put_r3 ++ (wsX2_put_r4 ++ wsX2_put_r5)))) ++ wsX20 ++ wsX10 ++ wsX00)
def wsX2_remove_r1 : List Cond := [Cond.fieldLink RX2 23 "TreapVersions" "way" "LTreapVersions$Way;", Cond.fieldLink RX2 31 "TreapVersions" "roots" "[I", Cond.fieldLink RX2 47 "TreapVersions$Way" "length" "I", Cond.methodLink RX2 39 yX2_isLive, Cond.instanceMethod yX2_isLive, Cond.selects RX2 yX2_isLive yX2_isLive, Cond.initialized RX2, Cond.code yX2_isLive cX2_isLive 2 (some .boolean), Cond.fieldLink RX2 27 "TreapVersions" "live" "[Z", Cond.methodLink RX2 81 yX1_noteRemoval, Cond.instanceMethod yX1_noteRemoval, Cond.selects RX1 yX1_noteRemoval yX1_noteRemoval, Cond.initialized RX1, Cond.code yX1_noteRemoval cX1_noteRemoval 4 (some .int), Cond.fieldLink RX1 25 "TreapVersions$Way" "length" "I", Cond.fieldLink RX1 9 "TreapVersions$Way" "store" "LTreapVersions$Store;", Cond.fieldLink RX1 34 "TreapVersions$Store" "left" "[I", Cond.fieldLink RX1 31 "TreapVersions$Store" "right" "[I", Cond.methodLink RX1 37 yX1_noteTo, Cond.instanceMethod yX1_noteTo, Cond.selects RX1 yX1_noteTo yX1_noteTo, Cond.code yX1_noteTo cX1_noteTo 4 (some .int), Cond.fieldLink RX1 21 "TreapVersions$Way" "noted" "[I", Cond.fieldLink RX1 28 "TreapVersions$Store" "key" "[I"]
def wsX2_remove_r2 : List Cond := [Cond.methodLink RX1 41 yX1_noteJoint, Cond.instanceMethod yX1_noteJoint, Cond.selects RX1 yX1_noteJoint yX1_noteJoint, Cond.code yX1_noteJoint cX1_noteJoint 5 (some .int), Cond.fieldLink RX1 44 "TreapVersions$Store" "weight" "[I", Cond.methodLink RX1 47 yX0_goesAbove, Cond.instanceMethod yX0_goesAbove, Cond.selects RX0 yX0_goesAbove yX0_goesAbove, Cond.initialized RX0, Cond.code yX0_goesAbove cX0_goesAbove 4 (some .boolean), Cond.fieldLink RX0 22 "TreapVersions$Store" "weight" "[I", Cond.fieldLink RX0 15 "TreapVersions$Store" "key" "[I", Cond.methodLink RX2 50 yX2_handleFor, Cond.instanceMethod yX2_handleFor, Cond.selects RX2 yX2_handleFor yX2_handleFor, Cond.code yX2_handleFor cX2_handleFor 3 (some .int), Cond.methodLink RX2 134 yX2_makeRoom, Cond.instanceMethod yX2_makeRoom, Cond.selects RX2 yX2_makeRoom yX2_makeRoom, Cond.code yX2_makeRoom cX2_makeRoom 2 (some .boolean), Cond.fieldLink RX2 14 "TreapVersions" "store" "LTreapVersions$Store;", Cond.fieldLink RX2 131 "TreapVersions" "sweepCount" "I", Cond.methodLink RX2 137 yX0_hasRoom, Cond.instanceMethod yX0_hasRoom]
def wsX2_remove_r3 : List Cond := [Cond.selects RX0 yX0_hasRoom yX0_hasRoom, Cond.code yX0_hasRoom cX0_hasRoom 2 (some .boolean), Cond.fieldLink RX0 44 "TreapVersions$Store" "usedPlaces" "I", Cond.fieldLink RX0 9 "TreapVersions$Store" "room" "I", Cond.methodLink RX2 125 yX2_reachLive, Cond.instanceMethod yX2_reachLive, Cond.selects RX2 yX2_reachLive yX2_reachLive, Cond.code yX2_reachLive cX2_reachLive 3 (some .int), Cond.methodLink RX2 115 yX0_forgetReached, Cond.instanceMethod yX0_forgetReached, Cond.selects RX0 yX0_forgetReached yX0_forgetReached, Cond.code yX0_forgetReached cX0_forgetReached 2 none, Cond.fieldLink RX0 38 "TreapVersions$Store" "reached" "[Z", Cond.methodLink RX2 118 yX0_reach, Cond.instanceMethod yX0_reach, Cond.selects RX0 yX0_reach yX0_reach, Cond.code yX0_reach cX0_reach 7 (some .int), Cond.fieldLink RX0 41 "TreapVersions$Store" "pending" "[I", Cond.fieldLink RX0 25 "TreapVersions$Store" "left" "[I", Cond.fieldLink RX0 28 "TreapVersions$Store" "right" "[I", Cond.methodLink RX0 55 yX0_pend, Cond.instanceMethod yX0_pend, Cond.selects RX0 yX0_pend yX0_pend, Cond.code yX0_pend cX0_pend 3 (some .int)]
def wsX2_remove_r4 : List Cond := [Cond.methodLink RX2 140 yX0_keepReached, Cond.instanceMethod yX0_keepReached, Cond.selects RX0 yX0_keepReached yX0_keepReached, Cond.code yX0_keepReached cX0_keepReached 2 none, Cond.fieldLink RX0 34 "TreapVersions$Store" "taken" "[Z", Cond.methodLink RX2 75 yX1_copyOver, Cond.instanceMethod yX1_copyOver, Cond.selects RX1 yX1_copyOver yX1_copyOver, Cond.code yX1_copyOver cX1_copyOver 5 (some .int), Cond.methodLink RX1 51 yX0_copy, Cond.instanceMethod yX0_copy, Cond.selects RX0 yX0_copy yX0_copy, Cond.code yX0_copy cX0_copy 4 (some .int), Cond.fieldLink RX0 19 "TreapVersions$Store" "value" "[I", Cond.methodLink RX0 51 yX0_fresh, Cond.instanceMethod yX0_fresh, Cond.selects RX0 yX0_fresh yX0_fresh, Cond.code yX0_fresh cX0_fresh 7 (some .int), Cond.fieldLink RX0 31 "TreapVersions$Store" "count" "[I", Cond.methodLink RX0 47 yX0_freePlace, Cond.instanceMethod yX0_freePlace, Cond.selects RX0 yX0_freePlace yX0_freePlace, Cond.code yX0_freePlace cX0_freePlace 2 (some .int), Cond.methodLink RX2 78 yX2_open]
def wsX2_remove_r5 : List Cond := [Cond.instanceMethod yX2_open, Cond.selects RX2 yX2_open yX2_open, Cond.code yX2_open cX2_open 3 (some .int)]
def wsX2_remove : List Cond := .code yX2_remove cX2_remove 5 (some .int) :: ((wsX2_remove_r1 ++ (wsX2_remove_r2 ++ (wsX2_remove_r3 ++ (wsX2_remove_r4 ++ wsX2_remove_r5)))) ++ wsX20 ++ wsX10 ++ wsX00)
def wsX2_below_r1 : List Cond := [Cond.fieldLink RX2 23 "TreapVersions" "way" "LTreapVersions$Way;", Cond.fieldLink RX2 31 "TreapVersions" "roots" "[I", Cond.fieldLink RX2 47 "TreapVersions$Way" "length" "I", Cond.methodLink RX2 39 yX2_isLive, Cond.instanceMethod yX2_isLive, Cond.selects RX2 yX2_isLive yX2_isLive, Cond.initialized RX2, Cond.code yX2_isLive cX2_isLive 2 (some .boolean), Cond.fieldLink RX2 27 "TreapVersions" "live" "[Z", Cond.methodLink RX2 84 yX1_noteLesser, Cond.instanceMethod yX1_noteLesser, Cond.selects RX1 yX1_noteLesser yX1_noteLesser, Cond.initialized RX1, Cond.code yX1_noteLesser cX1_noteLesser 5 none, Cond.fieldLink RX1 25 "TreapVersions$Way" "length" "I", Cond.fieldLink RX1 21 "TreapVersions$Way" "noted" "[I", Cond.fieldLink RX1 9 "TreapVersions$Way" "store" "LTreapVersions$Store;", Cond.fieldLink RX1 28 "TreapVersions$Store" "key" "[I", Cond.fieldLink RX1 31 "TreapVersions$Store" "right" "[I", Cond.fieldLink RX1 34 "TreapVersions$Store" "left" "[I", Cond.methodLink RX2 50 yX2_handleFor, Cond.instanceMethod yX2_handleFor, Cond.selects RX2 yX2_handleFor yX2_handleFor, Cond.code yX2_handleFor cX2_handleFor 3 (some .int)]
def wsX2_below_r2 : List Cond := [Cond.methodLink RX2 134 yX2_makeRoom, Cond.instanceMethod yX2_makeRoom, Cond.selects RX2 yX2_makeRoom yX2_makeRoom, Cond.code yX2_makeRoom cX2_makeRoom 2 (some .boolean), Cond.fieldLink RX2 14 "TreapVersions" "store" "LTreapVersions$Store;", Cond.fieldLink RX2 131 "TreapVersions" "sweepCount" "I", Cond.methodLink RX2 137 yX0_hasRoom, Cond.instanceMethod yX0_hasRoom, Cond.selects RX0 yX0_hasRoom yX0_hasRoom, Cond.initialized RX0, Cond.code yX0_hasRoom cX0_hasRoom 2 (some .boolean), Cond.fieldLink RX0 44 "TreapVersions$Store" "usedPlaces" "I", Cond.fieldLink RX0 9 "TreapVersions$Store" "room" "I", Cond.methodLink RX2 125 yX2_reachLive, Cond.instanceMethod yX2_reachLive, Cond.selects RX2 yX2_reachLive yX2_reachLive, Cond.code yX2_reachLive cX2_reachLive 3 (some .int), Cond.methodLink RX2 115 yX0_forgetReached, Cond.instanceMethod yX0_forgetReached, Cond.selects RX0 yX0_forgetReached yX0_forgetReached, Cond.code yX0_forgetReached cX0_forgetReached 2 none, Cond.fieldLink RX0 38 "TreapVersions$Store" "reached" "[Z", Cond.methodLink RX2 118 yX0_reach, Cond.instanceMethod yX0_reach]
def wsX2_below_r3 : List Cond := [Cond.selects RX0 yX0_reach yX0_reach, Cond.code yX0_reach cX0_reach 7 (some .int), Cond.fieldLink RX0 41 "TreapVersions$Store" "pending" "[I", Cond.fieldLink RX0 25 "TreapVersions$Store" "left" "[I", Cond.fieldLink RX0 28 "TreapVersions$Store" "right" "[I", Cond.methodLink RX0 55 yX0_pend, Cond.instanceMethod yX0_pend, Cond.selects RX0 yX0_pend yX0_pend, Cond.code yX0_pend cX0_pend 3 (some .int), Cond.methodLink RX2 140 yX0_keepReached, Cond.instanceMethod yX0_keepReached, Cond.selects RX0 yX0_keepReached yX0_keepReached, Cond.code yX0_keepReached cX0_keepReached 2 none, Cond.fieldLink RX0 34 "TreapVersions$Store" "taken" "[Z", Cond.methodLink RX2 75 yX1_copyOver, Cond.instanceMethod yX1_copyOver, Cond.selects RX1 yX1_copyOver yX1_copyOver, Cond.code yX1_copyOver cX1_copyOver 5 (some .int), Cond.methodLink RX1 51 yX0_copy, Cond.instanceMethod yX0_copy, Cond.selects RX0 yX0_copy yX0_copy, Cond.code yX0_copy cX0_copy 4 (some .int), Cond.fieldLink RX0 15 "TreapVersions$Store" "key" "[I", Cond.fieldLink RX0 19 "TreapVersions$Store" "value" "[I"]
def wsX2_below_r4 : List Cond := [Cond.fieldLink RX0 22 "TreapVersions$Store" "weight" "[I", Cond.methodLink RX0 51 yX0_fresh, Cond.instanceMethod yX0_fresh, Cond.selects RX0 yX0_fresh yX0_fresh, Cond.code yX0_fresh cX0_fresh 7 (some .int), Cond.fieldLink RX0 31 "TreapVersions$Store" "count" "[I", Cond.methodLink RX0 47 yX0_freePlace, Cond.instanceMethod yX0_freePlace, Cond.selects RX0 yX0_freePlace yX0_freePlace, Cond.code yX0_freePlace cX0_freePlace 2 (some .int), Cond.methodLink RX2 78 yX2_open, Cond.instanceMethod yX2_open, Cond.selects RX2 yX2_open yX2_open, Cond.code yX2_open cX2_open 3 (some .int)]
def wsX2_below : List Cond := .code yX2_below cX2_below 4 (some .int) :: ((wsX2_below_r1 ++ (wsX2_below_r2 ++ (wsX2_below_r3 ++ wsX2_below_r4))) ++ wsX20 ++ wsX10 ++ wsX00)
def wsX2_join_r1 : List Cond := [Cond.fieldLink RX2 31 "TreapVersions" "roots" "[I", Cond.fieldLink RX2 14 "TreapVersions" "store" "LTreapVersions$Store;", Cond.fieldLink RX2 88 "TreapVersions$Store" "count" "[I", Cond.fieldLink RX2 94 "TreapVersions$Store" "key" "[I", Cond.fieldLink RX2 23 "TreapVersions" "way" "LTreapVersions$Way;", Cond.fieldLink RX2 47 "TreapVersions$Way" "length" "I", Cond.methodLink RX2 39 yX2_isLive, Cond.instanceMethod yX2_isLive, Cond.selects RX2 yX2_isLive yX2_isLive, Cond.initialized RX2, Cond.code yX2_isLive cX2_isLive 2 (some .boolean), Cond.fieldLink RX2 27 "TreapVersions" "live" "[Z", Cond.methodLink RX2 91 yX0_nodeAt, Cond.instanceMethod yX0_nodeAt, Cond.selects RX0 yX0_nodeAt yX0_nodeAt, Cond.initialized RX0, Cond.code yX0_nodeAt cX0_nodeAt 6 (some .int), Cond.fieldLink RX0 9 "TreapVersions$Store" "room" "I", Cond.fieldLink RX0 31 "TreapVersions$Store" "count" "[I", Cond.fieldLink RX0 25 "TreapVersions$Store" "left" "[I", Cond.fieldLink RX0 28 "TreapVersions$Store" "right" "[I", Cond.methodLink RX2 97 yX1_noteJoint, Cond.instanceMethod yX1_noteJoint, Cond.selects RX1 yX1_noteJoint yX1_noteJoint]
def wsX2_join_r2 : List Cond := [Cond.initialized RX1, Cond.code yX1_noteJoint cX1_noteJoint 5 (some .int), Cond.fieldLink RX1 25 "TreapVersions$Way" "length" "I", Cond.fieldLink RX1 21 "TreapVersions$Way" "noted" "[I", Cond.fieldLink RX1 9 "TreapVersions$Way" "store" "LTreapVersions$Store;", Cond.fieldLink RX1 44 "TreapVersions$Store" "weight" "[I", Cond.fieldLink RX1 28 "TreapVersions$Store" "key" "[I", Cond.fieldLink RX1 31 "TreapVersions$Store" "right" "[I", Cond.fieldLink RX1 34 "TreapVersions$Store" "left" "[I", Cond.methodLink RX1 47 yX0_goesAbove, Cond.instanceMethod yX0_goesAbove, Cond.selects RX0 yX0_goesAbove yX0_goesAbove, Cond.code yX0_goesAbove cX0_goesAbove 4 (some .boolean), Cond.fieldLink RX0 22 "TreapVersions$Store" "weight" "[I", Cond.fieldLink RX0 15 "TreapVersions$Store" "key" "[I", Cond.methodLink RX2 50 yX2_handleFor, Cond.instanceMethod yX2_handleFor, Cond.selects RX2 yX2_handleFor yX2_handleFor, Cond.code yX2_handleFor cX2_handleFor 3 (some .int), Cond.methodLink RX2 134 yX2_makeRoom, Cond.instanceMethod yX2_makeRoom, Cond.selects RX2 yX2_makeRoom yX2_makeRoom, Cond.code yX2_makeRoom cX2_makeRoom 2 (some .boolean), Cond.fieldLink RX2 131 "TreapVersions" "sweepCount" "I"]
def wsX2_join_r3 : List Cond := [Cond.methodLink RX2 137 yX0_hasRoom, Cond.instanceMethod yX0_hasRoom, Cond.selects RX0 yX0_hasRoom yX0_hasRoom, Cond.code yX0_hasRoom cX0_hasRoom 2 (some .boolean), Cond.fieldLink RX0 44 "TreapVersions$Store" "usedPlaces" "I", Cond.methodLink RX2 125 yX2_reachLive, Cond.instanceMethod yX2_reachLive, Cond.selects RX2 yX2_reachLive yX2_reachLive, Cond.code yX2_reachLive cX2_reachLive 3 (some .int), Cond.methodLink RX2 115 yX0_forgetReached, Cond.instanceMethod yX0_forgetReached, Cond.selects RX0 yX0_forgetReached yX0_forgetReached, Cond.code yX0_forgetReached cX0_forgetReached 2 none, Cond.fieldLink RX0 38 "TreapVersions$Store" "reached" "[Z", Cond.methodLink RX2 118 yX0_reach, Cond.instanceMethod yX0_reach, Cond.selects RX0 yX0_reach yX0_reach, Cond.code yX0_reach cX0_reach 7 (some .int), Cond.fieldLink RX0 41 "TreapVersions$Store" "pending" "[I", Cond.methodLink RX0 55 yX0_pend, Cond.instanceMethod yX0_pend, Cond.selects RX0 yX0_pend yX0_pend, Cond.code yX0_pend cX0_pend 3 (some .int), Cond.methodLink RX2 140 yX0_keepReached]
def wsX2_join_r4 : List Cond := [Cond.instanceMethod yX0_keepReached, Cond.selects RX0 yX0_keepReached yX0_keepReached, Cond.code yX0_keepReached cX0_keepReached 2 none, Cond.fieldLink RX0 34 "TreapVersions$Store" "taken" "[Z", Cond.methodLink RX2 75 yX1_copyOver, Cond.instanceMethod yX1_copyOver, Cond.selects RX1 yX1_copyOver yX1_copyOver, Cond.code yX1_copyOver cX1_copyOver 5 (some .int), Cond.methodLink RX1 51 yX0_copy, Cond.instanceMethod yX0_copy, Cond.selects RX0 yX0_copy yX0_copy, Cond.code yX0_copy cX0_copy 4 (some .int), Cond.fieldLink RX0 19 "TreapVersions$Store" "value" "[I", Cond.methodLink RX0 51 yX0_fresh, Cond.instanceMethod yX0_fresh, Cond.selects RX0 yX0_fresh yX0_fresh, Cond.code yX0_fresh cX0_fresh 7 (some .int), Cond.methodLink RX0 47 yX0_freePlace, Cond.instanceMethod yX0_freePlace, Cond.selects RX0 yX0_freePlace yX0_freePlace, Cond.code yX0_freePlace cX0_freePlace 2 (some .int), Cond.methodLink RX2 78 yX2_open, Cond.instanceMethod yX2_open, Cond.selects RX2 yX2_open yX2_open]
def wsX2_join_r5 : List Cond := [Cond.code yX2_open cX2_open 3 (some .int)]
def wsX2_join : List Cond := .code yX2_join cX2_join 9 (some .int) :: ((wsX2_join_r1 ++ (wsX2_join_r2 ++ (wsX2_join_r3 ++ (wsX2_join_r4 ++ wsX2_join_r5)))) ++ wsX20 ++ wsX00 ++ wsX10)
def wsX2_drop : List Cond := .code yX2_drop cX2_drop 2 (some .boolean) :: ([.fieldLink RX2 27 "TreapVersions" "live" "[Z", .methodLink RX2 39 yX2_isLive, .instanceMethod yX2_isLive, .selects RX2 yX2_isLive yX2_isLive, .initialized RX2, .code yX2_isLive cX2_isLive 2 (some .boolean)] ++ wsX20)
def wsX2_nodeWith : List Cond := .code yX2_nodeWith cX2_nodeWith 3 (some .int) :: ([.fieldLink RX2 23 "TreapVersions" "way" "LTreapVersions$Way;", .fieldLink RX2 31 "TreapVersions" "roots" "[I", .methodLink RX2 39 yX2_isLive, .instanceMethod yX2_isLive, .selects RX2 yX2_isLive yX2_isLive, .initialized RX2, .code yX2_isLive cX2_isLive 2 (some .boolean), .fieldLink RX2 27 "TreapVersions" "live" "[Z", .methodLink RX2 43 yX1_noteTo, .instanceMethod yX1_noteTo, .selects RX1 yX1_noteTo yX1_noteTo, .initialized RX1, .code yX1_noteTo cX1_noteTo 4 (some .int), .fieldLink RX1 25 "TreapVersions$Way" "length" "I", .fieldLink RX1 21 "TreapVersions$Way" "noted" "[I", .fieldLink RX1 9 "TreapVersions$Way" "store" "LTreapVersions$Store;", .fieldLink RX1 28 "TreapVersions$Store" "key" "[I", .fieldLink RX1 31 "TreapVersions$Store" "right" "[I", .fieldLink RX1 34 "TreapVersions$Store" "left" "[I"] ++ wsX20 ++ wsX10 ++ wsX00)
def wsX2_get_r1 : List Cond := [Cond.classLink RX2 103 "java/util/NoSuchElementException", Cond.initialized "java/util/NoSuchElementException", Cond.fieldLink RX2 14 "TreapVersions" "store" "LTreapVersions$Store;", Cond.fieldLink RX2 106 "TreapVersions$Store" "value" "[I", Cond.methodLink RX2 100 yX2_nodeWith, Cond.instanceMethod yX2_nodeWith, Cond.selects RX2 yX2_nodeWith yX2_nodeWith, Cond.initialized RX2, Cond.code yX2_nodeWith cX2_nodeWith 3 (some .int), Cond.fieldLink RX2 23 "TreapVersions" "way" "LTreapVersions$Way;", Cond.fieldLink RX2 31 "TreapVersions" "roots" "[I", Cond.methodLink RX2 39 yX2_isLive, Cond.instanceMethod yX2_isLive, Cond.selects RX2 yX2_isLive yX2_isLive, Cond.code yX2_isLive cX2_isLive 2 (some .boolean), Cond.fieldLink RX2 27 "TreapVersions" "live" "[Z", Cond.methodLink RX2 43 yX1_noteTo, Cond.instanceMethod yX1_noteTo, Cond.selects RX1 yX1_noteTo yX1_noteTo, Cond.initialized RX1, Cond.code yX1_noteTo cX1_noteTo 4 (some .int), Cond.fieldLink RX1 25 "TreapVersions$Way" "length" "I", Cond.fieldLink RX1 21 "TreapVersions$Way" "noted" "[I", Cond.fieldLink RX1 9 "TreapVersions$Way" "store" "LTreapVersions$Store;"]
def wsX2_get_r2 : List Cond := [Cond.fieldLink RX1 28 "TreapVersions$Store" "key" "[I", Cond.fieldLink RX1 31 "TreapVersions$Store" "right" "[I", Cond.fieldLink RX1 34 "TreapVersions$Store" "left" "[I"]
def wsX2_get : List Cond := .code yX2_get cX2_get 4 (some .int) :: ((wsX2_get_r1 ++ wsX2_get_r2) ++ wsX20 ++ wsX00 ++ wsX10 ++ (vx_at0 RX2 105 "java/util/NoSuchElementException" ["java/lang/RuntimeException", "java/lang/Exception"]).filter goodWord)
def wsX2_contains : List Cond := .code yX2_contains cX2_contains 3 (some .boolean) :: ([.methodLink RX2 100 yX2_nodeWith, .instanceMethod yX2_nodeWith, .selects RX2 yX2_nodeWith yX2_nodeWith, .initialized RX2, .code yX2_nodeWith cX2_nodeWith 3 (some .int), .fieldLink RX2 23 "TreapVersions" "way" "LTreapVersions$Way;", .fieldLink RX2 31 "TreapVersions" "roots" "[I", .methodLink RX2 39 yX2_isLive, .instanceMethod yX2_isLive, .selects RX2 yX2_isLive yX2_isLive, .code yX2_isLive cX2_isLive 2 (some .boolean), .fieldLink RX2 27 "TreapVersions" "live" "[Z", .methodLink RX2 43 yX1_noteTo, .instanceMethod yX1_noteTo, .selects RX1 yX1_noteTo yX1_noteTo, .initialized RX1, .code yX1_noteTo cX1_noteTo 4 (some .int), .fieldLink RX1 25 "TreapVersions$Way" "length" "I", .fieldLink RX1 21 "TreapVersions$Way" "noted" "[I", .fieldLink RX1 9 "TreapVersions$Way" "store" "LTreapVersions$Store;", .fieldLink RX1 28 "TreapVersions$Store" "key" "[I", .fieldLink RX1 31 "TreapVersions$Store" "right" "[I", .fieldLink RX1 34 "TreapVersions$Store" "left" "[I"] ++ wsX20 ++ wsX10 ++ wsX00)
def wsX2_size : List Cond := .code yX2_size cX2_size 2 (some .int) :: ([.fieldLink RX2 14 "TreapVersions" "store" "LTreapVersions$Store;", .fieldLink RX2 88 "TreapVersions$Store" "count" "[I", .fieldLink RX2 31 "TreapVersions" "roots" "[I", .methodLink RX2 39 yX2_isLive, .instanceMethod yX2_isLive, .selects RX2 yX2_isLive yX2_isLive, .initialized RX2, .code yX2_isLive cX2_isLive 2 (some .boolean), .fieldLink RX2 27 "TreapVersions" "live" "[Z"] ++ wsX20 ++ wsX00)
def wsX2_floor : List Cond := .code yX2_floor cX2_floor 4 (some .int) :: ([.classLink RX2 103 "java/util/NoSuchElementException", .initialized "java/util/NoSuchElementException", .fieldLink RX2 14 "TreapVersions" "store" "LTreapVersions$Store;", .fieldLink RX2 31 "TreapVersions" "roots" "[I", .fieldLink RX2 94 "TreapVersions$Store" "key" "[I", .methodLink RX2 39 yX2_isLive, .instanceMethod yX2_isLive, .selects RX2 yX2_isLive yX2_isLive, .initialized RX2, .code yX2_isLive cX2_isLive 2 (some .boolean), .fieldLink RX2 27 "TreapVersions" "live" "[Z", .methodLink RX2 109 yX0_floorNode, .instanceMethod yX0_floorNode, .selects RX0 yX0_floorNode yX0_floorNode, .initialized RX0, .code yX0_floorNode cX0_floorNode 6 (some .int), .fieldLink RX0 9 "TreapVersions$Store" "room" "I", .fieldLink RX0 15 "TreapVersions$Store" "key" "[I", .fieldLink RX0 28 "TreapVersions$Store" "right" "[I", .fieldLink RX0 25 "TreapVersions$Store" "left" "[I"] ++ wsX20 ++ wsX00 ++ (vx_at0 RX2 105 "java/util/NoSuchElementException" ["java/lang/RuntimeException", "java/lang/Exception"]).filter goodWord)
def wsX2_keyAt : List Cond := .code yX2_keyAt cX2_keyAt 4 (some .int) :: ([.classLink RX2 103 "java/util/NoSuchElementException", .initialized "java/util/NoSuchElementException", .classLink RX2 112 "java/lang/IndexOutOfBoundsException", .initialized "java/lang/IndexOutOfBoundsException", .fieldLink RX2 14 "TreapVersions" "store" "LTreapVersions$Store;", .fieldLink RX2 31 "TreapVersions" "roots" "[I", .fieldLink RX2 94 "TreapVersions$Store" "key" "[I", .methodLink RX2 39 yX2_isLive, .instanceMethod yX2_isLive, .selects RX2 yX2_isLive yX2_isLive, .initialized RX2, .code yX2_isLive cX2_isLive 2 (some .boolean), .fieldLink RX2 27 "TreapVersions" "live" "[Z", .methodLink RX2 91 yX0_nodeAt, .instanceMethod yX0_nodeAt, .selects RX0 yX0_nodeAt yX0_nodeAt, .initialized RX0, .code yX0_nodeAt cX0_nodeAt 6 (some .int), .fieldLink RX0 9 "TreapVersions$Store" "room" "I", .fieldLink RX0 31 "TreapVersions$Store" "count" "[I", .fieldLink RX0 25 "TreapVersions$Store" "left" "[I", .fieldLink RX0 28 "TreapVersions$Store" "right" "[I"] ++ wsX20 ++ wsX00 ++ (vx_at0 RX2 105 "java/util/NoSuchElementException" ["java/lang/RuntimeException", "java/lang/Exception"]).filter goodWord ++ (vx_at0 RX2 114 "java/lang/IndexOutOfBoundsException" ["java/lang/RuntimeException", "java/lang/Exception"]).filter goodWord)
def wsX2_sum_r1 : List Cond := [Cond.fieldLink RX2 14 "TreapVersions" "store" "LTreapVersions$Store;", Cond.fieldLink RX2 31 "TreapVersions" "roots" "[I", Cond.methodLink RX2 39 yX2_isLive, Cond.instanceMethod yX2_isLive, Cond.selects RX2 yX2_isLive yX2_isLive, Cond.initialized RX2, Cond.code yX2_isLive cX2_isLive 2 (some .boolean), Cond.fieldLink RX2 27 "TreapVersions" "live" "[Z", Cond.methodLink RX2 115 yX0_forgetReached, Cond.instanceMethod yX0_forgetReached, Cond.selects RX0 yX0_forgetReached yX0_forgetReached, Cond.initialized RX0, Cond.code yX0_forgetReached cX0_forgetReached 2 none, Cond.fieldLink RX0 9 "TreapVersions$Store" "room" "I", Cond.fieldLink RX0 38 "TreapVersions$Store" "reached" "[Z", Cond.methodLink RX2 118 yX0_reach, Cond.instanceMethod yX0_reach, Cond.selects RX0 yX0_reach yX0_reach, Cond.code yX0_reach cX0_reach 7 (some .int), Cond.fieldLink RX0 41 "TreapVersions$Store" "pending" "[I", Cond.fieldLink RX0 25 "TreapVersions$Store" "left" "[I", Cond.fieldLink RX0 28 "TreapVersions$Store" "right" "[I", Cond.methodLink RX0 55 yX0_pend, Cond.instanceMethod yX0_pend]
def wsX2_sum_r2 : List Cond := [Cond.selects RX0 yX0_pend yX0_pend, Cond.code yX0_pend cX0_pend 3 (some .int), Cond.methodLink RX2 121 yX0_sumReached, Cond.instanceMethod yX0_sumReached, Cond.selects RX0 yX0_sumReached yX0_sumReached, Cond.code yX0_sumReached cX0_sumReached 6 (some .long), Cond.fieldLink RX0 15 "TreapVersions$Store" "key" "[I", Cond.fieldLink RX0 19 "TreapVersions$Store" "value" "[I"]
def wsX2_sum : List Cond := .code yX2_sum cX2_sum 4 (some .long) :: ((wsX2_sum_r1 ++ wsX2_sum_r2) ++ wsX20 ++ wsX00)
def wsX2_depth_r1 : List Cond := [Cond.classLink RX2 103 "java/util/NoSuchElementException", Cond.initialized "java/util/NoSuchElementException", Cond.fieldLink RX2 23 "TreapVersions" "way" "LTreapVersions$Way;", Cond.fieldLink RX2 47 "TreapVersions$Way" "length" "I", Cond.methodLink RX2 100 yX2_nodeWith, Cond.instanceMethod yX2_nodeWith, Cond.selects RX2 yX2_nodeWith yX2_nodeWith, Cond.initialized RX2, Cond.code yX2_nodeWith cX2_nodeWith 3 (some .int), Cond.fieldLink RX2 31 "TreapVersions" "roots" "[I", Cond.methodLink RX2 39 yX2_isLive, Cond.instanceMethod yX2_isLive, Cond.selects RX2 yX2_isLive yX2_isLive, Cond.code yX2_isLive cX2_isLive 2 (some .boolean), Cond.fieldLink RX2 27 "TreapVersions" "live" "[Z", Cond.methodLink RX2 43 yX1_noteTo, Cond.instanceMethod yX1_noteTo, Cond.selects RX1 yX1_noteTo yX1_noteTo, Cond.initialized RX1, Cond.code yX1_noteTo cX1_noteTo 4 (some .int), Cond.fieldLink RX1 25 "TreapVersions$Way" "length" "I", Cond.fieldLink RX1 21 "TreapVersions$Way" "noted" "[I", Cond.fieldLink RX1 9 "TreapVersions$Way" "store" "LTreapVersions$Store;", Cond.fieldLink RX1 28 "TreapVersions$Store" "key" "[I"]
def wsX2_depth_r2 : List Cond := [Cond.fieldLink RX1 31 "TreapVersions$Store" "right" "[I", Cond.fieldLink RX1 34 "TreapVersions$Store" "left" "[I"]
def wsX2_depth : List Cond := .code yX2_depth cX2_depth 3 (some .int) :: ((wsX2_depth_r1 ++ wsX2_depth_r2) ++ wsX20 ++ wsX10 ++ wsX00 ++ (vx_at0 RX2 105 "java/util/NoSuchElementException" ["java/lang/RuntimeException", "java/lang/Exception"]).filter goodWord)
def wsX2_shared_r1 : List Cond := [Cond.fieldLink RX2 14 "TreapVersions" "store" "LTreapVersions$Store;", Cond.fieldLink RX2 31 "TreapVersions" "roots" "[I", Cond.fieldLink RX2 88 "TreapVersions$Store" "count" "[I", Cond.methodLink RX2 39 yX2_isLive, Cond.instanceMethod yX2_isLive, Cond.selects RX2 yX2_isLive yX2_isLive, Cond.initialized RX2, Cond.code yX2_isLive cX2_isLive 2 (some .boolean), Cond.fieldLink RX2 27 "TreapVersions" "live" "[Z", Cond.methodLink RX2 115 yX0_forgetReached, Cond.instanceMethod yX0_forgetReached, Cond.selects RX0 yX0_forgetReached yX0_forgetReached, Cond.initialized RX0, Cond.code yX0_forgetReached cX0_forgetReached 2 none, Cond.fieldLink RX0 9 "TreapVersions$Store" "room" "I", Cond.fieldLink RX0 38 "TreapVersions$Store" "reached" "[Z", Cond.methodLink RX2 118 yX0_reach, Cond.instanceMethod yX0_reach, Cond.selects RX0 yX0_reach yX0_reach, Cond.code yX0_reach cX0_reach 7 (some .int), Cond.fieldLink RX0 41 "TreapVersions$Store" "pending" "[I", Cond.fieldLink RX0 25 "TreapVersions$Store" "left" "[I", Cond.fieldLink RX0 28 "TreapVersions$Store" "right" "[I", Cond.methodLink RX0 55 yX0_pend]
def wsX2_shared_r2 : List Cond := [Cond.instanceMethod yX0_pend, Cond.selects RX0 yX0_pend yX0_pend, Cond.code yX0_pend cX0_pend 3 (some .int)]
def wsX2_shared : List Cond := .code yX2_shared cX2_shared 3 (some .int) :: ((wsX2_shared_r1 ++ wsX2_shared_r2) ++ wsX20 ++ wsX00)
def wsX2_nodes_r1 : List Cond := [Cond.methodLink RX2 125 yX2_reachLive, Cond.instanceMethod yX2_reachLive, Cond.selects RX2 yX2_reachLive yX2_reachLive, Cond.initialized RX2, Cond.code yX2_reachLive cX2_reachLive 3 (some .int), Cond.fieldLink RX2 14 "TreapVersions" "store" "LTreapVersions$Store;", Cond.fieldLink RX2 27 "TreapVersions" "live" "[Z", Cond.fieldLink RX2 31 "TreapVersions" "roots" "[I", Cond.methodLink RX2 115 yX0_forgetReached, Cond.instanceMethod yX0_forgetReached, Cond.selects RX0 yX0_forgetReached yX0_forgetReached, Cond.initialized RX0, Cond.code yX0_forgetReached cX0_forgetReached 2 none, Cond.fieldLink RX0 9 "TreapVersions$Store" "room" "I", Cond.fieldLink RX0 38 "TreapVersions$Store" "reached" "[Z", Cond.methodLink RX2 118 yX0_reach, Cond.instanceMethod yX0_reach, Cond.selects RX0 yX0_reach yX0_reach, Cond.code yX0_reach cX0_reach 7 (some .int), Cond.fieldLink RX0 41 "TreapVersions$Store" "pending" "[I", Cond.fieldLink RX0 25 "TreapVersions$Store" "left" "[I", Cond.fieldLink RX0 28 "TreapVersions$Store" "right" "[I", Cond.methodLink RX0 55 yX0_pend, Cond.instanceMethod yX0_pend]
def wsX2_nodes_r2 : List Cond := [Cond.selects RX0 yX0_pend yX0_pend, Cond.code yX0_pend cX0_pend 3 (some .int)]
def wsX2_nodes : List Cond := .code yX2_nodes cX2_nodes 1 (some .int) :: ((wsX2_nodes_r1 ++ wsX2_nodes_r2) ++ wsX20 ++ wsX00)
def wsX2_used : List Cond := .code yX2_used cX2_used 1 (some .int) :: ([.fieldLink RX2 14 "TreapVersions" "store" "LTreapVersions$Store;", .fieldLink RX2 128 "TreapVersions$Store" "usedPlaces" "I"] ++ wsX20 ++ wsX00)
def wsX2_sweeps : List Cond := .code yX2_sweeps cX2_sweeps 1 (some .int) :: ([.fieldLink RX2 131 "TreapVersions" "sweepCount" "I"] ++ wsX20)
def wsX3_init : List Cond := .code yX3_init cX3_init 5 none :: ([.methodLink RX3 1 objectInit, .instanceMethod objectInit, .code objectInit ⟨#[0xb1]⟩ 1 none, .arrayClass .int, .fieldLink RX3 7 "TreapVersionsModel" "key" "[I", .fieldLink RX3 13 "TreapVersionsModel" "value" "[I", .fieldLink RX3 16 "TreapVersionsModel" "weight" "[I", .fieldLink RX3 19 "TreapVersionsModel" "left" "[I", .fieldLink RX3 22 "TreapVersionsModel" "right" "[I", .arrayClass .boolean, .fieldLink RX3 25 "TreapVersionsModel" "live" "[Z", .fieldLink RX3 29 "TreapVersionsModel" "other" "[Z", .fieldLink RX3 32 "TreapVersionsModel" "stack" "[I", .fieldLink RX3 35 "TreapVersionsModel" "isLive" "[Z", .fieldLink RX3 38 "TreapVersionsModel" "root" "[I", .fieldLink RX3 41 "TreapVersionsModel" "way" "[I", .fieldLink RX3 44 "TreapVersionsModel" "room" "I", .fieldLink RX3 48 "TreapVersionsModel" "versions" "I", .fieldLink RX3 51 "TreapVersionsModel" "seed" "I"] ++ wsX30)
def wsX3_thrown : List Cond := .code yX3_thrown cX3_thrown 1 (some .int) :: ([.fieldLink RX3 54 "TreapVersionsModel" "thrown" "I"] ++ wsX30)
def wsX3_fail : List Cond := .code yX3_fail cX3_fail 2 (some .int) :: ([.fieldLink RX3 54 "TreapVersionsModel" "thrown" "I"] ++ wsX30)
def wsX3_has : List Cond := .code yX3_has cX3_has 2 (some .boolean) :: ([.fieldLink RX3 48 "TreapVersionsModel" "versions" "I", .fieldLink RX3 35 "TreapVersionsModel" "isLive" "[Z"] ++ wsX30)
def wsX3_mark : List Cond := .code yX3_mark cX3_mark 5 (some .int) :: ([.fieldLink RX3 57 "TreapVersionsModel" "top" "I", .fieldLink RX3 32 "TreapVersionsModel" "stack" "[I", .fieldLink RX3 19 "TreapVersionsModel" "left" "[I", .fieldLink RX3 22 "TreapVersionsModel" "right" "[I"] ++ wsX30)
def wsX3_markAll : List Cond := .code yX3_markAll cX3_markAll 3 (some .int) :: ([.fieldLink RX3 25 "TreapVersionsModel" "live" "[Z", .fieldLink RX3 48 "TreapVersionsModel" "versions" "I", .fieldLink RX3 35 "TreapVersionsModel" "isLive" "[Z", .fieldLink RX3 38 "TreapVersionsModel" "root" "[I", .methodLink RX3 60 yX3_mark, .instanceMethod yX3_mark, .selects RX3 yX3_mark yX3_mark, .initialized RX3, .code yX3_mark cX3_mark 5 (some .int), .fieldLink RX3 57 "TreapVersionsModel" "top" "I", .fieldLink RX3 32 "TreapVersionsModel" "stack" "[I", .fieldLink RX3 19 "TreapVersionsModel" "left" "[I", .fieldLink RX3 22 "TreapVersionsModel" "right" "[I"] ++ wsX30)
def wsX3_above : List Cond := .code yX3_above cX3_above 3 (some .boolean) :: ([.fieldLink RX3 16 "TreapVersionsModel" "weight" "[I", .fieldLink RX3 7 "TreapVersionsModel" "key" "[I"] ++ wsX30)
def wsX3_begin : List Cond := .code yX3_begin cX3_begin 1 none :: ([.fieldLink RX3 68 "TreapVersionsModel" "fresh" "I", .fieldLink RX3 71 "TreapVersionsModel" "next" "I", .fieldLink RX3 74 "TreapVersionsModel" "tree" "I", .fieldLink RX3 77 "TreapVersionsModel" "hole" "I", .methodLink RX3 64 yX3_markAll, .instanceMethod yX3_markAll, .selects RX3 yX3_markAll yX3_markAll, .initialized RX3, .code yX3_markAll cX3_markAll 3 (some .int), .fieldLink RX3 25 "TreapVersionsModel" "live" "[Z", .fieldLink RX3 48 "TreapVersionsModel" "versions" "I", .fieldLink RX3 35 "TreapVersionsModel" "isLive" "[Z", .fieldLink RX3 38 "TreapVersionsModel" "root" "[I", .methodLink RX3 60 yX3_mark, .instanceMethod yX3_mark, .selects RX3 yX3_mark yX3_mark, .code yX3_mark cX3_mark 5 (some .int), .fieldLink RX3 57 "TreapVersionsModel" "top" "I", .fieldLink RX3 32 "TreapVersionsModel" "stack" "[I", .fieldLink RX3 19 "TreapVersionsModel" "left" "[I", .fieldLink RX3 22 "TreapVersionsModel" "right" "[I"] ++ wsX30)
def wsX3_make : List Cond := .code yX3_make cX3_make 7 (some .int) :: ([.fieldLink RX3 25 "TreapVersionsModel" "live" "[Z", .fieldLink RX3 71 "TreapVersionsModel" "next" "I", .fieldLink RX3 68 "TreapVersionsModel" "fresh" "I", .fieldLink RX3 7 "TreapVersionsModel" "key" "[I", .fieldLink RX3 13 "TreapVersionsModel" "value" "[I", .fieldLink RX3 16 "TreapVersionsModel" "weight" "[I", .fieldLink RX3 19 "TreapVersionsModel" "left" "[I", .fieldLink RX3 22 "TreapVersionsModel" "right" "[I"] ++ wsX30)
def wsX3_copy : List Cond := .code yX3_copy cX3_copy 2 (some .int) :: ([.fieldLink RX3 7 "TreapVersionsModel" "key" "[I", .fieldLink RX3 13 "TreapVersionsModel" "value" "[I", .fieldLink RX3 16 "TreapVersionsModel" "weight" "[I", .fieldLink RX3 19 "TreapVersionsModel" "left" "[I", .fieldLink RX3 22 "TreapVersionsModel" "right" "[I", .methodLink RX3 80 yX3_make, .instanceMethod yX3_make, .selects RX3 yX3_make yX3_make, .initialized RX3, .code yX3_make cX3_make 7 (some .int), .fieldLink RX3 25 "TreapVersionsModel" "live" "[Z", .fieldLink RX3 71 "TreapVersionsModel" "next" "I", .fieldLink RX3 68 "TreapVersionsModel" "fresh" "I"] ++ wsX30)
def wsX3_hang : List Cond := .code yX3_hang cX3_hang 2 none :: ([.fieldLink RX3 77 "TreapVersionsModel" "hole" "I", .fieldLink RX3 74 "TreapVersionsModel" "tree" "I", .fieldLink RX3 84 "TreapVersionsModel" "holeRight" "Z", .fieldLink RX3 22 "TreapVersionsModel" "right" "[I", .fieldLink RX3 19 "TreapVersionsModel" "left" "[I"] ++ wsX30)
def wsX3_holeAt : List Cond := .code yX3_holeAt cX3_holeAt 3 none :: ([.fieldLink RX3 77 "TreapVersionsModel" "hole" "I", .fieldLink RX3 84 "TreapVersionsModel" "holeRight" "Z"] ++ wsX30)
def wsX3_go : List Cond := .code yX3_go cX3_go 6 none :: ([.fieldLink RX3 88 "TreapVersionsModel" "steps" "I", .fieldLink RX3 41 "TreapVersionsModel" "way" "[I", .fieldLink RX3 7 "TreapVersionsModel" "key" "[I", .fieldLink RX3 22 "TreapVersionsModel" "right" "[I", .fieldLink RX3 19 "TreapVersionsModel" "left" "[I"] ++ wsX30)
def wsX3_find : List Cond := .code yX3_find cX3_find 4 (some .int) :: ([.fieldLink RX3 7 "TreapVersionsModel" "key" "[I", .fieldLink RX3 22 "TreapVersionsModel" "right" "[I", .fieldLink RX3 19 "TreapVersionsModel" "left" "[I"] ++ wsX30)
def wsX3_freeHandle : List Cond := .code yX3_freeHandle cX3_freeHandle 2 (some .int) :: ([.fieldLink RX3 48 "TreapVersionsModel" "versions" "I", .fieldLink RX3 35 "TreapVersionsModel" "isLive" "[Z"] ++ wsX30)
def wsX3_takes : List Cond := .code yX3_takes cX3_takes 2 (some .boolean) :: ([.fieldLink RX3 91 "TreapVersionsModel" "used" "I", .fieldLink RX3 44 "TreapVersionsModel" "room" "I", .fieldLink RX3 94 "TreapVersionsModel" "sweeps" "I", .methodLink RX3 64 yX3_markAll, .instanceMethod yX3_markAll, .selects RX3 yX3_markAll yX3_markAll, .initialized RX3, .code yX3_markAll cX3_markAll 3 (some .int), .fieldLink RX3 25 "TreapVersionsModel" "live" "[Z", .fieldLink RX3 48 "TreapVersionsModel" "versions" "I", .fieldLink RX3 35 "TreapVersionsModel" "isLive" "[Z", .fieldLink RX3 38 "TreapVersionsModel" "root" "[I", .methodLink RX3 60 yX3_mark, .instanceMethod yX3_mark, .selects RX3 yX3_mark yX3_mark, .code yX3_mark cX3_mark 5 (some .int), .fieldLink RX3 57 "TreapVersionsModel" "top" "I", .fieldLink RX3 32 "TreapVersionsModel" "stack" "[I", .fieldLink RX3 19 "TreapVersionsModel" "left" "[I", .fieldLink RX3 22 "TreapVersionsModel" "right" "[I"] ++ wsX30)
def wsX3_settle_r1 : List Cond := [Cond.fieldLink RX3 68 "TreapVersionsModel" "fresh" "I", Cond.fieldLink RX3 35 "TreapVersionsModel" "isLive" "[Z", Cond.fieldLink RX3 38 "TreapVersionsModel" "root" "[I", Cond.fieldLink RX3 74 "TreapVersionsModel" "tree" "I", Cond.methodLink RX3 97 yX3_takes, Cond.instanceMethod yX3_takes, Cond.selects RX3 yX3_takes yX3_takes, Cond.initialized RX3, Cond.code yX3_takes cX3_takes 2 (some .boolean), Cond.fieldLink RX3 91 "TreapVersionsModel" "used" "I", Cond.fieldLink RX3 44 "TreapVersionsModel" "room" "I", Cond.fieldLink RX3 94 "TreapVersionsModel" "sweeps" "I", Cond.methodLink RX3 64 yX3_markAll, Cond.instanceMethod yX3_markAll, Cond.selects RX3 yX3_markAll yX3_markAll, Cond.code yX3_markAll cX3_markAll 3 (some .int), Cond.fieldLink RX3 25 "TreapVersionsModel" "live" "[Z", Cond.fieldLink RX3 48 "TreapVersionsModel" "versions" "I", Cond.methodLink RX3 60 yX3_mark, Cond.instanceMethod yX3_mark, Cond.selects RX3 yX3_mark yX3_mark, Cond.code yX3_mark cX3_mark 5 (some .int), Cond.fieldLink RX3 57 "TreapVersionsModel" "top" "I", Cond.fieldLink RX3 32 "TreapVersionsModel" "stack" "[I"]
def wsX3_settle_r2 : List Cond := [Cond.fieldLink RX3 19 "TreapVersionsModel" "left" "[I", Cond.fieldLink RX3 22 "TreapVersionsModel" "right" "[I"]
def wsX3_settle : List Cond := .code yX3_settle cX3_settle 2 (some .int) :: ((wsX3_settle_r1 ++ wsX3_settle_r2) ++ wsX30)
def wsX3_putValue_r1 : List Cond := [Cond.fieldLink RX3 88 "TreapVersionsModel" "steps" "I", Cond.fieldLink RX3 41 "TreapVersionsModel" "way" "[I", Cond.fieldLink RX3 13 "TreapVersionsModel" "value" "[I", Cond.fieldLink RX3 7 "TreapVersionsModel" "key" "[I", Cond.methodLink RX3 101 yX3_copy, Cond.instanceMethod yX3_copy, Cond.selects RX3 yX3_copy yX3_copy, Cond.initialized RX3, Cond.code yX3_copy cX3_copy 2 (some .int), Cond.fieldLink RX3 16 "TreapVersionsModel" "weight" "[I", Cond.fieldLink RX3 19 "TreapVersionsModel" "left" "[I", Cond.fieldLink RX3 22 "TreapVersionsModel" "right" "[I", Cond.methodLink RX3 80 yX3_make, Cond.instanceMethod yX3_make, Cond.selects RX3 yX3_make yX3_make, Cond.code yX3_make cX3_make 7 (some .int), Cond.fieldLink RX3 25 "TreapVersionsModel" "live" "[Z", Cond.fieldLink RX3 71 "TreapVersionsModel" "next" "I", Cond.fieldLink RX3 68 "TreapVersionsModel" "fresh" "I", Cond.methodLink RX3 105 yX3_hang, Cond.instanceMethod yX3_hang, Cond.selects RX3 yX3_hang yX3_hang, Cond.code yX3_hang cX3_hang 2 none, Cond.fieldLink RX3 77 "TreapVersionsModel" "hole" "I"]
def wsX3_putValue_r2 : List Cond := [Cond.fieldLink RX3 74 "TreapVersionsModel" "tree" "I", Cond.fieldLink RX3 84 "TreapVersionsModel" "holeRight" "Z", Cond.methodLink RX3 109 yX3_holeAt, Cond.instanceMethod yX3_holeAt, Cond.selects RX3 yX3_holeAt yX3_holeAt, Cond.code yX3_holeAt cX3_holeAt 3 none]
def wsX3_putValue : List Cond := .code yX3_putValue cX3_putValue 5 none :: ((wsX3_putValue_r1 ++ wsX3_putValue_r2) ++ wsX30)
def wsX3_putNew_r1 : List Cond := [Cond.fieldLink RX3 51 "TreapVersionsModel" "seed" "I", Cond.constant RX3 113 (1103515245), Cond.fieldLink RX3 88 "TreapVersionsModel" "steps" "I", Cond.fieldLink RX3 41 "TreapVersionsModel" "way" "[I", Cond.fieldLink RX3 7 "TreapVersionsModel" "key" "[I", Cond.fieldLink RX3 19 "TreapVersionsModel" "left" "[I", Cond.fieldLink RX3 22 "TreapVersionsModel" "right" "[I", Cond.methodLink RX3 80 yX3_make, Cond.instanceMethod yX3_make, Cond.selects RX3 yX3_make yX3_make, Cond.initialized RX3, Cond.code yX3_make cX3_make 7 (some .int), Cond.fieldLink RX3 25 "TreapVersionsModel" "live" "[Z", Cond.fieldLink RX3 71 "TreapVersionsModel" "next" "I", Cond.fieldLink RX3 68 "TreapVersionsModel" "fresh" "I", Cond.fieldLink RX3 13 "TreapVersionsModel" "value" "[I", Cond.fieldLink RX3 16 "TreapVersionsModel" "weight" "[I", Cond.methodLink RX3 114 yX3_above, Cond.instanceMethod yX3_above, Cond.selects RX3 yX3_above yX3_above, Cond.code yX3_above cX3_above 3 (some .boolean), Cond.methodLink RX3 101 yX3_copy, Cond.instanceMethod yX3_copy, Cond.selects RX3 yX3_copy yX3_copy]
def wsX3_putNew_r2 : List Cond := [Cond.code yX3_copy cX3_copy 2 (some .int), Cond.methodLink RX3 105 yX3_hang, Cond.instanceMethod yX3_hang, Cond.selects RX3 yX3_hang yX3_hang, Cond.code yX3_hang cX3_hang 2 none, Cond.fieldLink RX3 77 "TreapVersionsModel" "hole" "I", Cond.fieldLink RX3 74 "TreapVersionsModel" "tree" "I", Cond.fieldLink RX3 84 "TreapVersionsModel" "holeRight" "Z", Cond.methodLink RX3 109 yX3_holeAt, Cond.instanceMethod yX3_holeAt, Cond.selects RX3 yX3_holeAt yX3_holeAt, Cond.code yX3_holeAt cX3_holeAt 3 none]
def wsX3_putNew : List Cond := .code yX3_putNew cX3_putNew 8 none :: ((wsX3_putNew_r1 ++ wsX3_putNew_r2) ++ wsX30)
def wsX3_put_r1 : List Cond := [Cond.fieldLink RX3 54 "TreapVersionsModel" "thrown" "I", Cond.fieldLink RX3 38 "TreapVersionsModel" "root" "[I", Cond.fieldLink RX3 88 "TreapVersionsModel" "steps" "I", Cond.fieldLink RX3 35 "TreapVersionsModel" "isLive" "[Z", Cond.fieldLink RX3 74 "TreapVersionsModel" "tree" "I", Cond.methodLink RX3 118 yX3_has, Cond.instanceMethod yX3_has, Cond.selects RX3 yX3_has yX3_has, Cond.initialized RX3, Cond.code yX3_has cX3_has 2 (some .boolean), Cond.fieldLink RX3 48 "TreapVersionsModel" "versions" "I", Cond.methodLink RX3 121 yX3_freeHandle, Cond.instanceMethod yX3_freeHandle, Cond.selects RX3 yX3_freeHandle yX3_freeHandle, Cond.code yX3_freeHandle cX3_freeHandle 2 (some .int), Cond.methodLink RX3 124 yX3_begin, Cond.instanceMethod yX3_begin, Cond.selects RX3 yX3_begin yX3_begin, Cond.code yX3_begin cX3_begin 1 none, Cond.fieldLink RX3 68 "TreapVersionsModel" "fresh" "I", Cond.fieldLink RX3 71 "TreapVersionsModel" "next" "I", Cond.fieldLink RX3 77 "TreapVersionsModel" "hole" "I", Cond.methodLink RX3 64 yX3_markAll, Cond.instanceMethod yX3_markAll]
def wsX3_put_r2 : List Cond := [Cond.selects RX3 yX3_markAll yX3_markAll, Cond.code yX3_markAll cX3_markAll 3 (some .int), Cond.fieldLink RX3 25 "TreapVersionsModel" "live" "[Z", Cond.methodLink RX3 60 yX3_mark, Cond.instanceMethod yX3_mark, Cond.selects RX3 yX3_mark yX3_mark, Cond.code yX3_mark cX3_mark 5 (some .int), Cond.fieldLink RX3 57 "TreapVersionsModel" "top" "I", Cond.fieldLink RX3 32 "TreapVersionsModel" "stack" "[I", Cond.fieldLink RX3 19 "TreapVersionsModel" "left" "[I", Cond.fieldLink RX3 22 "TreapVersionsModel" "right" "[I", Cond.methodLink RX3 127 yX3_find, Cond.instanceMethod yX3_find, Cond.selects RX3 yX3_find yX3_find, Cond.code yX3_find cX3_find 4 (some .int), Cond.fieldLink RX3 7 "TreapVersionsModel" "key" "[I", Cond.methodLink RX3 131 yX3_go, Cond.instanceMethod yX3_go, Cond.selects RX3 yX3_go yX3_go, Cond.code yX3_go cX3_go 6 none, Cond.fieldLink RX3 41 "TreapVersionsModel" "way" "[I", Cond.methodLink RX3 97 yX3_takes, Cond.instanceMethod yX3_takes, Cond.selects RX3 yX3_takes yX3_takes]
def wsX3_put_r3 : List Cond := [Cond.code yX3_takes cX3_takes 2 (some .boolean), Cond.fieldLink RX3 91 "TreapVersionsModel" "used" "I", Cond.fieldLink RX3 44 "TreapVersionsModel" "room" "I", Cond.fieldLink RX3 94 "TreapVersionsModel" "sweeps" "I", Cond.methodLink RX3 135 yX3_putValue, Cond.instanceMethod yX3_putValue, Cond.selects RX3 yX3_putValue yX3_putValue, Cond.code yX3_putValue cX3_putValue 5 none, Cond.fieldLink RX3 13 "TreapVersionsModel" "value" "[I", Cond.methodLink RX3 101 yX3_copy, Cond.instanceMethod yX3_copy, Cond.selects RX3 yX3_copy yX3_copy, Cond.code yX3_copy cX3_copy 2 (some .int), Cond.fieldLink RX3 16 "TreapVersionsModel" "weight" "[I", Cond.methodLink RX3 80 yX3_make, Cond.instanceMethod yX3_make, Cond.selects RX3 yX3_make yX3_make, Cond.code yX3_make cX3_make 7 (some .int), Cond.methodLink RX3 105 yX3_hang, Cond.instanceMethod yX3_hang, Cond.selects RX3 yX3_hang yX3_hang, Cond.code yX3_hang cX3_hang 2 none, Cond.fieldLink RX3 84 "TreapVersionsModel" "holeRight" "Z", Cond.methodLink RX3 109 yX3_holeAt]
def wsX3_put_r4 : List Cond := [Cond.instanceMethod yX3_holeAt, Cond.selects RX3 yX3_holeAt yX3_holeAt, Cond.code yX3_holeAt cX3_holeAt 3 none, Cond.methodLink RX3 139 yX3_putNew, Cond.instanceMethod yX3_putNew, Cond.selects RX3 yX3_putNew yX3_putNew, Cond.code yX3_putNew cX3_putNew 8 none, Cond.fieldLink RX3 51 "TreapVersionsModel" "seed" "I", Cond.constant RX3 113 (1103515245), Cond.methodLink RX3 114 yX3_above, Cond.instanceMethod yX3_above, Cond.selects RX3 yX3_above yX3_above, Cond.code yX3_above cX3_above 3 (some .boolean)]
def wsX3_put : List Cond := .code yX3_put cX3_put 6 (some .int) :: ((wsX3_put_r1 ++ (wsX3_put_r2 ++ (wsX3_put_r3 ++ wsX3_put_r4))) ++ wsX30)
def wsX3_joint_r1 : List Cond := [Cond.fieldLink RX3 22 "TreapVersionsModel" "right" "[I", Cond.fieldLink RX3 19 "TreapVersionsModel" "left" "[I", Cond.methodLink RX3 114 yX3_above, Cond.instanceMethod yX3_above, Cond.selects RX3 yX3_above yX3_above, Cond.initialized RX3, Cond.code yX3_above cX3_above 3 (some .boolean), Cond.fieldLink RX3 16 "TreapVersionsModel" "weight" "[I", Cond.fieldLink RX3 7 "TreapVersionsModel" "key" "[I", Cond.methodLink RX3 101 yX3_copy, Cond.instanceMethod yX3_copy, Cond.selects RX3 yX3_copy yX3_copy, Cond.code yX3_copy cX3_copy 2 (some .int), Cond.fieldLink RX3 13 "TreapVersionsModel" "value" "[I", Cond.methodLink RX3 80 yX3_make, Cond.instanceMethod yX3_make, Cond.selects RX3 yX3_make yX3_make, Cond.code yX3_make cX3_make 7 (some .int), Cond.fieldLink RX3 25 "TreapVersionsModel" "live" "[Z", Cond.fieldLink RX3 71 "TreapVersionsModel" "next" "I", Cond.fieldLink RX3 68 "TreapVersionsModel" "fresh" "I", Cond.methodLink RX3 105 yX3_hang, Cond.instanceMethod yX3_hang, Cond.selects RX3 yX3_hang yX3_hang]
def wsX3_joint_r2 : List Cond := [Cond.code yX3_hang cX3_hang 2 none, Cond.fieldLink RX3 77 "TreapVersionsModel" "hole" "I", Cond.fieldLink RX3 74 "TreapVersionsModel" "tree" "I", Cond.fieldLink RX3 84 "TreapVersionsModel" "holeRight" "Z", Cond.methodLink RX3 109 yX3_holeAt, Cond.instanceMethod yX3_holeAt, Cond.selects RX3 yX3_holeAt yX3_holeAt, Cond.code yX3_holeAt cX3_holeAt 3 none]
def wsX3_joint : List Cond := .code yX3_joint cX3_joint 7 none :: ((wsX3_joint_r1 ++ wsX3_joint_r2) ++ wsX30)
def wsX3_remove_r1 : List Cond := [Cond.fieldLink RX3 54 "TreapVersionsModel" "thrown" "I", Cond.fieldLink RX3 38 "TreapVersionsModel" "root" "[I", Cond.fieldLink RX3 74 "TreapVersionsModel" "tree" "I", Cond.fieldLink RX3 88 "TreapVersionsModel" "steps" "I", Cond.fieldLink RX3 41 "TreapVersionsModel" "way" "[I", Cond.fieldLink RX3 7 "TreapVersionsModel" "key" "[I", Cond.fieldLink RX3 19 "TreapVersionsModel" "left" "[I", Cond.fieldLink RX3 22 "TreapVersionsModel" "right" "[I", Cond.methodLink RX3 118 yX3_has, Cond.instanceMethod yX3_has, Cond.selects RX3 yX3_has yX3_has, Cond.initialized RX3, Cond.code yX3_has cX3_has 2 (some .boolean), Cond.fieldLink RX3 48 "TreapVersionsModel" "versions" "I", Cond.fieldLink RX3 35 "TreapVersionsModel" "isLive" "[Z", Cond.methodLink RX3 121 yX3_freeHandle, Cond.instanceMethod yX3_freeHandle, Cond.selects RX3 yX3_freeHandle yX3_freeHandle, Cond.code yX3_freeHandle cX3_freeHandle 2 (some .int), Cond.methodLink RX3 124 yX3_begin, Cond.instanceMethod yX3_begin, Cond.selects RX3 yX3_begin yX3_begin, Cond.code yX3_begin cX3_begin 1 none, Cond.fieldLink RX3 68 "TreapVersionsModel" "fresh" "I"]
def wsX3_remove_r2 : List Cond := [Cond.fieldLink RX3 71 "TreapVersionsModel" "next" "I", Cond.fieldLink RX3 77 "TreapVersionsModel" "hole" "I", Cond.methodLink RX3 64 yX3_markAll, Cond.instanceMethod yX3_markAll, Cond.selects RX3 yX3_markAll yX3_markAll, Cond.code yX3_markAll cX3_markAll 3 (some .int), Cond.fieldLink RX3 25 "TreapVersionsModel" "live" "[Z", Cond.methodLink RX3 60 yX3_mark, Cond.instanceMethod yX3_mark, Cond.selects RX3 yX3_mark yX3_mark, Cond.code yX3_mark cX3_mark 5 (some .int), Cond.fieldLink RX3 57 "TreapVersionsModel" "top" "I", Cond.fieldLink RX3 32 "TreapVersionsModel" "stack" "[I", Cond.methodLink RX3 127 yX3_find, Cond.instanceMethod yX3_find, Cond.selects RX3 yX3_find yX3_find, Cond.code yX3_find cX3_find 4 (some .int), Cond.methodLink RX3 142 yX3_settle, Cond.instanceMethod yX3_settle, Cond.selects RX3 yX3_settle yX3_settle, Cond.code yX3_settle cX3_settle 2 (some .int), Cond.methodLink RX3 97 yX3_takes, Cond.instanceMethod yX3_takes, Cond.selects RX3 yX3_takes yX3_takes]
def wsX3_remove_r3 : List Cond := [Cond.code yX3_takes cX3_takes 2 (some .boolean), Cond.fieldLink RX3 91 "TreapVersionsModel" "used" "I", Cond.fieldLink RX3 44 "TreapVersionsModel" "room" "I", Cond.fieldLink RX3 94 "TreapVersionsModel" "sweeps" "I", Cond.methodLink RX3 131 yX3_go, Cond.instanceMethod yX3_go, Cond.selects RX3 yX3_go yX3_go, Cond.code yX3_go cX3_go 6 none, Cond.methodLink RX3 101 yX3_copy, Cond.instanceMethod yX3_copy, Cond.selects RX3 yX3_copy yX3_copy, Cond.code yX3_copy cX3_copy 2 (some .int), Cond.fieldLink RX3 13 "TreapVersionsModel" "value" "[I", Cond.fieldLink RX3 16 "TreapVersionsModel" "weight" "[I", Cond.methodLink RX3 80 yX3_make, Cond.instanceMethod yX3_make, Cond.selects RX3 yX3_make yX3_make, Cond.code yX3_make cX3_make 7 (some .int), Cond.methodLink RX3 105 yX3_hang, Cond.instanceMethod yX3_hang, Cond.selects RX3 yX3_hang yX3_hang, Cond.code yX3_hang cX3_hang 2 none, Cond.fieldLink RX3 84 "TreapVersionsModel" "holeRight" "Z", Cond.methodLink RX3 109 yX3_holeAt]
def wsX3_remove_r4 : List Cond := [Cond.instanceMethod yX3_holeAt, Cond.selects RX3 yX3_holeAt yX3_holeAt, Cond.code yX3_holeAt cX3_holeAt 3 none, Cond.methodLink RX3 145 yX3_joint, Cond.instanceMethod yX3_joint, Cond.selects RX3 yX3_joint yX3_joint, Cond.code yX3_joint cX3_joint 7 none, Cond.methodLink RX3 114 yX3_above, Cond.instanceMethod yX3_above, Cond.selects RX3 yX3_above yX3_above, Cond.code yX3_above cX3_above 3 (some .boolean)]
def wsX3_remove : List Cond := .code yX3_remove cX3_remove 7 (some .int) :: ((wsX3_remove_r1 ++ (wsX3_remove_r2 ++ (wsX3_remove_r3 ++ wsX3_remove_r4))) ++ wsX30)
def wsX3_below_r1 : List Cond := [Cond.fieldLink RX3 54 "TreapVersionsModel" "thrown" "I", Cond.fieldLink RX3 38 "TreapVersionsModel" "root" "[I", Cond.fieldLink RX3 88 "TreapVersionsModel" "steps" "I", Cond.fieldLink RX3 7 "TreapVersionsModel" "key" "[I", Cond.fieldLink RX3 41 "TreapVersionsModel" "way" "[I", Cond.fieldLink RX3 22 "TreapVersionsModel" "right" "[I", Cond.methodLink RX3 118 yX3_has, Cond.instanceMethod yX3_has, Cond.selects RX3 yX3_has yX3_has, Cond.initialized RX3, Cond.code yX3_has cX3_has 2 (some .boolean), Cond.fieldLink RX3 48 "TreapVersionsModel" "versions" "I", Cond.fieldLink RX3 35 "TreapVersionsModel" "isLive" "[Z", Cond.methodLink RX3 121 yX3_freeHandle, Cond.instanceMethod yX3_freeHandle, Cond.selects RX3 yX3_freeHandle yX3_freeHandle, Cond.code yX3_freeHandle cX3_freeHandle 2 (some .int), Cond.methodLink RX3 124 yX3_begin, Cond.instanceMethod yX3_begin, Cond.selects RX3 yX3_begin yX3_begin, Cond.code yX3_begin cX3_begin 1 none, Cond.fieldLink RX3 68 "TreapVersionsModel" "fresh" "I", Cond.fieldLink RX3 71 "TreapVersionsModel" "next" "I", Cond.fieldLink RX3 74 "TreapVersionsModel" "tree" "I"]
def wsX3_below_r2 : List Cond := [Cond.fieldLink RX3 77 "TreapVersionsModel" "hole" "I", Cond.methodLink RX3 64 yX3_markAll, Cond.instanceMethod yX3_markAll, Cond.selects RX3 yX3_markAll yX3_markAll, Cond.code yX3_markAll cX3_markAll 3 (some .int), Cond.fieldLink RX3 25 "TreapVersionsModel" "live" "[Z", Cond.methodLink RX3 60 yX3_mark, Cond.instanceMethod yX3_mark, Cond.selects RX3 yX3_mark yX3_mark, Cond.code yX3_mark cX3_mark 5 (some .int), Cond.fieldLink RX3 57 "TreapVersionsModel" "top" "I", Cond.fieldLink RX3 32 "TreapVersionsModel" "stack" "[I", Cond.fieldLink RX3 19 "TreapVersionsModel" "left" "[I", Cond.methodLink RX3 131 yX3_go, Cond.instanceMethod yX3_go, Cond.selects RX3 yX3_go yX3_go, Cond.code yX3_go cX3_go 6 none, Cond.methodLink RX3 101 yX3_copy, Cond.instanceMethod yX3_copy, Cond.selects RX3 yX3_copy yX3_copy, Cond.code yX3_copy cX3_copy 2 (some .int), Cond.fieldLink RX3 13 "TreapVersionsModel" "value" "[I", Cond.fieldLink RX3 16 "TreapVersionsModel" "weight" "[I", Cond.methodLink RX3 80 yX3_make]
def wsX3_below_r3 : List Cond := [Cond.instanceMethod yX3_make, Cond.selects RX3 yX3_make yX3_make, Cond.code yX3_make cX3_make 7 (some .int), Cond.methodLink RX3 105 yX3_hang, Cond.instanceMethod yX3_hang, Cond.selects RX3 yX3_hang yX3_hang, Cond.code yX3_hang cX3_hang 2 none, Cond.fieldLink RX3 84 "TreapVersionsModel" "holeRight" "Z", Cond.methodLink RX3 109 yX3_holeAt, Cond.instanceMethod yX3_holeAt, Cond.selects RX3 yX3_holeAt yX3_holeAt, Cond.code yX3_holeAt cX3_holeAt 3 none, Cond.methodLink RX3 142 yX3_settle, Cond.instanceMethod yX3_settle, Cond.selects RX3 yX3_settle yX3_settle, Cond.code yX3_settle cX3_settle 2 (some .int), Cond.methodLink RX3 97 yX3_takes, Cond.instanceMethod yX3_takes, Cond.selects RX3 yX3_takes yX3_takes, Cond.code yX3_takes cX3_takes 2 (some .boolean), Cond.fieldLink RX3 91 "TreapVersionsModel" "used" "I", Cond.fieldLink RX3 44 "TreapVersionsModel" "room" "I", Cond.fieldLink RX3 94 "TreapVersionsModel" "sweeps" "I"]
def wsX3_below : List Cond := .code yX3_below cX3_below 6 (some .int) :: ((wsX3_below_r1 ++ (wsX3_below_r2 ++ wsX3_below_r3)) ++ wsX30)
def wsX3_least : List Cond := .code yX3_least cX3_least 3 (some .int) :: ([.fieldLink RX3 19 "TreapVersionsModel" "left" "[I", .fieldLink RX3 7 "TreapVersionsModel" "key" "[I"] ++ wsX30)
def wsX3_greatest : List Cond := .code yX3_greatest cX3_greatest 3 (some .int) :: ([.fieldLink RX3 22 "TreapVersionsModel" "right" "[I", .fieldLink RX3 7 "TreapVersionsModel" "key" "[I"] ++ wsX30)
def wsX3_join_r1 : List Cond := [Cond.fieldLink RX3 54 "TreapVersionsModel" "thrown" "I", Cond.fieldLink RX3 38 "TreapVersionsModel" "root" "[I", Cond.methodLink RX3 118 yX3_has, Cond.instanceMethod yX3_has, Cond.selects RX3 yX3_has yX3_has, Cond.initialized RX3, Cond.code yX3_has cX3_has 2 (some .boolean), Cond.fieldLink RX3 48 "TreapVersionsModel" "versions" "I", Cond.fieldLink RX3 35 "TreapVersionsModel" "isLive" "[Z", Cond.methodLink RX3 148 yX3_greatest, Cond.instanceMethod yX3_greatest, Cond.selects RX3 yX3_greatest yX3_greatest, Cond.code yX3_greatest cX3_greatest 3 (some .int), Cond.fieldLink RX3 22 "TreapVersionsModel" "right" "[I", Cond.fieldLink RX3 7 "TreapVersionsModel" "key" "[I", Cond.methodLink RX3 151 yX3_least, Cond.instanceMethod yX3_least, Cond.selects RX3 yX3_least yX3_least, Cond.code yX3_least cX3_least 3 (some .int), Cond.fieldLink RX3 19 "TreapVersionsModel" "left" "[I", Cond.methodLink RX3 121 yX3_freeHandle, Cond.instanceMethod yX3_freeHandle, Cond.selects RX3 yX3_freeHandle yX3_freeHandle, Cond.code yX3_freeHandle cX3_freeHandle 2 (some .int)]
def wsX3_join_r2 : List Cond := [Cond.methodLink RX3 124 yX3_begin, Cond.instanceMethod yX3_begin, Cond.selects RX3 yX3_begin yX3_begin, Cond.code yX3_begin cX3_begin 1 none, Cond.fieldLink RX3 68 "TreapVersionsModel" "fresh" "I", Cond.fieldLink RX3 71 "TreapVersionsModel" "next" "I", Cond.fieldLink RX3 74 "TreapVersionsModel" "tree" "I", Cond.fieldLink RX3 77 "TreapVersionsModel" "hole" "I", Cond.methodLink RX3 64 yX3_markAll, Cond.instanceMethod yX3_markAll, Cond.selects RX3 yX3_markAll yX3_markAll, Cond.code yX3_markAll cX3_markAll 3 (some .int), Cond.fieldLink RX3 25 "TreapVersionsModel" "live" "[Z", Cond.methodLink RX3 60 yX3_mark, Cond.instanceMethod yX3_mark, Cond.selects RX3 yX3_mark yX3_mark, Cond.code yX3_mark cX3_mark 5 (some .int), Cond.fieldLink RX3 57 "TreapVersionsModel" "top" "I", Cond.fieldLink RX3 32 "TreapVersionsModel" "stack" "[I", Cond.methodLink RX3 145 yX3_joint, Cond.instanceMethod yX3_joint, Cond.selects RX3 yX3_joint yX3_joint, Cond.code yX3_joint cX3_joint 7 none, Cond.methodLink RX3 114 yX3_above]
def wsX3_join_r3 : List Cond := [Cond.instanceMethod yX3_above, Cond.selects RX3 yX3_above yX3_above, Cond.code yX3_above cX3_above 3 (some .boolean), Cond.fieldLink RX3 16 "TreapVersionsModel" "weight" "[I", Cond.methodLink RX3 101 yX3_copy, Cond.instanceMethod yX3_copy, Cond.selects RX3 yX3_copy yX3_copy, Cond.code yX3_copy cX3_copy 2 (some .int), Cond.fieldLink RX3 13 "TreapVersionsModel" "value" "[I", Cond.methodLink RX3 80 yX3_make, Cond.instanceMethod yX3_make, Cond.selects RX3 yX3_make yX3_make, Cond.code yX3_make cX3_make 7 (some .int), Cond.methodLink RX3 105 yX3_hang, Cond.instanceMethod yX3_hang, Cond.selects RX3 yX3_hang yX3_hang, Cond.code yX3_hang cX3_hang 2 none, Cond.fieldLink RX3 84 "TreapVersionsModel" "holeRight" "Z", Cond.methodLink RX3 109 yX3_holeAt, Cond.instanceMethod yX3_holeAt, Cond.selects RX3 yX3_holeAt yX3_holeAt, Cond.code yX3_holeAt cX3_holeAt 3 none, Cond.methodLink RX3 142 yX3_settle, Cond.instanceMethod yX3_settle]
def wsX3_join_r4 : List Cond := [Cond.selects RX3 yX3_settle yX3_settle, Cond.code yX3_settle cX3_settle 2 (some .int), Cond.methodLink RX3 97 yX3_takes, Cond.instanceMethod yX3_takes, Cond.selects RX3 yX3_takes yX3_takes, Cond.code yX3_takes cX3_takes 2 (some .boolean), Cond.fieldLink RX3 91 "TreapVersionsModel" "used" "I", Cond.fieldLink RX3 44 "TreapVersionsModel" "room" "I", Cond.fieldLink RX3 94 "TreapVersionsModel" "sweeps" "I"]
def wsX3_join : List Cond := .code yX3_join cX3_join 4 (some .int) :: ((wsX3_join_r1 ++ (wsX3_join_r2 ++ (wsX3_join_r3 ++ wsX3_join_r4))) ++ wsX30)
def wsX3_drop : List Cond := .code yX3_drop cX3_drop 2 (some .boolean) :: ([.fieldLink RX3 54 "TreapVersionsModel" "thrown" "I", .fieldLink RX3 35 "TreapVersionsModel" "isLive" "[Z", .fieldLink RX3 38 "TreapVersionsModel" "root" "[I", .methodLink RX3 118 yX3_has, .instanceMethod yX3_has, .selects RX3 yX3_has yX3_has, .initialized RX3, .code yX3_has cX3_has 2 (some .boolean), .fieldLink RX3 48 "TreapVersionsModel" "versions" "I"] ++ wsX30)
def wsX3_isLive : List Cond := .code yX3_isLive cX3_isLive 2 (some .boolean) :: ([.fieldLink RX3 54 "TreapVersionsModel" "thrown" "I", .methodLink RX3 118 yX3_has, .instanceMethod yX3_has, .selects RX3 yX3_has yX3_has, .initialized RX3, .code yX3_has cX3_has 2 (some .boolean), .fieldLink RX3 48 "TreapVersionsModel" "versions" "I", .fieldLink RX3 35 "TreapVersionsModel" "isLive" "[Z"] ++ wsX30)
def wsX3_get : List Cond := .code yX3_get cX3_get 4 (some .int) :: ([.fieldLink RX3 38 "TreapVersionsModel" "root" "[I", .fieldLink RX3 54 "TreapVersionsModel" "thrown" "I", .fieldLink RX3 13 "TreapVersionsModel" "value" "[I", .methodLink RX3 118 yX3_has, .instanceMethod yX3_has, .selects RX3 yX3_has yX3_has, .initialized RX3, .code yX3_has cX3_has 2 (some .boolean), .fieldLink RX3 48 "TreapVersionsModel" "versions" "I", .fieldLink RX3 35 "TreapVersionsModel" "isLive" "[Z", .methodLink RX3 127 yX3_find, .instanceMethod yX3_find, .selects RX3 yX3_find yX3_find, .code yX3_find cX3_find 4 (some .int), .fieldLink RX3 7 "TreapVersionsModel" "key" "[I", .fieldLink RX3 22 "TreapVersionsModel" "right" "[I", .fieldLink RX3 19 "TreapVersionsModel" "left" "[I"] ++ wsX30)
def wsX3_contains : List Cond := .code yX3_contains cX3_contains 3 (some .boolean) :: ([.fieldLink RX3 54 "TreapVersionsModel" "thrown" "I", .fieldLink RX3 38 "TreapVersionsModel" "root" "[I", .methodLink RX3 118 yX3_has, .instanceMethod yX3_has, .selects RX3 yX3_has yX3_has, .initialized RX3, .code yX3_has cX3_has 2 (some .boolean), .fieldLink RX3 48 "TreapVersionsModel" "versions" "I", .fieldLink RX3 35 "TreapVersionsModel" "isLive" "[Z", .methodLink RX3 127 yX3_find, .instanceMethod yX3_find, .selects RX3 yX3_find yX3_find, .code yX3_find cX3_find 4 (some .int), .fieldLink RX3 7 "TreapVersionsModel" "key" "[I", .fieldLink RX3 22 "TreapVersionsModel" "right" "[I", .fieldLink RX3 19 "TreapVersionsModel" "left" "[I"] ++ wsX30)
def wsX3_clear : List Cond := .code yX3_clear cX3_clear 2 none :: ([.fieldLink RX3 29 "TreapVersionsModel" "other" "[Z"] ++ wsX30)
def wsX3_size : List Cond := .code yX3_size cX3_size 2 (some .int) :: ([.fieldLink RX3 54 "TreapVersionsModel" "thrown" "I", .fieldLink RX3 38 "TreapVersionsModel" "root" "[I", .fieldLink RX3 29 "TreapVersionsModel" "other" "[Z", .methodLink RX3 154 yX3_clear, .instanceMethod yX3_clear, .selects RX3 yX3_clear yX3_clear, .initialized RX3, .code yX3_clear cX3_clear 2 none, .methodLink RX3 118 yX3_has, .instanceMethod yX3_has, .selects RX3 yX3_has yX3_has, .code yX3_has cX3_has 2 (some .boolean), .fieldLink RX3 48 "TreapVersionsModel" "versions" "I", .fieldLink RX3 35 "TreapVersionsModel" "isLive" "[Z", .methodLink RX3 60 yX3_mark, .instanceMethod yX3_mark, .selects RX3 yX3_mark yX3_mark, .code yX3_mark cX3_mark 5 (some .int), .fieldLink RX3 57 "TreapVersionsModel" "top" "I", .fieldLink RX3 32 "TreapVersionsModel" "stack" "[I", .fieldLink RX3 19 "TreapVersionsModel" "left" "[I", .fieldLink RX3 22 "TreapVersionsModel" "right" "[I"] ++ wsX30)
def wsX3_floor : List Cond := .code yX3_floor cX3_floor 6 (some .int) :: ([.fieldLink RX3 54 "TreapVersionsModel" "thrown" "I", .fieldLink RX3 38 "TreapVersionsModel" "root" "[I", .fieldLink RX3 7 "TreapVersionsModel" "key" "[I", .fieldLink RX3 22 "TreapVersionsModel" "right" "[I", .fieldLink RX3 19 "TreapVersionsModel" "left" "[I", .methodLink RX3 118 yX3_has, .instanceMethod yX3_has, .selects RX3 yX3_has yX3_has, .initialized RX3, .code yX3_has cX3_has 2 (some .boolean), .fieldLink RX3 48 "TreapVersionsModel" "versions" "I", .fieldLink RX3 35 "TreapVersionsModel" "isLive" "[Z"] ++ wsX30)
def wsX3_rank : List Cond := .code yX3_rank cX3_rank 4 (some .int) :: ([.fieldLink RX3 29 "TreapVersionsModel" "other" "[Z", .fieldLink RX3 7 "TreapVersionsModel" "key" "[I"] ++ wsX30)
def wsX3_keyAt_r1 : List Cond := [Cond.fieldLink RX3 54 "TreapVersionsModel" "thrown" "I", Cond.fieldLink RX3 38 "TreapVersionsModel" "root" "[I", Cond.fieldLink RX3 29 "TreapVersionsModel" "other" "[Z", Cond.fieldLink RX3 7 "TreapVersionsModel" "key" "[I", Cond.methodLink RX3 118 yX3_has, Cond.instanceMethod yX3_has, Cond.selects RX3 yX3_has yX3_has, Cond.initialized RX3, Cond.code yX3_has cX3_has 2 (some .boolean), Cond.fieldLink RX3 48 "TreapVersionsModel" "versions" "I", Cond.fieldLink RX3 35 "TreapVersionsModel" "isLive" "[Z", Cond.methodLink RX3 157 yX3_fail, Cond.instanceMethod yX3_fail, Cond.selects RX3 yX3_fail yX3_fail, Cond.code yX3_fail cX3_fail 2 (some .int), Cond.methodLink RX3 154 yX3_clear, Cond.instanceMethod yX3_clear, Cond.selects RX3 yX3_clear yX3_clear, Cond.code yX3_clear cX3_clear 2 none, Cond.methodLink RX3 60 yX3_mark, Cond.instanceMethod yX3_mark, Cond.selects RX3 yX3_mark yX3_mark, Cond.code yX3_mark cX3_mark 5 (some .int), Cond.fieldLink RX3 57 "TreapVersionsModel" "top" "I"]
def wsX3_keyAt_r2 : List Cond := [Cond.fieldLink RX3 32 "TreapVersionsModel" "stack" "[I", Cond.fieldLink RX3 19 "TreapVersionsModel" "left" "[I", Cond.fieldLink RX3 22 "TreapVersionsModel" "right" "[I", Cond.methodLink RX3 160 yX3_rank, Cond.instanceMethod yX3_rank, Cond.selects RX3 yX3_rank yX3_rank, Cond.code yX3_rank cX3_rank 4 (some .int)]
def wsX3_keyAt : List Cond := .code yX3_keyAt cX3_keyAt 4 (some .int) :: ((wsX3_keyAt_r1 ++ wsX3_keyAt_r2) ++ wsX30)
def wsX3_sum : List Cond := .code yX3_sum cX3_sum 8 (some .long) :: ([.fieldLink RX3 54 "TreapVersionsModel" "thrown" "I", .fieldLink RX3 38 "TreapVersionsModel" "root" "[I", .fieldLink RX3 29 "TreapVersionsModel" "other" "[Z", .fieldLink RX3 7 "TreapVersionsModel" "key" "[I", .fieldLink RX3 13 "TreapVersionsModel" "value" "[I", .methodLink RX3 154 yX3_clear, .instanceMethod yX3_clear, .selects RX3 yX3_clear yX3_clear, .initialized RX3, .code yX3_clear cX3_clear 2 none, .methodLink RX3 118 yX3_has, .instanceMethod yX3_has, .selects RX3 yX3_has yX3_has, .code yX3_has cX3_has 2 (some .boolean), .fieldLink RX3 48 "TreapVersionsModel" "versions" "I", .fieldLink RX3 35 "TreapVersionsModel" "isLive" "[Z", .methodLink RX3 60 yX3_mark, .instanceMethod yX3_mark, .selects RX3 yX3_mark yX3_mark, .code yX3_mark cX3_mark 5 (some .int), .fieldLink RX3 57 "TreapVersionsModel" "top" "I", .fieldLink RX3 32 "TreapVersionsModel" "stack" "[I", .fieldLink RX3 19 "TreapVersionsModel" "left" "[I", .fieldLink RX3 22 "TreapVersionsModel" "right" "[I"] ++ wsX30)
def wsX3_depth : List Cond := .code yX3_depth cX3_depth 4 (some .int) :: ([.fieldLink RX3 38 "TreapVersionsModel" "root" "[I", .fieldLink RX3 54 "TreapVersionsModel" "thrown" "I", .fieldLink RX3 88 "TreapVersionsModel" "steps" "I", .methodLink RX3 118 yX3_has, .instanceMethod yX3_has, .selects RX3 yX3_has yX3_has, .initialized RX3, .code yX3_has cX3_has 2 (some .boolean), .fieldLink RX3 48 "TreapVersionsModel" "versions" "I", .fieldLink RX3 35 "TreapVersionsModel" "isLive" "[Z", .methodLink RX3 127 yX3_find, .instanceMethod yX3_find, .selects RX3 yX3_find yX3_find, .code yX3_find cX3_find 4 (some .int), .fieldLink RX3 7 "TreapVersionsModel" "key" "[I", .fieldLink RX3 22 "TreapVersionsModel" "right" "[I", .fieldLink RX3 19 "TreapVersionsModel" "left" "[I", .methodLink RX3 131 yX3_go, .instanceMethod yX3_go, .selects RX3 yX3_go yX3_go, .code yX3_go cX3_go 6 none, .fieldLink RX3 41 "TreapVersionsModel" "way" "[I"] ++ wsX30)
def wsX3_union : List Cond := .code yX3_union cX3_union 3 (some .int) :: ([.fieldLink RX3 38 "TreapVersionsModel" "root" "[I", .fieldLink RX3 29 "TreapVersionsModel" "other" "[Z", .methodLink RX3 154 yX3_clear, .instanceMethod yX3_clear, .selects RX3 yX3_clear yX3_clear, .initialized RX3, .code yX3_clear cX3_clear 2 none, .methodLink RX3 60 yX3_mark, .instanceMethod yX3_mark, .selects RX3 yX3_mark yX3_mark, .code yX3_mark cX3_mark 5 (some .int), .fieldLink RX3 57 "TreapVersionsModel" "top" "I", .fieldLink RX3 32 "TreapVersionsModel" "stack" "[I", .fieldLink RX3 19 "TreapVersionsModel" "left" "[I", .fieldLink RX3 22 "TreapVersionsModel" "right" "[I"] ++ wsX30)
def wsX3_shared_r1 : List Cond := [Cond.fieldLink RX3 54 "TreapVersionsModel" "thrown" "I", Cond.fieldLink RX3 38 "TreapVersionsModel" "root" "[I", Cond.fieldLink RX3 29 "TreapVersionsModel" "other" "[Z", Cond.methodLink RX3 118 yX3_has, Cond.instanceMethod yX3_has, Cond.selects RX3 yX3_has yX3_has, Cond.initialized RX3, Cond.code yX3_has cX3_has 2 (some .boolean), Cond.fieldLink RX3 48 "TreapVersionsModel" "versions" "I", Cond.fieldLink RX3 35 "TreapVersionsModel" "isLive" "[Z", Cond.methodLink RX3 154 yX3_clear, Cond.instanceMethod yX3_clear, Cond.selects RX3 yX3_clear yX3_clear, Cond.code yX3_clear cX3_clear 2 none, Cond.methodLink RX3 60 yX3_mark, Cond.instanceMethod yX3_mark, Cond.selects RX3 yX3_mark yX3_mark, Cond.code yX3_mark cX3_mark 5 (some .int), Cond.fieldLink RX3 57 "TreapVersionsModel" "top" "I", Cond.fieldLink RX3 32 "TreapVersionsModel" "stack" "[I", Cond.fieldLink RX3 19 "TreapVersionsModel" "left" "[I", Cond.fieldLink RX3 22 "TreapVersionsModel" "right" "[I", Cond.methodLink RX3 163 yX3_size, Cond.instanceMethod yX3_size]
def wsX3_shared_r2 : List Cond := [Cond.selects RX3 yX3_size yX3_size, Cond.code yX3_size cX3_size 2 (some .int), Cond.methodLink RX3 166 yX3_union, Cond.instanceMethod yX3_union, Cond.selects RX3 yX3_union yX3_union, Cond.code yX3_union cX3_union 3 (some .int)]
def wsX3_shared : List Cond := .code yX3_shared cX3_shared 4 (some .int) :: ((wsX3_shared_r1 ++ wsX3_shared_r2) ++ wsX30)
def wsX3_nodes : List Cond := .code yX3_nodes cX3_nodes 1 (some .int) :: ([.fieldLink RX3 54 "TreapVersionsModel" "thrown" "I", .methodLink RX3 64 yX3_markAll, .instanceMethod yX3_markAll, .selects RX3 yX3_markAll yX3_markAll, .initialized RX3, .code yX3_markAll cX3_markAll 3 (some .int), .fieldLink RX3 25 "TreapVersionsModel" "live" "[Z", .fieldLink RX3 48 "TreapVersionsModel" "versions" "I", .fieldLink RX3 35 "TreapVersionsModel" "isLive" "[Z", .fieldLink RX3 38 "TreapVersionsModel" "root" "[I", .methodLink RX3 60 yX3_mark, .instanceMethod yX3_mark, .selects RX3 yX3_mark yX3_mark, .code yX3_mark cX3_mark 5 (some .int), .fieldLink RX3 57 "TreapVersionsModel" "top" "I", .fieldLink RX3 32 "TreapVersionsModel" "stack" "[I", .fieldLink RX3 19 "TreapVersionsModel" "left" "[I", .fieldLink RX3 22 "TreapVersionsModel" "right" "[I"] ++ wsX30)
def wsX3_used : List Cond := .code yX3_used cX3_used 1 (some .int) :: ([.fieldLink RX3 54 "TreapVersionsModel" "thrown" "I", .fieldLink RX3 91 "TreapVersionsModel" "used" "I"] ++ wsX30)
def wsX3_sweeps : List Cond := .code yX3_sweeps cX3_sweeps 1 (some .int) :: ([.fieldLink RX3 54 "TreapVersionsModel" "thrown" "I", .fieldLink RX3 94 "TreapVersionsModel" "sweeps" "I"] ++ wsX30)
def wsL_cell : List Cond := .code yL_cell cL_cell 2 (some .int) :: ([])
def wsL_get_r1 : List Cond := [Cond.classLink RL 13 "java/util/NoSuchElementException", Cond.methodLink RL 7 yX2_get, Cond.instanceMethod yX2_get, Cond.selects RX2 yX2_get yX2_get, Cond.initialized RX2, Cond.code yX2_get cX2_get 4 (some .int), Cond.classLink RX2 103 "java/util/NoSuchElementException", Cond.initialized "java/util/NoSuchElementException", Cond.fieldLink RX2 14 "TreapVersions" "store" "LTreapVersions$Store;", Cond.fieldLink RX2 106 "TreapVersions$Store" "value" "[I", Cond.methodLink RX2 100 yX2_nodeWith, Cond.instanceMethod yX2_nodeWith, Cond.selects RX2 yX2_nodeWith yX2_nodeWith, Cond.code yX2_nodeWith cX2_nodeWith 3 (some .int), Cond.fieldLink RX2 23 "TreapVersions" "way" "LTreapVersions$Way;", Cond.fieldLink RX2 31 "TreapVersions" "roots" "[I", Cond.methodLink RX2 39 yX2_isLive, Cond.instanceMethod yX2_isLive, Cond.selects RX2 yX2_isLive yX2_isLive, Cond.code yX2_isLive cX2_isLive 2 (some .boolean), Cond.fieldLink RX2 27 "TreapVersions" "live" "[Z", Cond.methodLink RX2 43 yX1_noteTo, Cond.instanceMethod yX1_noteTo, Cond.selects RX1 yX1_noteTo yX1_noteTo]
def wsL_get_r2 : List Cond := [Cond.initialized RX1, Cond.code yX1_noteTo cX1_noteTo 4 (some .int), Cond.fieldLink RX1 25 "TreapVersions$Way" "length" "I", Cond.fieldLink RX1 21 "TreapVersions$Way" "noted" "[I", Cond.fieldLink RX1 9 "TreapVersions$Way" "store" "LTreapVersions$Store;", Cond.fieldLink RX1 28 "TreapVersions$Store" "key" "[I", Cond.fieldLink RX1 31 "TreapVersions$Store" "right" "[I", Cond.fieldLink RX1 34 "TreapVersions$Store" "left" "[I"]
def wsL_get : List Cond := .codeWith yL_get cL_get 5 (some .int) [(0, 10, 13, 13)] :: ((wsL_get_r1 ++ wsL_get_r2) ++ wsX20 ++ wsX00 ++ wsX10 ++ (vx_at0 RX2 105 "java/util/NoSuchElementException" ["java/lang/RuntimeException", "java/lang/Exception"]).filter goodWord)
def wsL_floor_r1 : List Cond := [Cond.classLink RL 13 "java/util/NoSuchElementException", Cond.methodLink RL 15 yX2_floor, Cond.instanceMethod yX2_floor, Cond.selects RX2 yX2_floor yX2_floor, Cond.initialized RX2, Cond.code yX2_floor cX2_floor 4 (some .int), Cond.classLink RX2 103 "java/util/NoSuchElementException", Cond.initialized "java/util/NoSuchElementException", Cond.fieldLink RX2 14 "TreapVersions" "store" "LTreapVersions$Store;", Cond.fieldLink RX2 31 "TreapVersions" "roots" "[I", Cond.fieldLink RX2 94 "TreapVersions$Store" "key" "[I", Cond.methodLink RX2 39 yX2_isLive, Cond.instanceMethod yX2_isLive, Cond.selects RX2 yX2_isLive yX2_isLive, Cond.code yX2_isLive cX2_isLive 2 (some .boolean), Cond.fieldLink RX2 27 "TreapVersions" "live" "[Z", Cond.methodLink RX2 109 yX0_floorNode, Cond.instanceMethod yX0_floorNode, Cond.selects RX0 yX0_floorNode yX0_floorNode, Cond.initialized RX0, Cond.code yX0_floorNode cX0_floorNode 6 (some .int), Cond.fieldLink RX0 9 "TreapVersions$Store" "room" "I", Cond.fieldLink RX0 15 "TreapVersions$Store" "key" "[I", Cond.fieldLink RX0 28 "TreapVersions$Store" "right" "[I"]
def wsL_floor_r2 : List Cond := [Cond.fieldLink RX0 25 "TreapVersions$Store" "left" "[I"]
def wsL_floor : List Cond := .codeWith yL_floor cL_floor 5 (some .int) [(0, 10, 13, 13)] :: ((wsL_floor_r1 ++ wsL_floor_r2) ++ wsX20 ++ wsX00 ++ (vx_at0 RX2 105 "java/util/NoSuchElementException" ["java/lang/RuntimeException", "java/lang/Exception"]).filter goodWord)
def wsL_keyAt_r1 : List Cond := [Cond.classLink RL 13 "java/util/NoSuchElementException", Cond.classLink RL 21 "java/lang/IndexOutOfBoundsException", Cond.methodLink RL 18 yX2_keyAt, Cond.instanceMethod yX2_keyAt, Cond.selects RX2 yX2_keyAt yX2_keyAt, Cond.initialized RX2, Cond.code yX2_keyAt cX2_keyAt 4 (some .int), Cond.classLink RX2 103 "java/util/NoSuchElementException", Cond.initialized "java/util/NoSuchElementException", Cond.classLink RX2 112 "java/lang/IndexOutOfBoundsException", Cond.initialized "java/lang/IndexOutOfBoundsException", Cond.fieldLink RX2 14 "TreapVersions" "store" "LTreapVersions$Store;", Cond.fieldLink RX2 31 "TreapVersions" "roots" "[I", Cond.fieldLink RX2 94 "TreapVersions$Store" "key" "[I", Cond.methodLink RX2 39 yX2_isLive, Cond.instanceMethod yX2_isLive, Cond.selects RX2 yX2_isLive yX2_isLive, Cond.code yX2_isLive cX2_isLive 2 (some .boolean), Cond.fieldLink RX2 27 "TreapVersions" "live" "[Z", Cond.methodLink RX2 91 yX0_nodeAt, Cond.instanceMethod yX0_nodeAt, Cond.selects RX0 yX0_nodeAt yX0_nodeAt, Cond.initialized RX0, Cond.code yX0_nodeAt cX0_nodeAt 6 (some .int)]
def wsL_keyAt_r2 : List Cond := [Cond.fieldLink RX0 9 "TreapVersions$Store" "room" "I", Cond.fieldLink RX0 31 "TreapVersions$Store" "count" "[I", Cond.fieldLink RX0 25 "TreapVersions$Store" "left" "[I", Cond.fieldLink RX0 28 "TreapVersions$Store" "right" "[I"]
def wsL_keyAt : List Cond := .codeWith yL_keyAt cL_keyAt 5 (some .int) [(0, 10, 13, 13), (0, 10, 17, 21)] :: ((wsL_keyAt_r1 ++ wsL_keyAt_r2) ++ wsX20 ++ wsX00 ++ (vx_at0 RX2 105 "java/util/NoSuchElementException" ["java/lang/RuntimeException", "java/lang/Exception"]).filter goodWord ++ (vx_at0 RX2 114 "java/lang/IndexOutOfBoundsException" ["java/lang/RuntimeException", "java/lang/Exception"]).filter goodWord)
def wsL_depth_r1 : List Cond := [Cond.classLink RL 13 "java/util/NoSuchElementException", Cond.methodLink RL 23 yX2_depth, Cond.instanceMethod yX2_depth, Cond.selects RX2 yX2_depth yX2_depth, Cond.initialized RX2, Cond.code yX2_depth cX2_depth 3 (some .int), Cond.classLink RX2 103 "java/util/NoSuchElementException", Cond.initialized "java/util/NoSuchElementException", Cond.fieldLink RX2 23 "TreapVersions" "way" "LTreapVersions$Way;", Cond.fieldLink RX2 47 "TreapVersions$Way" "length" "I", Cond.methodLink RX2 100 yX2_nodeWith, Cond.instanceMethod yX2_nodeWith, Cond.selects RX2 yX2_nodeWith yX2_nodeWith, Cond.code yX2_nodeWith cX2_nodeWith 3 (some .int), Cond.fieldLink RX2 31 "TreapVersions" "roots" "[I", Cond.methodLink RX2 39 yX2_isLive, Cond.instanceMethod yX2_isLive, Cond.selects RX2 yX2_isLive yX2_isLive, Cond.code yX2_isLive cX2_isLive 2 (some .boolean), Cond.fieldLink RX2 27 "TreapVersions" "live" "[Z", Cond.methodLink RX2 43 yX1_noteTo, Cond.instanceMethod yX1_noteTo, Cond.selects RX1 yX1_noteTo yX1_noteTo, Cond.initialized RX1]
def wsL_depth_r2 : List Cond := [Cond.code yX1_noteTo cX1_noteTo 4 (some .int), Cond.fieldLink RX1 25 "TreapVersions$Way" "length" "I", Cond.fieldLink RX1 21 "TreapVersions$Way" "noted" "[I", Cond.fieldLink RX1 9 "TreapVersions$Way" "store" "LTreapVersions$Store;", Cond.fieldLink RX1 28 "TreapVersions$Store" "key" "[I", Cond.fieldLink RX1 31 "TreapVersions$Store" "right" "[I", Cond.fieldLink RX1 34 "TreapVersions$Store" "left" "[I"]
def wsL_depth : List Cond := .codeWith yL_depth cL_depth 5 (some .int) [(0, 10, 13, 13)] :: ((wsL_depth_r1 ++ wsL_depth_r2) ++ wsX20 ++ wsX10 ++ wsX00 ++ (vx_at0 RX2 105 "java/util/NoSuchElementException" ["java/lang/RuntimeException", "java/lang/Exception"]).filter goodWord)
def wsL_law0_r1 : List Cond := [Cond.classLink RL 8 RX2, Cond.instantiable RX2 6, Cond.initialized RX2, Cond.classLink RL 35 RX3, Cond.instantiable RX3 24, Cond.initialized RX3, Cond.arrayClass .long, Cond.methodLink RL 26 yL_cell, Cond.static yL_cell, Cond.initialized RL, Cond.code yL_cell cL_cell 2 (some .int), Cond.methodLink RL 32 yX2_init, Cond.instanceMethod yX2_init, Cond.code yX2_init cX2_init 7 none, Cond.methodLink RX2 1 objectInit, Cond.instanceMethod objectInit, Cond.code objectInit ⟨#[0xb1]⟩ 1 none, Cond.classLink RX2 9 RX0, Cond.instantiable RX0 11, Cond.initialized RX0, Cond.fieldLink RX2 14 "TreapVersions" "store" "LTreapVersions$Store;", Cond.classLink RX2 18 RX1, Cond.instantiable RX1 3, Cond.initialized RX1]
def wsL_law0_r2 : List Cond := [Cond.fieldLink RX2 23 "TreapVersions" "way" "LTreapVersions$Way;", Cond.arrayClass .boolean, Cond.fieldLink RX2 27 "TreapVersions" "live" "[Z", Cond.arrayClass .int, Cond.fieldLink RX2 31 "TreapVersions" "roots" "[I", Cond.fieldLink RX2 35 "TreapVersions" "seed" "I", Cond.methodLink RX2 11 yX0_init, Cond.instanceMethod yX0_init, Cond.code yX0_init cX0_init 2 none, Cond.methodLink RX0 3 objectInit, Cond.fieldLink RX0 9 "TreapVersions$Store" "room" "I", Cond.fieldLink RX0 15 "TreapVersions$Store" "key" "[I", Cond.fieldLink RX0 19 "TreapVersions$Store" "value" "[I", Cond.fieldLink RX0 22 "TreapVersions$Store" "weight" "[I", Cond.fieldLink RX0 25 "TreapVersions$Store" "left" "[I", Cond.fieldLink RX0 28 "TreapVersions$Store" "right" "[I", Cond.fieldLink RX0 31 "TreapVersions$Store" "count" "[I", Cond.fieldLink RX0 34 "TreapVersions$Store" "taken" "[Z", Cond.fieldLink RX0 38 "TreapVersions$Store" "reached" "[Z", Cond.fieldLink RX0 41 "TreapVersions$Store" "pending" "[I", Cond.methodLink RX2 20 yX1_init, Cond.instanceMethod yX1_init, Cond.code yX1_init cX1_init 2 none, Cond.methodLink RX1 3 objectInit]
def wsL_law0_r3 : List Cond := [Cond.fieldLink RX1 9 "TreapVersions$Way" "store" "LTreapVersions$Store;", Cond.fieldLink RX1 15 "TreapVersions$Store" "room" "I", Cond.fieldLink RX1 21 "TreapVersions$Way" "noted" "[I", Cond.methodLink RL 37 yX3_init, Cond.instanceMethod yX3_init, Cond.code yX3_init cX3_init 5 none, Cond.methodLink RX3 1 objectInit, Cond.fieldLink RX3 7 "TreapVersionsModel" "key" "[I", Cond.fieldLink RX3 13 "TreapVersionsModel" "value" "[I", Cond.fieldLink RX3 16 "TreapVersionsModel" "weight" "[I", Cond.fieldLink RX3 19 "TreapVersionsModel" "left" "[I", Cond.fieldLink RX3 22 "TreapVersionsModel" "right" "[I", Cond.fieldLink RX3 25 "TreapVersionsModel" "live" "[Z", Cond.fieldLink RX3 29 "TreapVersionsModel" "other" "[Z", Cond.fieldLink RX3 32 "TreapVersionsModel" "stack" "[I", Cond.fieldLink RX3 35 "TreapVersionsModel" "isLive" "[Z", Cond.fieldLink RX3 38 "TreapVersionsModel" "root" "[I", Cond.fieldLink RX3 41 "TreapVersionsModel" "way" "[I", Cond.fieldLink RX3 44 "TreapVersionsModel" "room" "I", Cond.fieldLink RX3 48 "TreapVersionsModel" "versions" "I", Cond.fieldLink RX3 51 "TreapVersionsModel" "seed" "I", Cond.methodLink RL 38 yX2_put, Cond.instanceMethod yX2_put, Cond.selects RX2 yX2_put yX2_put]
def wsL_law0_r4 : List Cond := [Cond.code yX2_put cX2_put 7 (some .int), Cond.fieldLink RX2 47 "TreapVersions$Way" "length" "I", Cond.fieldLink RX2 62 "TreapVersions$Store" "weight" "[I", Cond.fieldLink RX2 65 "TreapVersions$Store" "left" "[I", Cond.fieldLink RX2 68 "TreapVersions$Store" "right" "[I", Cond.methodLink RX2 39 yX2_isLive, Cond.instanceMethod yX2_isLive, Cond.selects RX2 yX2_isLive yX2_isLive, Cond.code yX2_isLive cX2_isLive 2 (some .boolean), Cond.methodLink RX2 43 yX1_noteTo, Cond.instanceMethod yX1_noteTo, Cond.selects RX1 yX1_noteTo yX1_noteTo, Cond.code yX1_noteTo cX1_noteTo 4 (some .int), Cond.fieldLink RX1 25 "TreapVersions$Way" "length" "I", Cond.fieldLink RX1 28 "TreapVersions$Store" "key" "[I", Cond.fieldLink RX1 31 "TreapVersions$Store" "right" "[I", Cond.fieldLink RX1 34 "TreapVersions$Store" "left" "[I", Cond.methodLink RX2 50 yX2_handleFor, Cond.instanceMethod yX2_handleFor, Cond.selects RX2 yX2_handleFor yX2_handleFor, Cond.code yX2_handleFor cX2_handleFor 3 (some .int), Cond.methodLink RX2 134 yX2_makeRoom, Cond.instanceMethod yX2_makeRoom, Cond.selects RX2 yX2_makeRoom yX2_makeRoom]
def wsL_law0_r5 : List Cond := [Cond.code yX2_makeRoom cX2_makeRoom 2 (some .boolean), Cond.fieldLink RX2 131 "TreapVersions" "sweepCount" "I", Cond.methodLink RX2 137 yX0_hasRoom, Cond.instanceMethod yX0_hasRoom, Cond.selects RX0 yX0_hasRoom yX0_hasRoom, Cond.code yX0_hasRoom cX0_hasRoom 2 (some .boolean), Cond.fieldLink RX0 44 "TreapVersions$Store" "usedPlaces" "I", Cond.methodLink RX2 125 yX2_reachLive, Cond.instanceMethod yX2_reachLive, Cond.selects RX2 yX2_reachLive yX2_reachLive, Cond.code yX2_reachLive cX2_reachLive 3 (some .int), Cond.methodLink RX2 115 yX0_forgetReached, Cond.instanceMethod yX0_forgetReached, Cond.selects RX0 yX0_forgetReached yX0_forgetReached, Cond.code yX0_forgetReached cX0_forgetReached 2 none, Cond.methodLink RX2 118 yX0_reach, Cond.instanceMethod yX0_reach, Cond.selects RX0 yX0_reach yX0_reach, Cond.code yX0_reach cX0_reach 7 (some .int), Cond.methodLink RX0 55 yX0_pend, Cond.instanceMethod yX0_pend, Cond.selects RX0 yX0_pend yX0_pend, Cond.code yX0_pend cX0_pend 3 (some .int), Cond.methodLink RX2 140 yX0_keepReached]
def wsL_law0_r6 : List Cond := [Cond.instanceMethod yX0_keepReached, Cond.selects RX0 yX0_keepReached yX0_keepReached, Cond.code yX0_keepReached cX0_keepReached 2 none, Cond.methodLink RX2 54 yX2_drawWeight, Cond.instanceMethod yX2_drawWeight, Cond.selects RX2 yX2_drawWeight yX2_drawWeight, Cond.code yX2_drawWeight cX2_drawWeight 1 (some .int), Cond.constant RX2 143 (1103515245), Cond.methodLink RX2 58 yX1_placeNew, Cond.instanceMethod yX1_placeNew, Cond.selects RX1 yX1_placeNew yX1_placeNew, Cond.code yX1_placeNew cX1_placeNew 7 (some .int), Cond.methodLink RX1 47 yX0_goesAbove, Cond.instanceMethod yX0_goesAbove, Cond.selects RX0 yX0_goesAbove yX0_goesAbove, Cond.code yX0_goesAbove cX0_goesAbove 4 (some .boolean), Cond.methodLink RX1 51 yX0_copy, Cond.instanceMethod yX0_copy, Cond.selects RX0 yX0_copy yX0_copy, Cond.code yX0_copy cX0_copy 4 (some .int), Cond.methodLink RX0 51 yX0_fresh, Cond.instanceMethod yX0_fresh, Cond.selects RX0 yX0_fresh yX0_fresh, Cond.code yX0_fresh cX0_fresh 7 (some .int)]
def wsL_law0_r7 : List Cond := [Cond.methodLink RX0 47 yX0_freePlace, Cond.instanceMethod yX0_freePlace, Cond.selects RX0 yX0_freePlace yX0_freePlace, Cond.code yX0_freePlace cX0_freePlace 2 (some .int), Cond.methodLink RX1 55 yX0_fresh, Cond.methodLink RX2 71 yX0_fresh, Cond.methodLink RX2 75 yX1_copyOver, Cond.instanceMethod yX1_copyOver, Cond.selects RX1 yX1_copyOver yX1_copyOver, Cond.code yX1_copyOver cX1_copyOver 5 (some .int), Cond.methodLink RX2 78 yX2_open, Cond.instanceMethod yX2_open, Cond.selects RX2 yX2_open yX2_open, Cond.code yX2_open cX2_open 3 (some .int), Cond.methodLink RL 42 yX3_put, Cond.instanceMethod yX3_put, Cond.selects RX3 yX3_put yX3_put, Cond.code yX3_put cX3_put 6 (some .int), Cond.fieldLink RX3 54 "TreapVersionsModel" "thrown" "I", Cond.fieldLink RX3 88 "TreapVersionsModel" "steps" "I", Cond.fieldLink RX3 74 "TreapVersionsModel" "tree" "I", Cond.methodLink RX3 118 yX3_has, Cond.instanceMethod yX3_has, Cond.selects RX3 yX3_has yX3_has]
def wsL_law0_r8 : List Cond := [Cond.code yX3_has cX3_has 2 (some .boolean), Cond.methodLink RX3 121 yX3_freeHandle, Cond.instanceMethod yX3_freeHandle, Cond.selects RX3 yX3_freeHandle yX3_freeHandle, Cond.code yX3_freeHandle cX3_freeHandle 2 (some .int), Cond.methodLink RX3 124 yX3_begin, Cond.instanceMethod yX3_begin, Cond.selects RX3 yX3_begin yX3_begin, Cond.code yX3_begin cX3_begin 1 none, Cond.fieldLink RX3 68 "TreapVersionsModel" "fresh" "I", Cond.fieldLink RX3 71 "TreapVersionsModel" "next" "I", Cond.fieldLink RX3 77 "TreapVersionsModel" "hole" "I", Cond.methodLink RX3 64 yX3_markAll, Cond.instanceMethod yX3_markAll, Cond.selects RX3 yX3_markAll yX3_markAll, Cond.code yX3_markAll cX3_markAll 3 (some .int), Cond.methodLink RX3 60 yX3_mark, Cond.instanceMethod yX3_mark, Cond.selects RX3 yX3_mark yX3_mark, Cond.code yX3_mark cX3_mark 5 (some .int), Cond.fieldLink RX3 57 "TreapVersionsModel" "top" "I", Cond.methodLink RX3 127 yX3_find, Cond.instanceMethod yX3_find, Cond.selects RX3 yX3_find yX3_find]
def wsL_law0_r9 : List Cond := [Cond.code yX3_find cX3_find 4 (some .int), Cond.methodLink RX3 131 yX3_go, Cond.instanceMethod yX3_go, Cond.selects RX3 yX3_go yX3_go, Cond.code yX3_go cX3_go 6 none, Cond.methodLink RX3 97 yX3_takes, Cond.instanceMethod yX3_takes, Cond.selects RX3 yX3_takes yX3_takes, Cond.code yX3_takes cX3_takes 2 (some .boolean), Cond.fieldLink RX3 91 "TreapVersionsModel" "used" "I", Cond.fieldLink RX3 94 "TreapVersionsModel" "sweeps" "I", Cond.methodLink RX3 135 yX3_putValue, Cond.instanceMethod yX3_putValue, Cond.selects RX3 yX3_putValue yX3_putValue, Cond.code yX3_putValue cX3_putValue 5 none, Cond.methodLink RX3 101 yX3_copy, Cond.instanceMethod yX3_copy, Cond.selects RX3 yX3_copy yX3_copy, Cond.code yX3_copy cX3_copy 2 (some .int), Cond.methodLink RX3 80 yX3_make, Cond.instanceMethod yX3_make, Cond.selects RX3 yX3_make yX3_make, Cond.code yX3_make cX3_make 7 (some .int), Cond.methodLink RX3 105 yX3_hang]
def wsL_law0_r10 : List Cond := [Cond.instanceMethod yX3_hang, Cond.selects RX3 yX3_hang yX3_hang, Cond.code yX3_hang cX3_hang 2 none, Cond.fieldLink RX3 84 "TreapVersionsModel" "holeRight" "Z", Cond.methodLink RX3 109 yX3_holeAt, Cond.instanceMethod yX3_holeAt, Cond.selects RX3 yX3_holeAt yX3_holeAt, Cond.code yX3_holeAt cX3_holeAt 3 none, Cond.methodLink RX3 139 yX3_putNew, Cond.instanceMethod yX3_putNew, Cond.selects RX3 yX3_putNew yX3_putNew, Cond.code yX3_putNew cX3_putNew 8 none, Cond.constant RX3 113 (1103515245), Cond.methodLink RX3 114 yX3_above, Cond.instanceMethod yX3_above, Cond.selects RX3 yX3_above yX3_above, Cond.code yX3_above cX3_above 3 (some .boolean), Cond.methodLink RL 43 yX2_remove, Cond.instanceMethod yX2_remove, Cond.selects RX2 yX2_remove yX2_remove, Cond.code yX2_remove cX2_remove 5 (some .int), Cond.methodLink RX2 81 yX1_noteRemoval, Cond.instanceMethod yX1_noteRemoval, Cond.selects RX1 yX1_noteRemoval yX1_noteRemoval]
def wsL_law0_r11 : List Cond := [Cond.code yX1_noteRemoval cX1_noteRemoval 4 (some .int), Cond.methodLink RX1 37 yX1_noteTo, Cond.methodLink RX1 41 yX1_noteJoint, Cond.instanceMethod yX1_noteJoint, Cond.selects RX1 yX1_noteJoint yX1_noteJoint, Cond.code yX1_noteJoint cX1_noteJoint 5 (some .int), Cond.fieldLink RX1 44 "TreapVersions$Store" "weight" "[I", Cond.methodLink RL 46 yX3_remove, Cond.instanceMethod yX3_remove, Cond.selects RX3 yX3_remove yX3_remove, Cond.code yX3_remove cX3_remove 7 (some .int), Cond.methodLink RX3 142 yX3_settle, Cond.instanceMethod yX3_settle, Cond.selects RX3 yX3_settle yX3_settle, Cond.code yX3_settle cX3_settle 2 (some .int), Cond.methodLink RX3 145 yX3_joint, Cond.instanceMethod yX3_joint, Cond.selects RX3 yX3_joint yX3_joint, Cond.code yX3_joint cX3_joint 7 none, Cond.methodLink RL 47 yX2_below, Cond.instanceMethod yX2_below, Cond.selects RX2 yX2_below yX2_below, Cond.code yX2_below cX2_below 4 (some .int), Cond.methodLink RX2 84 yX1_noteLesser]
def wsL_law0_r12 : List Cond := [Cond.instanceMethod yX1_noteLesser, Cond.selects RX1 yX1_noteLesser yX1_noteLesser, Cond.code yX1_noteLesser cX1_noteLesser 5 none, Cond.methodLink RL 50 yX3_below, Cond.instanceMethod yX3_below, Cond.selects RX3 yX3_below yX3_below, Cond.code yX3_below cX3_below 6 (some .int), Cond.methodLink RL 51 yX2_join, Cond.instanceMethod yX2_join, Cond.selects RX2 yX2_join yX2_join, Cond.code yX2_join cX2_join 9 (some .int), Cond.fieldLink RX2 88 "TreapVersions$Store" "count" "[I", Cond.fieldLink RX2 94 "TreapVersions$Store" "key" "[I", Cond.methodLink RX2 91 yX0_nodeAt, Cond.instanceMethod yX0_nodeAt, Cond.selects RX0 yX0_nodeAt yX0_nodeAt, Cond.code yX0_nodeAt cX0_nodeAt 6 (some .int), Cond.methodLink RX2 97 yX1_noteJoint, Cond.methodLink RL 54 yX3_join, Cond.instanceMethod yX3_join, Cond.selects RX3 yX3_join yX3_join, Cond.code yX3_join cX3_join 4 (some .int), Cond.methodLink RX3 148 yX3_greatest, Cond.instanceMethod yX3_greatest]
def wsL_law0_r13 : List Cond := [Cond.selects RX3 yX3_greatest yX3_greatest, Cond.code yX3_greatest cX3_greatest 3 (some .int), Cond.methodLink RX3 151 yX3_least, Cond.instanceMethod yX3_least, Cond.selects RX3 yX3_least yX3_least, Cond.code yX3_least cX3_least 3 (some .int), Cond.methodLink RL 55 yX2_drop, Cond.instanceMethod yX2_drop, Cond.selects RX2 yX2_drop yX2_drop, Cond.code yX2_drop cX2_drop 2 (some .boolean), Cond.methodLink RL 59 yX3_drop, Cond.instanceMethod yX3_drop, Cond.selects RX3 yX3_drop yX3_drop, Cond.code yX3_drop cX3_drop 2 (some .boolean), Cond.methodLink RL 60 yX2_isLive, Cond.methodLink RL 63 yX3_isLive, Cond.instanceMethod yX3_isLive, Cond.selects RX3 yX3_isLive yX3_isLive, Cond.code yX3_isLive cX3_isLive 2 (some .boolean), Cond.methodLink RL 64 yL_get, Cond.static yL_get, Cond.codeWith yL_get cL_get 5 (some .int) [(0, 10, 13, 13)], Cond.classLink RL 13 "java/util/NoSuchElementException", Cond.methodLink RL 7 yX2_get]
def wsL_law0_r14 : List Cond := [Cond.instanceMethod yX2_get, Cond.selects RX2 yX2_get yX2_get, Cond.code yX2_get cX2_get 4 (some .int), Cond.classLink RX2 103 "java/util/NoSuchElementException", Cond.initialized "java/util/NoSuchElementException", Cond.fieldLink RX2 106 "TreapVersions$Store" "value" "[I", Cond.methodLink RX2 100 yX2_nodeWith, Cond.instanceMethod yX2_nodeWith, Cond.selects RX2 yX2_nodeWith yX2_nodeWith, Cond.code yX2_nodeWith cX2_nodeWith 3 (some .int), Cond.methodLink RL 67 yX3_get, Cond.instanceMethod yX3_get, Cond.selects RX3 yX3_get yX3_get, Cond.code yX3_get cX3_get 4 (some .int), Cond.methodLink RL 68 yX3_thrown, Cond.instanceMethod yX3_thrown, Cond.selects RX3 yX3_thrown yX3_thrown, Cond.code yX3_thrown cX3_thrown 1 (some .int), Cond.methodLink RL 72 yX2_contains, Cond.instanceMethod yX2_contains, Cond.selects RX2 yX2_contains yX2_contains, Cond.code yX2_contains cX2_contains 3 (some .boolean), Cond.methodLink RL 76 yX3_contains, Cond.instanceMethod yX3_contains]
def wsL_law0_r15 : List Cond := [Cond.selects RX3 yX3_contains yX3_contains, Cond.code yX3_contains cX3_contains 3 (some .boolean), Cond.methodLink RL 77 yX2_size, Cond.instanceMethod yX2_size, Cond.selects RX2 yX2_size yX2_size, Cond.code yX2_size cX2_size 2 (some .int), Cond.methodLink RL 81 yX3_size, Cond.instanceMethod yX3_size, Cond.selects RX3 yX3_size yX3_size, Cond.code yX3_size cX3_size 2 (some .int), Cond.methodLink RX3 154 yX3_clear, Cond.instanceMethod yX3_clear, Cond.selects RX3 yX3_clear yX3_clear, Cond.code yX3_clear cX3_clear 2 none, Cond.methodLink RL 82 yL_floor, Cond.static yL_floor, Cond.codeWith yL_floor cL_floor 5 (some .int) [(0, 10, 13, 13)], Cond.methodLink RL 15 yX2_floor, Cond.instanceMethod yX2_floor, Cond.selects RX2 yX2_floor yX2_floor, Cond.code yX2_floor cX2_floor 4 (some .int), Cond.methodLink RX2 109 yX0_floorNode, Cond.instanceMethod yX0_floorNode, Cond.selects RX0 yX0_floorNode yX0_floorNode]
def wsL_law0_r16 : List Cond := [Cond.code yX0_floorNode cX0_floorNode 6 (some .int), Cond.methodLink RL 84 yX3_floor, Cond.instanceMethod yX3_floor, Cond.selects RX3 yX3_floor yX3_floor, Cond.code yX3_floor cX3_floor 6 (some .int), Cond.methodLink RL 85 yL_keyAt, Cond.static yL_keyAt, Cond.codeWith yL_keyAt cL_keyAt 5 (some .int) [(0, 10, 13, 13), (0, 10, 17, 21)], Cond.classLink RL 21 "java/lang/IndexOutOfBoundsException", Cond.methodLink RL 18 yX2_keyAt, Cond.instanceMethod yX2_keyAt, Cond.selects RX2 yX2_keyAt yX2_keyAt, Cond.code yX2_keyAt cX2_keyAt 4 (some .int), Cond.classLink RX2 112 "java/lang/IndexOutOfBoundsException", Cond.initialized "java/lang/IndexOutOfBoundsException", Cond.methodLink RL 87 yX3_keyAt, Cond.instanceMethod yX3_keyAt, Cond.selects RX3 yX3_keyAt yX3_keyAt, Cond.code yX3_keyAt cX3_keyAt 4 (some .int), Cond.methodLink RX3 157 yX3_fail, Cond.instanceMethod yX3_fail, Cond.selects RX3 yX3_fail yX3_fail, Cond.code yX3_fail cX3_fail 2 (some .int), Cond.methodLink RX3 160 yX3_rank]
def wsL_law0_r17 : List Cond := [Cond.instanceMethod yX3_rank, Cond.selects RX3 yX3_rank yX3_rank, Cond.code yX3_rank cX3_rank 4 (some .int), Cond.methodLink RL 88 yX2_sum, Cond.instanceMethod yX2_sum, Cond.selects RX2 yX2_sum yX2_sum, Cond.code yX2_sum cX2_sum 4 (some .long), Cond.methodLink RX2 121 yX0_sumReached, Cond.instanceMethod yX0_sumReached, Cond.selects RX0 yX0_sumReached yX0_sumReached, Cond.code yX0_sumReached cX0_sumReached 6 (some .long), Cond.methodLink RL 92 yX3_sum, Cond.instanceMethod yX3_sum, Cond.selects RX3 yX3_sum yX3_sum, Cond.code yX3_sum cX3_sum 8 (some .long), Cond.methodLink RL 93 yL_depth, Cond.static yL_depth, Cond.codeWith yL_depth cL_depth 5 (some .int) [(0, 10, 13, 13)], Cond.methodLink RL 23 yX2_depth, Cond.instanceMethod yX2_depth, Cond.selects RX2 yX2_depth yX2_depth, Cond.code yX2_depth cX2_depth 3 (some .int), Cond.methodLink RL 95 yX3_depth, Cond.instanceMethod yX3_depth]
def wsL_law0_r18 : List Cond := [Cond.selects RX3 yX3_depth yX3_depth, Cond.code yX3_depth cX3_depth 4 (some .int), Cond.methodLink RL 96 yX2_shared, Cond.instanceMethod yX2_shared, Cond.selects RX2 yX2_shared yX2_shared, Cond.code yX2_shared cX2_shared 3 (some .int), Cond.methodLink RL 99 yX3_shared, Cond.instanceMethod yX3_shared, Cond.selects RX3 yX3_shared yX3_shared, Cond.code yX3_shared cX3_shared 4 (some .int), Cond.methodLink RX3 163 yX3_size, Cond.methodLink RX3 166 yX3_union, Cond.instanceMethod yX3_union, Cond.selects RX3 yX3_union yX3_union, Cond.code yX3_union cX3_union 3 (some .int), Cond.methodLink RL 100 yX2_nodes, Cond.instanceMethod yX2_nodes, Cond.selects RX2 yX2_nodes yX2_nodes, Cond.code yX2_nodes cX2_nodes 1 (some .int), Cond.methodLink RL 103 yX3_nodes, Cond.instanceMethod yX3_nodes, Cond.selects RX3 yX3_nodes yX3_nodes, Cond.code yX3_nodes cX3_nodes 1 (some .int), Cond.methodLink RL 104 yX2_used]
def wsL_law0_r19 : List Cond := [Cond.instanceMethod yX2_used, Cond.selects RX2 yX2_used yX2_used, Cond.code yX2_used cX2_used 1 (some .int), Cond.fieldLink RX2 128 "TreapVersions$Store" "usedPlaces" "I", Cond.methodLink RL 107 yX3_used, Cond.instanceMethod yX3_used, Cond.selects RX3 yX3_used yX3_used, Cond.code yX3_used cX3_used 1 (some .int), Cond.methodLink RL 108 yX2_sweeps, Cond.instanceMethod yX2_sweeps, Cond.selects RX2 yX2_sweeps yX2_sweeps, Cond.code yX2_sweeps cX2_sweeps 1 (some .int), Cond.methodLink RL 111 yX3_sweeps, Cond.instanceMethod yX3_sweeps, Cond.selects RX3 yX3_sweeps yX3_sweeps, Cond.code yX3_sweeps cX3_sweeps 1 (some .int)]
def wsL_law0 : List Cond := (wsL_law0_r1 ++ (wsL_law0_r2 ++ (wsL_law0_r3 ++ (wsL_law0_r4 ++ (wsL_law0_r5 ++ (wsL_law0_r6 ++ (wsL_law0_r7 ++ (wsL_law0_r8 ++ (wsL_law0_r9 ++ (wsL_law0_r10 ++ (wsL_law0_r11 ++ (wsL_law0_r12 ++ (wsL_law0_r13 ++ (wsL_law0_r14 ++ (wsL_law0_r15 ++ (wsL_law0_r16 ++ (wsL_law0_r17 ++ (wsL_law0_r18 ++ wsL_law0_r19)))))))))))))))))) ++ wsX20 ++ wsX30 ++ wsX00 ++ wsX10 ++ ([] : List Cond)
def wsL_law : List Cond := wsL_law0 ++ (vx_at0 RX2 105 "java/util/NoSuchElementException" ["java/lang/RuntimeException", "java/lang/Exception"]).filter goodWord ++ (vx_at0 RX2 114 "java/lang/IndexOutOfBoundsException" ["java/lang/RuntimeException", "java/lang/Exception"]).filter goodWord
abbrev vwCl : List vw_C := [(RX0, TX0, 11), (RX1, TX1, 3), (RX2, TX2, 6), (RX3, TX3, 24)]
end
section
theorem dX0_init_0 : decode cX0_init 0 = .ok (.aload_n 0, 1) := by decide +kernel
theorem dX0_init_1 : decode cX0_init 1 = .ok (.invokespecial 3, 3) := by decide +kernel
theorem dX0_init_4 : decode cX0_init 4 = .ok (.aload_n 0, 1) := by decide +kernel
theorem dX0_init_5 : decode cX0_init 5 = .ok (.iload_n 1, 1) := by decide +kernel
theorem dX0_init_6 : decode cX0_init 6 = .ok (.putfield 9, 3) := by decide +kernel
theorem dX0_init_9 : decode cX0_init 9 = .ok (.aload_n 0, 1) := by decide +kernel
theorem dX0_init_10 : decode cX0_init 10 = .ok (.iload_n 1, 1) := by decide +kernel
theorem dX0_init_11 : decode cX0_init 11 = .ok (.iconst 1, 1) := by decide +kernel
theorem dX0_init_12 : decode cX0_init 12 = .ok (.iadd, 1) := by decide +kernel
theorem dX0_init_13 : decode cX0_init 13 = .ok (.newarray .int, 2) := by decide +kernel
theorem dX0_init_15 : decode cX0_init 15 = .ok (.putfield 15, 3) := by decide +kernel
theorem dX0_init_18 : decode cX0_init 18 = .ok (.aload_n 0, 1) := by decide +kernel
theorem dX0_init_19 : decode cX0_init 19 = .ok (.iload_n 1, 1) := by decide +kernel
theorem dX0_init_20 : decode cX0_init 20 = .ok (.iconst 1, 1) := by decide +kernel
theorem dX0_init_21 : decode cX0_init 21 = .ok (.iadd, 1) := by decide +kernel
theorem dX0_init_22 : decode cX0_init 22 = .ok (.newarray .int, 2) := by decide +kernel
theorem dX0_init_24 : decode cX0_init 24 = .ok (.putfield 19, 3) := by decide +kernel
theorem dX0_init_27 : decode cX0_init 27 = .ok (.aload_n 0, 1) := by decide +kernel
theorem dX0_init_28 : decode cX0_init 28 = .ok (.iload_n 1, 1) := by decide +kernel
theorem dX0_init_29 : decode cX0_init 29 = .ok (.iconst 1, 1) := by decide +kernel
theorem dX0_init_30 : decode cX0_init 30 = .ok (.iadd, 1) := by decide +kernel
theorem dX0_init_31 : decode cX0_init 31 = .ok (.newarray .int, 2) := by decide +kernel
theorem dX0_init_33 : decode cX0_init 33 = .ok (.putfield 22, 3) := by decide +kernel
theorem dX0_init_36 : decode cX0_init 36 = .ok (.aload_n 0, 1) := by decide +kernel
theorem dX0_init_37 : decode cX0_init 37 = .ok (.iload_n 1, 1) := by decide +kernel
theorem dX0_init_38 : decode cX0_init 38 = .ok (.iconst 1, 1) := by decide +kernel
theorem dX0_init_39 : decode cX0_init 39 = .ok (.iadd, 1) := by decide +kernel
theorem dX0_init_40 : decode cX0_init 40 = .ok (.newarray .int, 2) := by decide +kernel
theorem dX0_init_42 : decode cX0_init 42 = .ok (.putfield 25, 3) := by decide +kernel
theorem dX0_init_45 : decode cX0_init 45 = .ok (.aload_n 0, 1) := by decide +kernel
theorem dX0_init_46 : decode cX0_init 46 = .ok (.iload_n 1, 1) := by decide +kernel
theorem dX0_init_47 : decode cX0_init 47 = .ok (.iconst 1, 1) := by decide +kernel
theorem dX0_init_48 : decode cX0_init 48 = .ok (.iadd, 1) := by decide +kernel
theorem dX0_init_49 : decode cX0_init 49 = .ok (.newarray .int, 2) := by decide +kernel
theorem dX0_init_51 : decode cX0_init 51 = .ok (.putfield 28, 3) := by decide +kernel
theorem dX0_init_54 : decode cX0_init 54 = .ok (.aload_n 0, 1) := by decide +kernel
theorem dX0_init_55 : decode cX0_init 55 = .ok (.iload_n 1, 1) := by decide +kernel
theorem dX0_init_56 : decode cX0_init 56 = .ok (.iconst 1, 1) := by decide +kernel
theorem dX0_init_57 : decode cX0_init 57 = .ok (.iadd, 1) := by decide +kernel
theorem dX0_init_58 : decode cX0_init 58 = .ok (.newarray .int, 2) := by decide +kernel
theorem dX0_init_60 : decode cX0_init 60 = .ok (.putfield 31, 3) := by decide +kernel
theorem dX0_init_63 : decode cX0_init 63 = .ok (.aload_n 0, 1) := by decide +kernel
theorem dX0_init_64 : decode cX0_init 64 = .ok (.iload_n 1, 1) := by decide +kernel
theorem dX0_init_65 : decode cX0_init 65 = .ok (.iconst 1, 1) := by decide +kernel
theorem dX0_init_66 : decode cX0_init 66 = .ok (.iadd, 1) := by decide +kernel
theorem dX0_init_67 : decode cX0_init 67 = .ok (.newarray .boolean, 2) := by decide +kernel
theorem dX0_init_69 : decode cX0_init 69 = .ok (.putfield 34, 3) := by decide +kernel
theorem dX0_init_72 : decode cX0_init 72 = .ok (.aload_n 0, 1) := by decide +kernel
theorem dX0_init_73 : decode cX0_init 73 = .ok (.iload_n 1, 1) := by decide +kernel
theorem dX0_init_74 : decode cX0_init 74 = .ok (.iconst 1, 1) := by decide +kernel
theorem dX0_init_75 : decode cX0_init 75 = .ok (.iadd, 1) := by decide +kernel
theorem dX0_init_76 : decode cX0_init 76 = .ok (.newarray .boolean, 2) := by decide +kernel
theorem dX0_init_78 : decode cX0_init 78 = .ok (.putfield 38, 3) := by decide +kernel
theorem dX0_init_81 : decode cX0_init 81 = .ok (.aload_n 0, 1) := by decide +kernel
theorem dX0_init_82 : decode cX0_init 82 = .ok (.iload_n 1, 1) := by decide +kernel
theorem dX0_init_83 : decode cX0_init 83 = .ok (.iconst 1, 1) := by decide +kernel
theorem dX0_init_84 : decode cX0_init 84 = .ok (.iadd, 1) := by decide +kernel
theorem dX0_init_85 : decode cX0_init 85 = .ok (.newarray .int, 2) := by decide +kernel
theorem dX0_init_87 : decode cX0_init 87 = .ok (.putfield 41, 3) := by decide +kernel
theorem dX0_init_90 : decode cX0_init 90 = .ok (.return_, 1) := by decide +kernel
theorem dX0_hasRoom_0 : decode cX0_hasRoom 0 = .ok (.aload_n 0, 1) := by decide +kernel
theorem dX0_hasRoom_1 : decode cX0_hasRoom 1 = .ok (.getfield 44, 3) := by decide +kernel
theorem dX0_hasRoom_4 : decode cX0_hasRoom 4 = .ok (.iload_n 1, 1) := by decide +kernel
theorem dX0_hasRoom_5 : decode cX0_hasRoom 5 = .ok (.iadd, 1) := by decide +kernel
theorem dX0_hasRoom_6 : decode cX0_hasRoom 6 = .ok (.aload_n 0, 1) := by decide +kernel
theorem dX0_hasRoom_7 : decode cX0_hasRoom 7 = .ok (.getfield 9, 3) := by decide +kernel
theorem dX0_hasRoom_10 : decode cX0_hasRoom 10 = .ok (.if_icmp .gt 7, 3) := by decide +kernel
theorem dX0_hasRoom_13 : decode cX0_hasRoom 13 = .ok (.iconst 1, 1) := by decide +kernel
theorem dX0_hasRoom_14 : decode cX0_hasRoom 14 = .ok (.goto 4, 3) := by decide +kernel
theorem dX0_hasRoom_17 : decode cX0_hasRoom 17 = .ok (.iconst 0, 1) := by decide +kernel
theorem dX0_hasRoom_18 : decode cX0_hasRoom 18 = .ok (.ireturn, 1) := by decide +kernel
set_option maxRecDepth 20000 in
theorem ggX0_fresh_X0_freePlace : GoodIn wsX0_fresh wsX0_freePlace := goodIn_r _ [13, 14, 1, 15, 16, 17, 18, 19, 20, 21, 22, 23, 24, 25] (by decide +kernel) (by decide +kernel)
set_option maxRecDepth 20000 in
theorem gX0_fresh_X0_freePlace : GoodIn wsX0_fresh (wsV RX0 47 RX0 yX0_freePlace wsX0_freePlace) := goodIn_app (goodIn_of _ (by decide +kernel)) ggX0_fresh_X0_freePlace
theorem dX0_fresh_0 : decode cX0_fresh 0 = .ok (.aload_n 0, 1) := by decide +kernel
theorem dX0_fresh_1 : decode cX0_fresh 1 = .ok (.invokevirtual 47, 3) := by decide +kernel
theorem dX0_fresh_4 : decode cX0_fresh 4 = .ok (.istore 6, 2) := by decide +kernel
theorem dX0_fresh_6 : decode cX0_fresh 6 = .ok (.aload_n 0, 1) := by decide +kernel
theorem dX0_fresh_7 : decode cX0_fresh 7 = .ok (.getfield 34, 3) := by decide +kernel
theorem dX0_fresh_10 : decode cX0_fresh 10 = .ok (.iload 6, 2) := by decide +kernel
theorem dX0_fresh_12 : decode cX0_fresh 12 = .ok (.iconst 1, 1) := by decide +kernel
theorem dX0_fresh_13 : decode cX0_fresh 13 = .ok (.bastore, 1) := by decide +kernel
theorem dX0_fresh_14 : decode cX0_fresh 14 = .ok (.aload_n 0, 1) := by decide +kernel
theorem dX0_fresh_15 : decode cX0_fresh 15 = .ok (.dup, 1) := by decide +kernel
theorem dX0_fresh_16 : decode cX0_fresh 16 = .ok (.getfield 44, 3) := by decide +kernel
theorem dX0_fresh_19 : decode cX0_fresh 19 = .ok (.iconst 1, 1) := by decide +kernel
theorem dX0_fresh_20 : decode cX0_fresh 20 = .ok (.iadd, 1) := by decide +kernel
theorem dX0_fresh_21 : decode cX0_fresh 21 = .ok (.putfield 44, 3) := by decide +kernel
theorem dX0_fresh_24 : decode cX0_fresh 24 = .ok (.aload_n 0, 1) := by decide +kernel
theorem dX0_fresh_25 : decode cX0_fresh 25 = .ok (.getfield 15, 3) := by decide +kernel
theorem dX0_fresh_28 : decode cX0_fresh 28 = .ok (.iload 6, 2) := by decide +kernel
theorem dX0_fresh_30 : decode cX0_fresh 30 = .ok (.iload_n 1, 1) := by decide +kernel
theorem dX0_fresh_31 : decode cX0_fresh 31 = .ok (.iastore, 1) := by decide +kernel
theorem dX0_fresh_32 : decode cX0_fresh 32 = .ok (.aload_n 0, 1) := by decide +kernel
theorem dX0_fresh_33 : decode cX0_fresh 33 = .ok (.getfield 19, 3) := by decide +kernel
theorem dX0_fresh_36 : decode cX0_fresh 36 = .ok (.iload 6, 2) := by decide +kernel
theorem dX0_fresh_38 : decode cX0_fresh 38 = .ok (.iload_n 2, 1) := by decide +kernel
theorem dX0_fresh_39 : decode cX0_fresh 39 = .ok (.iastore, 1) := by decide +kernel
theorem dX0_fresh_40 : decode cX0_fresh 40 = .ok (.aload_n 0, 1) := by decide +kernel
theorem dX0_fresh_41 : decode cX0_fresh 41 = .ok (.getfield 22, 3) := by decide +kernel
theorem dX0_fresh_44 : decode cX0_fresh 44 = .ok (.iload 6, 2) := by decide +kernel
theorem dX0_fresh_46 : decode cX0_fresh 46 = .ok (.iload_n 3, 1) := by decide +kernel
theorem dX0_fresh_47 : decode cX0_fresh 47 = .ok (.iastore, 1) := by decide +kernel
theorem dX0_fresh_48 : decode cX0_fresh 48 = .ok (.aload_n 0, 1) := by decide +kernel
theorem dX0_fresh_49 : decode cX0_fresh 49 = .ok (.getfield 25, 3) := by decide +kernel
theorem dX0_fresh_52 : decode cX0_fresh 52 = .ok (.iload 6, 2) := by decide +kernel
theorem dX0_fresh_54 : decode cX0_fresh 54 = .ok (.iload 4, 2) := by decide +kernel
theorem dX0_fresh_56 : decode cX0_fresh 56 = .ok (.iastore, 1) := by decide +kernel
theorem dX0_fresh_57 : decode cX0_fresh 57 = .ok (.aload_n 0, 1) := by decide +kernel
theorem dX0_fresh_58 : decode cX0_fresh 58 = .ok (.getfield 28, 3) := by decide +kernel
theorem dX0_fresh_61 : decode cX0_fresh 61 = .ok (.iload 6, 2) := by decide +kernel
theorem dX0_fresh_63 : decode cX0_fresh 63 = .ok (.iload 5, 2) := by decide +kernel
theorem dX0_fresh_65 : decode cX0_fresh 65 = .ok (.iastore, 1) := by decide +kernel
theorem dX0_fresh_66 : decode cX0_fresh 66 = .ok (.aload_n 0, 1) := by decide +kernel
theorem dX0_fresh_67 : decode cX0_fresh 67 = .ok (.getfield 31, 3) := by decide +kernel
theorem dX0_fresh_70 : decode cX0_fresh 70 = .ok (.iload 6, 2) := by decide +kernel
theorem dX0_fresh_72 : decode cX0_fresh 72 = .ok (.iconst 1, 1) := by decide +kernel
theorem dX0_fresh_73 : decode cX0_fresh 73 = .ok (.aload_n 0, 1) := by decide +kernel
theorem dX0_fresh_74 : decode cX0_fresh 74 = .ok (.getfield 31, 3) := by decide +kernel
theorem dX0_fresh_77 : decode cX0_fresh 77 = .ok (.iload 4, 2) := by decide +kernel
theorem dX0_fresh_79 : decode cX0_fresh 79 = .ok (.iaload, 1) := by decide +kernel
theorem dX0_fresh_80 : decode cX0_fresh 80 = .ok (.iadd, 1) := by decide +kernel
theorem dX0_fresh_81 : decode cX0_fresh 81 = .ok (.aload_n 0, 1) := by decide +kernel
theorem dX0_fresh_82 : decode cX0_fresh 82 = .ok (.getfield 31, 3) := by decide +kernel
theorem dX0_fresh_85 : decode cX0_fresh 85 = .ok (.iload 5, 2) := by decide +kernel
theorem dX0_fresh_87 : decode cX0_fresh 87 = .ok (.iaload, 1) := by decide +kernel
theorem dX0_fresh_88 : decode cX0_fresh 88 = .ok (.iadd, 1) := by decide +kernel
theorem dX0_fresh_89 : decode cX0_fresh 89 = .ok (.iastore, 1) := by decide +kernel
theorem dX0_fresh_90 : decode cX0_fresh 90 = .ok (.iload 6, 2) := by decide +kernel
theorem dX0_fresh_92 : decode cX0_fresh 92 = .ok (.ireturn, 1) := by decide +kernel
set_option maxRecDepth 20000 in
theorem ggX0_copy_X0_fresh : GoodIn wsX0_copy wsX0_fresh := goodIn_r _ [8, 9, 10, 1, 2, 3, 11, 12, 13, 14, 15, 16, 7, 17, 18, 19, 20, 21, 22, 23, 24, 25, 26, 27, 28, 29] (by decide +kernel) (by decide +kernel)
set_option maxRecDepth 20000 in
theorem gX0_copy_X0_fresh : GoodIn wsX0_copy (wsV RX0 51 RX0 yX0_fresh wsX0_fresh) := goodIn_app (goodIn_of _ (by decide +kernel)) ggX0_copy_X0_fresh
theorem dX0_copy_0 : decode cX0_copy 0 = .ok (.aload_n 0, 1) := by decide +kernel
theorem dX0_copy_1 : decode cX0_copy 1 = .ok (.aload_n 0, 1) := by decide +kernel
theorem dX0_copy_2 : decode cX0_copy 2 = .ok (.getfield 15, 3) := by decide +kernel
theorem dX0_copy_5 : decode cX0_copy 5 = .ok (.iload_n 1, 1) := by decide +kernel
theorem dX0_copy_6 : decode cX0_copy 6 = .ok (.iaload, 1) := by decide +kernel
theorem dX0_copy_7 : decode cX0_copy 7 = .ok (.aload_n 0, 1) := by decide +kernel
theorem dX0_copy_8 : decode cX0_copy 8 = .ok (.getfield 19, 3) := by decide +kernel
theorem dX0_copy_11 : decode cX0_copy 11 = .ok (.iload_n 1, 1) := by decide +kernel
theorem dX0_copy_12 : decode cX0_copy 12 = .ok (.iaload, 1) := by decide +kernel
theorem dX0_copy_13 : decode cX0_copy 13 = .ok (.aload_n 0, 1) := by decide +kernel
theorem dX0_copy_14 : decode cX0_copy 14 = .ok (.getfield 22, 3) := by decide +kernel
theorem dX0_copy_17 : decode cX0_copy 17 = .ok (.iload_n 1, 1) := by decide +kernel
theorem dX0_copy_18 : decode cX0_copy 18 = .ok (.iaload, 1) := by decide +kernel
theorem dX0_copy_19 : decode cX0_copy 19 = .ok (.iload_n 2, 1) := by decide +kernel
theorem dX0_copy_20 : decode cX0_copy 20 = .ok (.iload_n 3, 1) := by decide +kernel
theorem dX0_copy_21 : decode cX0_copy 21 = .ok (.invokevirtual 51, 3) := by decide +kernel
theorem dX0_copy_24 : decode cX0_copy 24 = .ok (.ireturn, 1) := by decide +kernel
theorem dX0_freePlace_0 : decode cX0_freePlace 0 = .ok (.iconst 1, 1) := by decide +kernel
theorem dX0_freePlace_1 : decode cX0_freePlace 1 = .ok (.istore_n 1, 1) := by decide +kernel
theorem dX0_freePlace_2 : decode cX0_freePlace 2 = .ok (.iload_n 1, 1) := by decide +kernel
theorem dX0_freePlace_3 : decode cX0_freePlace 3 = .ok (.aload_n 0, 1) := by decide +kernel
theorem dX0_freePlace_4 : decode cX0_freePlace 4 = .ok (.getfield 9, 3) := by decide +kernel
theorem dX0_freePlace_7 : decode cX0_freePlace 7 = .ok (.if_icmp .ge 18, 3) := by decide +kernel
theorem dX0_freePlace_10 : decode cX0_freePlace 10 = .ok (.aload_n 0, 1) := by decide +kernel
theorem dX0_freePlace_11 : decode cX0_freePlace 11 = .ok (.getfield 34, 3) := by decide +kernel
theorem dX0_freePlace_14 : decode cX0_freePlace 14 = .ok (.iload_n 1, 1) := by decide +kernel
theorem dX0_freePlace_15 : decode cX0_freePlace 15 = .ok (.baload, 1) := by decide +kernel
theorem dX0_freePlace_16 : decode cX0_freePlace 16 = .ok (.ifCond .eq 9, 3) := by decide +kernel
theorem dX0_freePlace_19 : decode cX0_freePlace 19 = .ok (.iinc 1 1, 3) := by decide +kernel
theorem dX0_freePlace_22 : decode cX0_freePlace 22 = .ok (.goto (-20), 3) := by decide +kernel
theorem dX0_freePlace_25 : decode cX0_freePlace 25 = .ok (.iload_n 1, 1) := by decide +kernel
theorem dX0_freePlace_26 : decode cX0_freePlace 26 = .ok (.ireturn, 1) := by decide +kernel
theorem dX0_goesAbove_0 : decode cX0_goesAbove 0 = .ok (.aload_n 0, 1) := by decide +kernel
theorem dX0_goesAbove_1 : decode cX0_goesAbove 1 = .ok (.getfield 22, 3) := by decide +kernel
theorem dX0_goesAbove_4 : decode cX0_goesAbove 4 = .ok (.iload_n 1, 1) := by decide +kernel
theorem dX0_goesAbove_5 : decode cX0_goesAbove 5 = .ok (.iaload, 1) := by decide +kernel
theorem dX0_goesAbove_6 : decode cX0_goesAbove 6 = .ok (.iload_n 2, 1) := by decide +kernel
theorem dX0_goesAbove_7 : decode cX0_goesAbove 7 = .ok (.if_icmp .eq 21, 3) := by decide +kernel
theorem dX0_goesAbove_10 : decode cX0_goesAbove 10 = .ok (.aload_n 0, 1) := by decide +kernel
theorem dX0_goesAbove_11 : decode cX0_goesAbove 11 = .ok (.getfield 22, 3) := by decide +kernel
theorem dX0_goesAbove_14 : decode cX0_goesAbove 14 = .ok (.iload_n 1, 1) := by decide +kernel
theorem dX0_goesAbove_15 : decode cX0_goesAbove 15 = .ok (.iaload, 1) := by decide +kernel
theorem dX0_goesAbove_16 : decode cX0_goesAbove 16 = .ok (.iload_n 2, 1) := by decide +kernel
theorem dX0_goesAbove_17 : decode cX0_goesAbove 17 = .ok (.if_icmp .le 7, 3) := by decide +kernel
theorem dX0_goesAbove_20 : decode cX0_goesAbove 20 = .ok (.iconst 1, 1) := by decide +kernel
theorem dX0_goesAbove_21 : decode cX0_goesAbove 21 = .ok (.goto 22, 3) := by decide +kernel
theorem dX0_goesAbove_24 : decode cX0_goesAbove 24 = .ok (.iconst 0, 1) := by decide +kernel
theorem dX0_goesAbove_25 : decode cX0_goesAbove 25 = .ok (.goto 18, 3) := by decide +kernel
theorem dX0_goesAbove_28 : decode cX0_goesAbove 28 = .ok (.aload_n 0, 1) := by decide +kernel
theorem dX0_goesAbove_29 : decode cX0_goesAbove 29 = .ok (.getfield 15, 3) := by decide +kernel
theorem dX0_goesAbove_32 : decode cX0_goesAbove 32 = .ok (.iload_n 1, 1) := by decide +kernel
theorem dX0_goesAbove_33 : decode cX0_goesAbove 33 = .ok (.iaload, 1) := by decide +kernel
theorem dX0_goesAbove_34 : decode cX0_goesAbove 34 = .ok (.iload_n 3, 1) := by decide +kernel
theorem dX0_goesAbove_35 : decode cX0_goesAbove 35 = .ok (.if_icmp .ge 7, 3) := by decide +kernel
theorem dX0_goesAbove_38 : decode cX0_goesAbove 38 = .ok (.iconst 1, 1) := by decide +kernel
theorem dX0_goesAbove_39 : decode cX0_goesAbove 39 = .ok (.goto 4, 3) := by decide +kernel
theorem dX0_goesAbove_42 : decode cX0_goesAbove 42 = .ok (.iconst 0, 1) := by decide +kernel
theorem dX0_goesAbove_43 : decode cX0_goesAbove 43 = .ok (.ireturn, 1) := by decide +kernel
theorem dX0_forgetReached_0 : decode cX0_forgetReached 0 = .ok (.iconst 1, 1) := by decide +kernel
theorem dX0_forgetReached_1 : decode cX0_forgetReached 1 = .ok (.istore_n 1, 1) := by decide +kernel
theorem dX0_forgetReached_2 : decode cX0_forgetReached 2 = .ok (.iload_n 1, 1) := by decide +kernel
theorem dX0_forgetReached_3 : decode cX0_forgetReached 3 = .ok (.aload_n 0, 1) := by decide +kernel
theorem dX0_forgetReached_4 : decode cX0_forgetReached 4 = .ok (.getfield 9, 3) := by decide +kernel
theorem dX0_forgetReached_7 : decode cX0_forgetReached 7 = .ok (.if_icmp .gt 16, 3) := by decide +kernel
theorem dX0_forgetReached_10 : decode cX0_forgetReached 10 = .ok (.aload_n 0, 1) := by decide +kernel
theorem dX0_forgetReached_11 : decode cX0_forgetReached 11 = .ok (.getfield 38, 3) := by decide +kernel
theorem dX0_forgetReached_14 : decode cX0_forgetReached 14 = .ok (.iload_n 1, 1) := by decide +kernel
theorem dX0_forgetReached_15 : decode cX0_forgetReached 15 = .ok (.iconst 0, 1) := by decide +kernel
theorem dX0_forgetReached_16 : decode cX0_forgetReached 16 = .ok (.bastore, 1) := by decide +kernel
theorem dX0_forgetReached_17 : decode cX0_forgetReached 17 = .ok (.iinc 1 1, 3) := by decide +kernel
theorem dX0_forgetReached_20 : decode cX0_forgetReached 20 = .ok (.goto (-18), 3) := by decide +kernel
theorem dX0_forgetReached_23 : decode cX0_forgetReached 23 = .ok (.return_, 1) := by decide +kernel
set_option maxRecDepth 20000 in
theorem ggX0_reach_X0_pend : GoodIn wsX0_reach wsX0_pend := goodIn_r _ [9, 10, 2, 11, 12, 13, 14, 15, 16, 17, 18, 19, 20, 21] (by decide +kernel) (by decide +kernel)
set_option maxRecDepth 20000 in
theorem gX0_reach_X0_pend : GoodIn wsX0_reach (wsV RX0 55 RX0 yX0_pend wsX0_pend) := goodIn_app (goodIn_of _ (by decide +kernel)) ggX0_reach_X0_pend
theorem dX0_reach_0 : decode cX0_reach 0 = .ok (.aload_n 0, 1) := by decide +kernel
theorem dX0_reach_1 : decode cX0_reach 1 = .ok (.iload_n 1, 1) := by decide +kernel
theorem dX0_reach_2 : decode cX0_reach 2 = .ok (.iconst 0, 1) := by decide +kernel
theorem dX0_reach_3 : decode cX0_reach 3 = .ok (.invokevirtual 55, 3) := by decide +kernel
theorem dX0_reach_6 : decode cX0_reach 6 = .ok (.istore_n 2, 1) := by decide +kernel
theorem dX0_reach_7 : decode cX0_reach 7 = .ok (.iload_n 2, 1) := by decide +kernel
theorem dX0_reach_8 : decode cX0_reach 8 = .ok (.istore_n 3, 1) := by decide +kernel
theorem dX0_reach_9 : decode cX0_reach 9 = .ok (.iconst 0, 1) := by decide +kernel
theorem dX0_reach_10 : decode cX0_reach 10 = .ok (.istore 4, 2) := by decide +kernel
theorem dX0_reach_12 : decode cX0_reach 12 = .ok (.iload 4, 2) := by decide +kernel
theorem dX0_reach_14 : decode cX0_reach 14 = .ok (.aload_n 0, 1) := by decide +kernel
theorem dX0_reach_15 : decode cX0_reach 15 = .ok (.getfield 9, 3) := by decide +kernel
theorem dX0_reach_18 : decode cX0_reach 18 = .ok (.if_icmp .ge 68, 3) := by decide +kernel
theorem dX0_reach_21 : decode cX0_reach 21 = .ok (.iload_n 3, 1) := by decide +kernel
theorem dX0_reach_22 : decode cX0_reach 22 = .ok (.ifCond .le 64, 3) := by decide +kernel
theorem dX0_reach_25 : decode cX0_reach 25 = .ok (.iinc 3 (-1), 3) := by decide +kernel
theorem dX0_reach_28 : decode cX0_reach 28 = .ok (.aload_n 0, 1) := by decide +kernel
theorem dX0_reach_29 : decode cX0_reach 29 = .ok (.getfield 41, 3) := by decide +kernel
theorem dX0_reach_32 : decode cX0_reach 32 = .ok (.iload_n 3, 1) := by decide +kernel
theorem dX0_reach_33 : decode cX0_reach 33 = .ok (.iaload, 1) := by decide +kernel
theorem dX0_reach_34 : decode cX0_reach 34 = .ok (.istore 5, 2) := by decide +kernel
theorem dX0_reach_36 : decode cX0_reach 36 = .ok (.aload_n 0, 1) := by decide +kernel
theorem dX0_reach_37 : decode cX0_reach 37 = .ok (.aload_n 0, 1) := by decide +kernel
theorem dX0_reach_38 : decode cX0_reach 38 = .ok (.getfield 25, 3) := by decide +kernel
theorem dX0_reach_41 : decode cX0_reach 41 = .ok (.iload 5, 2) := by decide +kernel
theorem dX0_reach_43 : decode cX0_reach 43 = .ok (.iaload, 1) := by decide +kernel
theorem dX0_reach_44 : decode cX0_reach 44 = .ok (.iload_n 3, 1) := by decide +kernel
theorem dX0_reach_45 : decode cX0_reach 45 = .ok (.invokevirtual 55, 3) := by decide +kernel
theorem dX0_reach_48 : decode cX0_reach 48 = .ok (.istore 6, 2) := by decide +kernel
theorem dX0_reach_50 : decode cX0_reach 50 = .ok (.iload 6, 2) := by decide +kernel
theorem dX0_reach_52 : decode cX0_reach 52 = .ok (.aload_n 0, 1) := by decide +kernel
theorem dX0_reach_53 : decode cX0_reach 53 = .ok (.aload_n 0, 1) := by decide +kernel
theorem dX0_reach_54 : decode cX0_reach 54 = .ok (.getfield 28, 3) := by decide +kernel
theorem dX0_reach_57 : decode cX0_reach 57 = .ok (.iload 5, 2) := by decide +kernel
theorem dX0_reach_59 : decode cX0_reach 59 = .ok (.iaload, 1) := by decide +kernel
theorem dX0_reach_60 : decode cX0_reach 60 = .ok (.iload_n 3, 1) := by decide +kernel
theorem dX0_reach_61 : decode cX0_reach 61 = .ok (.iload 6, 2) := by decide +kernel
theorem dX0_reach_63 : decode cX0_reach 63 = .ok (.iadd, 1) := by decide +kernel
theorem dX0_reach_64 : decode cX0_reach 64 = .ok (.invokevirtual 55, 3) := by decide +kernel
theorem dX0_reach_67 : decode cX0_reach 67 = .ok (.iadd, 1) := by decide +kernel
theorem dX0_reach_68 : decode cX0_reach 68 = .ok (.istore 6, 2) := by decide +kernel
theorem dX0_reach_70 : decode cX0_reach 70 = .ok (.iload_n 3, 1) := by decide +kernel
theorem dX0_reach_71 : decode cX0_reach 71 = .ok (.iload 6, 2) := by decide +kernel
theorem dX0_reach_73 : decode cX0_reach 73 = .ok (.iadd, 1) := by decide +kernel
theorem dX0_reach_74 : decode cX0_reach 74 = .ok (.istore_n 3, 1) := by decide +kernel
theorem dX0_reach_75 : decode cX0_reach 75 = .ok (.iload_n 2, 1) := by decide +kernel
theorem dX0_reach_76 : decode cX0_reach 76 = .ok (.iload 6, 2) := by decide +kernel
theorem dX0_reach_78 : decode cX0_reach 78 = .ok (.iadd, 1) := by decide +kernel
theorem dX0_reach_79 : decode cX0_reach 79 = .ok (.istore_n 2, 1) := by decide +kernel
theorem dX0_reach_80 : decode cX0_reach 80 = .ok (.iinc 4 1, 3) := by decide +kernel
theorem dX0_reach_83 : decode cX0_reach 83 = .ok (.goto (-71), 3) := by decide +kernel
theorem dX0_reach_86 : decode cX0_reach 86 = .ok (.iload_n 2, 1) := by decide +kernel
theorem dX0_reach_87 : decode cX0_reach 87 = .ok (.ireturn, 1) := by decide +kernel
theorem dX0_pend_0 : decode cX0_pend 0 = .ok (.iload_n 1, 1) := by decide +kernel
theorem dX0_pend_1 : decode cX0_pend 1 = .ok (.ifCond .eq 12, 3) := by decide +kernel
theorem dX0_pend_4 : decode cX0_pend 4 = .ok (.aload_n 0, 1) := by decide +kernel
theorem dX0_pend_5 : decode cX0_pend 5 = .ok (.getfield 38, 3) := by decide +kernel
theorem dX0_pend_8 : decode cX0_pend 8 = .ok (.iload_n 1, 1) := by decide +kernel
theorem dX0_pend_9 : decode cX0_pend 9 = .ok (.baload, 1) := by decide +kernel
theorem dX0_pend_10 : decode cX0_pend 10 = .ok (.ifCond .eq 5, 3) := by decide +kernel
theorem dX0_pend_13 : decode cX0_pend 13 = .ok (.iconst 0, 1) := by decide +kernel
theorem dX0_pend_14 : decode cX0_pend 14 = .ok (.ireturn, 1) := by decide +kernel
theorem dX0_pend_15 : decode cX0_pend 15 = .ok (.aload_n 0, 1) := by decide +kernel
theorem dX0_pend_16 : decode cX0_pend 16 = .ok (.getfield 38, 3) := by decide +kernel
theorem dX0_pend_19 : decode cX0_pend 19 = .ok (.iload_n 1, 1) := by decide +kernel
theorem dX0_pend_20 : decode cX0_pend 20 = .ok (.iconst 1, 1) := by decide +kernel
theorem dX0_pend_21 : decode cX0_pend 21 = .ok (.bastore, 1) := by decide +kernel
theorem dX0_pend_22 : decode cX0_pend 22 = .ok (.aload_n 0, 1) := by decide +kernel
theorem dX0_pend_23 : decode cX0_pend 23 = .ok (.getfield 41, 3) := by decide +kernel
theorem dX0_pend_26 : decode cX0_pend 26 = .ok (.iload_n 2, 1) := by decide +kernel
theorem dX0_pend_27 : decode cX0_pend 27 = .ok (.iload_n 1, 1) := by decide +kernel
theorem dX0_pend_28 : decode cX0_pend 28 = .ok (.iastore, 1) := by decide +kernel
theorem dX0_pend_29 : decode cX0_pend 29 = .ok (.iconst 1, 1) := by decide +kernel
theorem dX0_pend_30 : decode cX0_pend 30 = .ok (.ireturn, 1) := by decide +kernel
theorem dX0_keepReached_0 : decode cX0_keepReached 0 = .ok (.aload_n 0, 1) := by decide +kernel
theorem dX0_keepReached_1 : decode cX0_keepReached 1 = .ok (.iconst 0, 1) := by decide +kernel
theorem dX0_keepReached_2 : decode cX0_keepReached 2 = .ok (.putfield 44, 3) := by decide +kernel
theorem dX0_keepReached_5 : decode cX0_keepReached 5 = .ok (.iconst 1, 1) := by decide +kernel
theorem dX0_keepReached_6 : decode cX0_keepReached 6 = .ok (.istore_n 1, 1) := by decide +kernel
theorem dX0_keepReached_7 : decode cX0_keepReached 7 = .ok (.iload_n 1, 1) := by decide +kernel
theorem dX0_keepReached_8 : decode cX0_keepReached 8 = .ok (.aload_n 0, 1) := by decide +kernel
theorem dX0_keepReached_9 : decode cX0_keepReached 9 = .ok (.getfield 9, 3) := by decide +kernel
theorem dX0_keepReached_12 : decode cX0_keepReached 12 = .ok (.if_icmp .gt 44, 3) := by decide +kernel
theorem dX0_keepReached_15 : decode cX0_keepReached 15 = .ok (.aload_n 0, 1) := by decide +kernel
theorem dX0_keepReached_16 : decode cX0_keepReached 16 = .ok (.getfield 34, 3) := by decide +kernel
theorem dX0_keepReached_19 : decode cX0_keepReached 19 = .ok (.iload_n 1, 1) := by decide +kernel
theorem dX0_keepReached_20 : decode cX0_keepReached 20 = .ok (.aload_n 0, 1) := by decide +kernel
theorem dX0_keepReached_21 : decode cX0_keepReached 21 = .ok (.getfield 38, 3) := by decide +kernel
theorem dX0_keepReached_24 : decode cX0_keepReached 24 = .ok (.iload_n 1, 1) := by decide +kernel
theorem dX0_keepReached_25 : decode cX0_keepReached 25 = .ok (.baload, 1) := by decide +kernel
theorem dX0_keepReached_26 : decode cX0_keepReached 26 = .ok (.bastore, 1) := by decide +kernel
theorem dX0_keepReached_27 : decode cX0_keepReached 27 = .ok (.aload_n 0, 1) := by decide +kernel
theorem dX0_keepReached_28 : decode cX0_keepReached 28 = .ok (.dup, 1) := by decide +kernel
theorem dX0_keepReached_29 : decode cX0_keepReached 29 = .ok (.getfield 44, 3) := by decide +kernel
theorem dX0_keepReached_32 : decode cX0_keepReached 32 = .ok (.aload_n 0, 1) := by decide +kernel
theorem dX0_keepReached_33 : decode cX0_keepReached 33 = .ok (.getfield 38, 3) := by decide +kernel
theorem dX0_keepReached_36 : decode cX0_keepReached 36 = .ok (.iload_n 1, 1) := by decide +kernel
theorem dX0_keepReached_37 : decode cX0_keepReached 37 = .ok (.baload, 1) := by decide +kernel
theorem dX0_keepReached_38 : decode cX0_keepReached 38 = .ok (.ifCond .eq 7, 3) := by decide +kernel
theorem dX0_keepReached_41 : decode cX0_keepReached 41 = .ok (.iconst 1, 1) := by decide +kernel
theorem dX0_keepReached_42 : decode cX0_keepReached 42 = .ok (.goto 4, 3) := by decide +kernel
theorem dX0_keepReached_45 : decode cX0_keepReached 45 = .ok (.iconst 0, 1) := by decide +kernel
theorem dX0_keepReached_46 : decode cX0_keepReached 46 = .ok (.iadd, 1) := by decide +kernel
theorem dX0_keepReached_47 : decode cX0_keepReached 47 = .ok (.putfield 44, 3) := by decide +kernel
theorem dX0_keepReached_50 : decode cX0_keepReached 50 = .ok (.iinc 1 1, 3) := by decide +kernel
theorem dX0_keepReached_53 : decode cX0_keepReached 53 = .ok (.goto (-46), 3) := by decide +kernel
theorem dX0_keepReached_56 : decode cX0_keepReached 56 = .ok (.return_, 1) := by decide +kernel
theorem dX0_sumReached_0 : decode cX0_sumReached 0 = .ok (.lconst 0, 1) := by decide +kernel
theorem dX0_sumReached_1 : decode cX0_sumReached 1 = .ok (.lstore_n 3, 1) := by decide +kernel
theorem dX0_sumReached_2 : decode cX0_sumReached 2 = .ok (.iconst 1, 1) := by decide +kernel
theorem dX0_sumReached_3 : decode cX0_sumReached 3 = .ok (.istore 5, 2) := by decide +kernel
theorem dX0_sumReached_5 : decode cX0_sumReached 5 = .ok (.iload 5, 2) := by decide +kernel
theorem dX0_sumReached_7 : decode cX0_sumReached 7 = .ok (.aload_n 0, 1) := by decide +kernel
theorem dX0_sumReached_8 : decode cX0_sumReached 8 = .ok (.getfield 9, 3) := by decide +kernel
theorem dX0_sumReached_11 : decode cX0_sumReached 11 = .ok (.if_icmp .gt 52, 3) := by decide +kernel
theorem dX0_sumReached_14 : decode cX0_sumReached 14 = .ok (.aload_n 0, 1) := by decide +kernel
theorem dX0_sumReached_15 : decode cX0_sumReached 15 = .ok (.getfield 38, 3) := by decide +kernel
theorem dX0_sumReached_18 : decode cX0_sumReached 18 = .ok (.iload 5, 2) := by decide +kernel
theorem dX0_sumReached_20 : decode cX0_sumReached 20 = .ok (.baload, 1) := by decide +kernel
theorem dX0_sumReached_21 : decode cX0_sumReached 21 = .ok (.ifCond .eq 36, 3) := by decide +kernel
theorem dX0_sumReached_24 : decode cX0_sumReached 24 = .ok (.aload_n 0, 1) := by decide +kernel
theorem dX0_sumReached_25 : decode cX0_sumReached 25 = .ok (.getfield 15, 3) := by decide +kernel
theorem dX0_sumReached_28 : decode cX0_sumReached 28 = .ok (.iload 5, 2) := by decide +kernel
theorem dX0_sumReached_30 : decode cX0_sumReached 30 = .ok (.iaload, 1) := by decide +kernel
theorem dX0_sumReached_31 : decode cX0_sumReached 31 = .ok (.iload_n 1, 1) := by decide +kernel
theorem dX0_sumReached_32 : decode cX0_sumReached 32 = .ok (.if_icmp .lt 25, 3) := by decide +kernel
theorem dX0_sumReached_35 : decode cX0_sumReached 35 = .ok (.aload_n 0, 1) := by decide +kernel
theorem dX0_sumReached_36 : decode cX0_sumReached 36 = .ok (.getfield 15, 3) := by decide +kernel
theorem dX0_sumReached_39 : decode cX0_sumReached 39 = .ok (.iload 5, 2) := by decide +kernel
theorem dX0_sumReached_41 : decode cX0_sumReached 41 = .ok (.iaload, 1) := by decide +kernel
theorem dX0_sumReached_42 : decode cX0_sumReached 42 = .ok (.iload_n 2, 1) := by decide +kernel
theorem dX0_sumReached_43 : decode cX0_sumReached 43 = .ok (.if_icmp .gt 14, 3) := by decide +kernel
theorem dX0_sumReached_46 : decode cX0_sumReached 46 = .ok (.lload_n 3, 1) := by decide +kernel
theorem dX0_sumReached_47 : decode cX0_sumReached 47 = .ok (.aload_n 0, 1) := by decide +kernel
theorem dX0_sumReached_48 : decode cX0_sumReached 48 = .ok (.getfield 19, 3) := by decide +kernel
theorem dX0_sumReached_51 : decode cX0_sumReached 51 = .ok (.iload 5, 2) := by decide +kernel
theorem dX0_sumReached_53 : decode cX0_sumReached 53 = .ok (.iaload, 1) := by decide +kernel
theorem dX0_sumReached_54 : decode cX0_sumReached 54 = .ok (.i2l, 1) := by decide +kernel
theorem dX0_sumReached_55 : decode cX0_sumReached 55 = .ok (.ladd, 1) := by decide +kernel
theorem dX0_sumReached_56 : decode cX0_sumReached 56 = .ok (.lstore_n 3, 1) := by decide +kernel
theorem dX0_sumReached_57 : decode cX0_sumReached 57 = .ok (.iinc 5 1, 3) := by decide +kernel
theorem dX0_sumReached_60 : decode cX0_sumReached 60 = .ok (.goto (-55), 3) := by decide +kernel
theorem dX0_sumReached_63 : decode cX0_sumReached 63 = .ok (.lload_n 3, 1) := by decide +kernel
theorem dX0_sumReached_64 : decode cX0_sumReached 64 = .ok (.lreturn, 1) := by decide +kernel
theorem dX0_nodeAt_0 : decode cX0_nodeAt 0 = .ok (.iload_n 1, 1) := by decide +kernel
theorem dX0_nodeAt_1 : decode cX0_nodeAt 1 = .ok (.istore_n 3, 1) := by decide +kernel
theorem dX0_nodeAt_2 : decode cX0_nodeAt 2 = .ok (.iload_n 2, 1) := by decide +kernel
theorem dX0_nodeAt_3 : decode cX0_nodeAt 3 = .ok (.istore 4, 2) := by decide +kernel
theorem dX0_nodeAt_5 : decode cX0_nodeAt 5 = .ok (.iconst 0, 1) := by decide +kernel
theorem dX0_nodeAt_6 : decode cX0_nodeAt 6 = .ok (.istore 5, 2) := by decide +kernel
theorem dX0_nodeAt_8 : decode cX0_nodeAt 8 = .ok (.iload 5, 2) := by decide +kernel
theorem dX0_nodeAt_10 : decode cX0_nodeAt 10 = .ok (.aload_n 0, 1) := by decide +kernel
theorem dX0_nodeAt_11 : decode cX0_nodeAt 11 = .ok (.getfield 9, 3) := by decide +kernel
theorem dX0_nodeAt_14 : decode cX0_nodeAt 14 = .ok (.if_icmp .ge 80, 3) := by decide +kernel
theorem dX0_nodeAt_17 : decode cX0_nodeAt 17 = .ok (.iload_n 3, 1) := by decide +kernel
theorem dX0_nodeAt_18 : decode cX0_nodeAt 18 = .ok (.ifCond .eq 76, 3) := by decide +kernel
theorem dX0_nodeAt_21 : decode cX0_nodeAt 21 = .ok (.iload 4, 2) := by decide +kernel
theorem dX0_nodeAt_23 : decode cX0_nodeAt 23 = .ok (.aload_n 0, 1) := by decide +kernel
theorem dX0_nodeAt_24 : decode cX0_nodeAt 24 = .ok (.getfield 31, 3) := by decide +kernel
theorem dX0_nodeAt_27 : decode cX0_nodeAt 27 = .ok (.aload_n 0, 1) := by decide +kernel
theorem dX0_nodeAt_28 : decode cX0_nodeAt 28 = .ok (.getfield 25, 3) := by decide +kernel
theorem dX0_nodeAt_31 : decode cX0_nodeAt 31 = .ok (.iload_n 3, 1) := by decide +kernel
theorem dX0_nodeAt_32 : decode cX0_nodeAt 32 = .ok (.iaload, 1) := by decide +kernel
theorem dX0_nodeAt_33 : decode cX0_nodeAt 33 = .ok (.iaload, 1) := by decide +kernel
theorem dX0_nodeAt_34 : decode cX0_nodeAt 34 = .ok (.if_icmp .eq 60, 3) := by decide +kernel
theorem dX0_nodeAt_37 : decode cX0_nodeAt 37 = .ok (.iload 4, 2) := by decide +kernel
theorem dX0_nodeAt_39 : decode cX0_nodeAt 39 = .ok (.aload_n 0, 1) := by decide +kernel
theorem dX0_nodeAt_40 : decode cX0_nodeAt 40 = .ok (.getfield 31, 3) := by decide +kernel
theorem dX0_nodeAt_43 : decode cX0_nodeAt 43 = .ok (.aload_n 0, 1) := by decide +kernel
theorem dX0_nodeAt_44 : decode cX0_nodeAt 44 = .ok (.getfield 25, 3) := by decide +kernel
theorem dX0_nodeAt_47 : decode cX0_nodeAt 47 = .ok (.iload_n 3, 1) := by decide +kernel
theorem dX0_nodeAt_48 : decode cX0_nodeAt 48 = .ok (.iaload, 1) := by decide +kernel
theorem dX0_nodeAt_49 : decode cX0_nodeAt 49 = .ok (.iaload, 1) := by decide +kernel
theorem dX0_nodeAt_50 : decode cX0_nodeAt 50 = .ok (.if_icmp .ge 13, 3) := by decide +kernel
theorem dX0_nodeAt_53 : decode cX0_nodeAt 53 = .ok (.aload_n 0, 1) := by decide +kernel
theorem dX0_nodeAt_54 : decode cX0_nodeAt 54 = .ok (.getfield 25, 3) := by decide +kernel
theorem dX0_nodeAt_57 : decode cX0_nodeAt 57 = .ok (.iload_n 3, 1) := by decide +kernel
theorem dX0_nodeAt_58 : decode cX0_nodeAt 58 = .ok (.iaload, 1) := by decide +kernel
theorem dX0_nodeAt_59 : decode cX0_nodeAt 59 = .ok (.istore_n 3, 1) := by decide +kernel
theorem dX0_nodeAt_60 : decode cX0_nodeAt 60 = .ok (.goto 28, 3) := by decide +kernel
theorem dX0_nodeAt_63 : decode cX0_nodeAt 63 = .ok (.iload 4, 2) := by decide +kernel
theorem dX0_nodeAt_65 : decode cX0_nodeAt 65 = .ok (.aload_n 0, 1) := by decide +kernel
theorem dX0_nodeAt_66 : decode cX0_nodeAt 66 = .ok (.getfield 31, 3) := by decide +kernel
theorem dX0_nodeAt_69 : decode cX0_nodeAt 69 = .ok (.aload_n 0, 1) := by decide +kernel
theorem dX0_nodeAt_70 : decode cX0_nodeAt 70 = .ok (.getfield 25, 3) := by decide +kernel
theorem dX0_nodeAt_73 : decode cX0_nodeAt 73 = .ok (.iload_n 3, 1) := by decide +kernel
theorem dX0_nodeAt_74 : decode cX0_nodeAt 74 = .ok (.iaload, 1) := by decide +kernel
theorem dX0_nodeAt_75 : decode cX0_nodeAt 75 = .ok (.iaload, 1) := by decide +kernel
theorem dX0_nodeAt_76 : decode cX0_nodeAt 76 = .ok (.iconst 1, 1) := by decide +kernel
theorem dX0_nodeAt_77 : decode cX0_nodeAt 77 = .ok (.iadd, 1) := by decide +kernel
theorem dX0_nodeAt_78 : decode cX0_nodeAt 78 = .ok (.isub, 1) := by decide +kernel
theorem dX0_nodeAt_79 : decode cX0_nodeAt 79 = .ok (.istore 4, 2) := by decide +kernel
theorem dX0_nodeAt_81 : decode cX0_nodeAt 81 = .ok (.aload_n 0, 1) := by decide +kernel
theorem dX0_nodeAt_82 : decode cX0_nodeAt 82 = .ok (.getfield 28, 3) := by decide +kernel
theorem dX0_nodeAt_85 : decode cX0_nodeAt 85 = .ok (.iload_n 3, 1) := by decide +kernel
theorem dX0_nodeAt_86 : decode cX0_nodeAt 86 = .ok (.iaload, 1) := by decide +kernel
theorem dX0_nodeAt_87 : decode cX0_nodeAt 87 = .ok (.istore_n 3, 1) := by decide +kernel
theorem dX0_nodeAt_88 : decode cX0_nodeAt 88 = .ok (.iinc 5 1, 3) := by decide +kernel
theorem dX0_nodeAt_91 : decode cX0_nodeAt 91 = .ok (.goto (-83), 3) := by decide +kernel
theorem dX0_nodeAt_94 : decode cX0_nodeAt 94 = .ok (.iload_n 3, 1) := by decide +kernel
theorem dX0_nodeAt_95 : decode cX0_nodeAt 95 = .ok (.ireturn, 1) := by decide +kernel
theorem dX0_floorNode_0 : decode cX0_floorNode 0 = .ok (.iload_n 1, 1) := by decide +kernel
theorem dX0_floorNode_1 : decode cX0_floorNode 1 = .ok (.istore_n 3, 1) := by decide +kernel
theorem dX0_floorNode_2 : decode cX0_floorNode 2 = .ok (.iconst 0, 1) := by decide +kernel
theorem dX0_floorNode_3 : decode cX0_floorNode 3 = .ok (.istore 4, 2) := by decide +kernel
theorem dX0_floorNode_5 : decode cX0_floorNode 5 = .ok (.iconst 0, 1) := by decide +kernel
theorem dX0_floorNode_6 : decode cX0_floorNode 6 = .ok (.istore 5, 2) := by decide +kernel
theorem dX0_floorNode_8 : decode cX0_floorNode 8 = .ok (.iload 5, 2) := by decide +kernel
theorem dX0_floorNode_10 : decode cX0_floorNode 10 = .ok (.aload_n 0, 1) := by decide +kernel
theorem dX0_floorNode_11 : decode cX0_floorNode 11 = .ok (.getfield 9, 3) := by decide +kernel
theorem dX0_floorNode_14 : decode cX0_floorNode 14 = .ok (.if_icmp .ge 43, 3) := by decide +kernel
theorem dX0_floorNode_17 : decode cX0_floorNode 17 = .ok (.iload_n 3, 1) := by decide +kernel
theorem dX0_floorNode_18 : decode cX0_floorNode 18 = .ok (.ifCond .eq 39, 3) := by decide +kernel
theorem dX0_floorNode_21 : decode cX0_floorNode 21 = .ok (.aload_n 0, 1) := by decide +kernel
theorem dX0_floorNode_22 : decode cX0_floorNode 22 = .ok (.getfield 15, 3) := by decide +kernel
theorem dX0_floorNode_25 : decode cX0_floorNode 25 = .ok (.iload_n 3, 1) := by decide +kernel
theorem dX0_floorNode_26 : decode cX0_floorNode 26 = .ok (.iaload, 1) := by decide +kernel
theorem dX0_floorNode_27 : decode cX0_floorNode 27 = .ok (.iload_n 2, 1) := by decide +kernel
theorem dX0_floorNode_28 : decode cX0_floorNode 28 = .ok (.if_icmp .gt 16, 3) := by decide +kernel
theorem dX0_floorNode_31 : decode cX0_floorNode 31 = .ok (.iload_n 3, 1) := by decide +kernel
theorem dX0_floorNode_32 : decode cX0_floorNode 32 = .ok (.istore 4, 2) := by decide +kernel
theorem dX0_floorNode_34 : decode cX0_floorNode 34 = .ok (.aload_n 0, 1) := by decide +kernel
theorem dX0_floorNode_35 : decode cX0_floorNode 35 = .ok (.getfield 28, 3) := by decide +kernel
theorem dX0_floorNode_38 : decode cX0_floorNode 38 = .ok (.iload_n 3, 1) := by decide +kernel
theorem dX0_floorNode_39 : decode cX0_floorNode 39 = .ok (.iaload, 1) := by decide +kernel
theorem dX0_floorNode_40 : decode cX0_floorNode 40 = .ok (.istore_n 3, 1) := by decide +kernel
theorem dX0_floorNode_41 : decode cX0_floorNode 41 = .ok (.goto 10, 3) := by decide +kernel
theorem dX0_floorNode_44 : decode cX0_floorNode 44 = .ok (.aload_n 0, 1) := by decide +kernel
theorem dX0_floorNode_45 : decode cX0_floorNode 45 = .ok (.getfield 25, 3) := by decide +kernel
theorem dX0_floorNode_48 : decode cX0_floorNode 48 = .ok (.iload_n 3, 1) := by decide +kernel
theorem dX0_floorNode_49 : decode cX0_floorNode 49 = .ok (.iaload, 1) := by decide +kernel
theorem dX0_floorNode_50 : decode cX0_floorNode 50 = .ok (.istore_n 3, 1) := by decide +kernel
theorem dX0_floorNode_51 : decode cX0_floorNode 51 = .ok (.iinc 5 1, 3) := by decide +kernel
theorem dX0_floorNode_54 : decode cX0_floorNode 54 = .ok (.goto (-46), 3) := by decide +kernel
theorem dX0_floorNode_57 : decode cX0_floorNode 57 = .ok (.iload 4, 2) := by decide +kernel
theorem dX0_floorNode_59 : decode cX0_floorNode 59 = .ok (.ireturn, 1) := by decide +kernel
theorem dX1_init_0 : decode cX1_init 0 = .ok (.aload_n 0, 1) := by decide +kernel
theorem dX1_init_1 : decode cX1_init 1 = .ok (.invokespecial 3, 3) := by decide +kernel
theorem dX1_init_4 : decode cX1_init 4 = .ok (.aload_n 0, 1) := by decide +kernel
theorem dX1_init_5 : decode cX1_init 5 = .ok (.aload_n 1, 1) := by decide +kernel
theorem dX1_init_6 : decode cX1_init 6 = .ok (.putfield 9, 3) := by decide +kernel
theorem dX1_init_9 : decode cX1_init 9 = .ok (.aload_n 0, 1) := by decide +kernel
theorem dX1_init_10 : decode cX1_init 10 = .ok (.aload_n 1, 1) := by decide +kernel
theorem dX1_init_11 : decode cX1_init 11 = .ok (.getfield 15, 3) := by decide +kernel
theorem dX1_init_14 : decode cX1_init 14 = .ok (.newarray .int, 2) := by decide +kernel
theorem dX1_init_16 : decode cX1_init 16 = .ok (.putfield 21, 3) := by decide +kernel
theorem dX1_init_19 : decode cX1_init 19 = .ok (.return_, 1) := by decide +kernel
theorem dX1_noteTo_0 : decode cX1_noteTo 0 = .ok (.aload_n 0, 1) := by decide +kernel
theorem dX1_noteTo_1 : decode cX1_noteTo 1 = .ok (.iconst 0, 1) := by decide +kernel
theorem dX1_noteTo_2 : decode cX1_noteTo 2 = .ok (.putfield 25, 3) := by decide +kernel
theorem dX1_noteTo_5 : decode cX1_noteTo 5 = .ok (.iload_n 1, 1) := by decide +kernel
theorem dX1_noteTo_6 : decode cX1_noteTo 6 = .ok (.istore_n 3, 1) := by decide +kernel
theorem dX1_noteTo_7 : decode cX1_noteTo 7 = .ok (.aload_n 0, 1) := by decide +kernel
theorem dX1_noteTo_8 : decode cX1_noteTo 8 = .ok (.getfield 25, 3) := by decide +kernel
theorem dX1_noteTo_11 : decode cX1_noteTo 11 = .ok (.aload_n 0, 1) := by decide +kernel
theorem dX1_noteTo_12 : decode cX1_noteTo 12 = .ok (.getfield 21, 3) := by decide +kernel
theorem dX1_noteTo_15 : decode cX1_noteTo 15 = .ok (.arraylength, 1) := by decide +kernel
theorem dX1_noteTo_16 : decode cX1_noteTo 16 = .ok (.if_icmp .ge 78, 3) := by decide +kernel
theorem dX1_noteTo_19 : decode cX1_noteTo 19 = .ok (.iload_n 3, 1) := by decide +kernel
theorem dX1_noteTo_20 : decode cX1_noteTo 20 = .ok (.ifCond .eq 74, 3) := by decide +kernel
theorem dX1_noteTo_23 : decode cX1_noteTo 23 = .ok (.aload_n 0, 1) := by decide +kernel
theorem dX1_noteTo_24 : decode cX1_noteTo 24 = .ok (.getfield 9, 3) := by decide +kernel
theorem dX1_noteTo_27 : decode cX1_noteTo 27 = .ok (.getfield 28, 3) := by decide +kernel
theorem dX1_noteTo_30 : decode cX1_noteTo 30 = .ok (.iload_n 3, 1) := by decide +kernel
theorem dX1_noteTo_31 : decode cX1_noteTo 31 = .ok (.iaload, 1) := by decide +kernel
theorem dX1_noteTo_32 : decode cX1_noteTo 32 = .ok (.iload_n 2, 1) := by decide +kernel
theorem dX1_noteTo_33 : decode cX1_noteTo 33 = .ok (.if_icmp .eq 61, 3) := by decide +kernel
theorem dX1_noteTo_36 : decode cX1_noteTo 36 = .ok (.aload_n 0, 1) := by decide +kernel
theorem dX1_noteTo_37 : decode cX1_noteTo 37 = .ok (.getfield 21, 3) := by decide +kernel
theorem dX1_noteTo_40 : decode cX1_noteTo 40 = .ok (.aload_n 0, 1) := by decide +kernel
theorem dX1_noteTo_41 : decode cX1_noteTo 41 = .ok (.getfield 25, 3) := by decide +kernel
theorem dX1_noteTo_44 : decode cX1_noteTo 44 = .ok (.iload_n 3, 1) := by decide +kernel
theorem dX1_noteTo_45 : decode cX1_noteTo 45 = .ok (.iastore, 1) := by decide +kernel
theorem dX1_noteTo_46 : decode cX1_noteTo 46 = .ok (.aload_n 0, 1) := by decide +kernel
theorem dX1_noteTo_47 : decode cX1_noteTo 47 = .ok (.dup, 1) := by decide +kernel
theorem dX1_noteTo_48 : decode cX1_noteTo 48 = .ok (.getfield 25, 3) := by decide +kernel
theorem dX1_noteTo_51 : decode cX1_noteTo 51 = .ok (.iconst 1, 1) := by decide +kernel
theorem dX1_noteTo_52 : decode cX1_noteTo 52 = .ok (.iadd, 1) := by decide +kernel
theorem dX1_noteTo_53 : decode cX1_noteTo 53 = .ok (.putfield 25, 3) := by decide +kernel
theorem dX1_noteTo_56 : decode cX1_noteTo 56 = .ok (.aload_n 0, 1) := by decide +kernel
theorem dX1_noteTo_57 : decode cX1_noteTo 57 = .ok (.getfield 9, 3) := by decide +kernel
theorem dX1_noteTo_60 : decode cX1_noteTo 60 = .ok (.getfield 28, 3) := by decide +kernel
theorem dX1_noteTo_63 : decode cX1_noteTo 63 = .ok (.iload_n 3, 1) := by decide +kernel
theorem dX1_noteTo_64 : decode cX1_noteTo 64 = .ok (.iaload, 1) := by decide +kernel
theorem dX1_noteTo_65 : decode cX1_noteTo 65 = .ok (.iload_n 2, 1) := by decide +kernel
theorem dX1_noteTo_66 : decode cX1_noteTo 66 = .ok (.if_icmp .ge 15, 3) := by decide +kernel
theorem dX1_noteTo_69 : decode cX1_noteTo 69 = .ok (.aload_n 0, 1) := by decide +kernel
theorem dX1_noteTo_70 : decode cX1_noteTo 70 = .ok (.getfield 9, 3) := by decide +kernel
theorem dX1_noteTo_73 : decode cX1_noteTo 73 = .ok (.getfield 31, 3) := by decide +kernel
theorem dX1_noteTo_76 : decode cX1_noteTo 76 = .ok (.iload_n 3, 1) := by decide +kernel
theorem dX1_noteTo_77 : decode cX1_noteTo 77 = .ok (.iaload, 1) := by decide +kernel
theorem dX1_noteTo_78 : decode cX1_noteTo 78 = .ok (.goto 12, 3) := by decide +kernel
theorem dX1_noteTo_81 : decode cX1_noteTo 81 = .ok (.aload_n 0, 1) := by decide +kernel
theorem dX1_noteTo_82 : decode cX1_noteTo 82 = .ok (.getfield 9, 3) := by decide +kernel
theorem dX1_noteTo_85 : decode cX1_noteTo 85 = .ok (.getfield 34, 3) := by decide +kernel
theorem dX1_noteTo_88 : decode cX1_noteTo 88 = .ok (.iload_n 3, 1) := by decide +kernel
theorem dX1_noteTo_89 : decode cX1_noteTo 89 = .ok (.iaload, 1) := by decide +kernel
theorem dX1_noteTo_90 : decode cX1_noteTo 90 = .ok (.istore_n 3, 1) := by decide +kernel
theorem dX1_noteTo_91 : decode cX1_noteTo 91 = .ok (.goto (-84), 3) := by decide +kernel
theorem dX1_noteTo_94 : decode cX1_noteTo 94 = .ok (.iload_n 3, 1) := by decide +kernel
theorem dX1_noteTo_95 : decode cX1_noteTo 95 = .ok (.ireturn, 1) := by decide +kernel
theorem dX1_noteLesser_0 : decode cX1_noteLesser 0 = .ok (.aload_n 0, 1) := by decide +kernel
theorem dX1_noteLesser_1 : decode cX1_noteLesser 1 = .ok (.iconst 0, 1) := by decide +kernel
theorem dX1_noteLesser_2 : decode cX1_noteLesser 2 = .ok (.putfield 25, 3) := by decide +kernel
theorem dX1_noteLesser_5 : decode cX1_noteLesser 5 = .ok (.iload_n 1, 1) := by decide +kernel
theorem dX1_noteLesser_6 : decode cX1_noteLesser 6 = .ok (.istore_n 3, 1) := by decide +kernel
theorem dX1_noteLesser_7 : decode cX1_noteLesser 7 = .ok (.iconst 0, 1) := by decide +kernel
theorem dX1_noteLesser_8 : decode cX1_noteLesser 8 = .ok (.istore 4, 2) := by decide +kernel
theorem dX1_noteLesser_10 : decode cX1_noteLesser 10 = .ok (.iload 4, 2) := by decide +kernel
theorem dX1_noteLesser_12 : decode cX1_noteLesser 12 = .ok (.aload_n 0, 1) := by decide +kernel
theorem dX1_noteLesser_13 : decode cX1_noteLesser 13 = .ok (.getfield 21, 3) := by decide +kernel
theorem dX1_noteLesser_16 : decode cX1_noteLesser 16 = .ok (.arraylength, 1) := by decide +kernel
theorem dX1_noteLesser_17 : decode cX1_noteLesser 17 = .ok (.if_icmp .ge 69, 3) := by decide +kernel
theorem dX1_noteLesser_20 : decode cX1_noteLesser 20 = .ok (.iload_n 3, 1) := by decide +kernel
theorem dX1_noteLesser_21 : decode cX1_noteLesser 21 = .ok (.ifCond .eq 65, 3) := by decide +kernel
theorem dX1_noteLesser_24 : decode cX1_noteLesser 24 = .ok (.aload_n 0, 1) := by decide +kernel
theorem dX1_noteLesser_25 : decode cX1_noteLesser 25 = .ok (.getfield 9, 3) := by decide +kernel
theorem dX1_noteLesser_28 : decode cX1_noteLesser 28 = .ok (.getfield 28, 3) := by decide +kernel
theorem dX1_noteLesser_31 : decode cX1_noteLesser 31 = .ok (.iload_n 3, 1) := by decide +kernel
theorem dX1_noteLesser_32 : decode cX1_noteLesser 32 = .ok (.iaload, 1) := by decide +kernel
theorem dX1_noteLesser_33 : decode cX1_noteLesser 33 = .ok (.iload_n 2, 1) := by decide +kernel
theorem dX1_noteLesser_34 : decode cX1_noteLesser 34 = .ok (.if_icmp .ge 36, 3) := by decide +kernel
theorem dX1_noteLesser_37 : decode cX1_noteLesser 37 = .ok (.aload_n 0, 1) := by decide +kernel
theorem dX1_noteLesser_38 : decode cX1_noteLesser 38 = .ok (.getfield 21, 3) := by decide +kernel
theorem dX1_noteLesser_41 : decode cX1_noteLesser 41 = .ok (.aload_n 0, 1) := by decide +kernel
theorem dX1_noteLesser_42 : decode cX1_noteLesser 42 = .ok (.getfield 25, 3) := by decide +kernel
theorem dX1_noteLesser_45 : decode cX1_noteLesser 45 = .ok (.iload_n 3, 1) := by decide +kernel
theorem dX1_noteLesser_46 : decode cX1_noteLesser 46 = .ok (.iastore, 1) := by decide +kernel
theorem dX1_noteLesser_47 : decode cX1_noteLesser 47 = .ok (.aload_n 0, 1) := by decide +kernel
theorem dX1_noteLesser_48 : decode cX1_noteLesser 48 = .ok (.dup, 1) := by decide +kernel
theorem dX1_noteLesser_49 : decode cX1_noteLesser 49 = .ok (.getfield 25, 3) := by decide +kernel
theorem dX1_noteLesser_52 : decode cX1_noteLesser 52 = .ok (.iconst 1, 1) := by decide +kernel
theorem dX1_noteLesser_53 : decode cX1_noteLesser 53 = .ok (.iadd, 1) := by decide +kernel
theorem dX1_noteLesser_54 : decode cX1_noteLesser 54 = .ok (.putfield 25, 3) := by decide +kernel
theorem dX1_noteLesser_57 : decode cX1_noteLesser 57 = .ok (.aload_n 0, 1) := by decide +kernel
theorem dX1_noteLesser_58 : decode cX1_noteLesser 58 = .ok (.getfield 9, 3) := by decide +kernel
theorem dX1_noteLesser_61 : decode cX1_noteLesser 61 = .ok (.getfield 31, 3) := by decide +kernel
theorem dX1_noteLesser_64 : decode cX1_noteLesser 64 = .ok (.iload_n 3, 1) := by decide +kernel
theorem dX1_noteLesser_65 : decode cX1_noteLesser 65 = .ok (.iaload, 1) := by decide +kernel
theorem dX1_noteLesser_66 : decode cX1_noteLesser 66 = .ok (.istore_n 3, 1) := by decide +kernel
theorem dX1_noteLesser_67 : decode cX1_noteLesser 67 = .ok (.goto 13, 3) := by decide +kernel
theorem dX1_noteLesser_70 : decode cX1_noteLesser 70 = .ok (.aload_n 0, 1) := by decide +kernel
theorem dX1_noteLesser_71 : decode cX1_noteLesser 71 = .ok (.getfield 9, 3) := by decide +kernel
theorem dX1_noteLesser_74 : decode cX1_noteLesser 74 = .ok (.getfield 34, 3) := by decide +kernel
theorem dX1_noteLesser_77 : decode cX1_noteLesser 77 = .ok (.iload_n 3, 1) := by decide +kernel
theorem dX1_noteLesser_78 : decode cX1_noteLesser 78 = .ok (.iaload, 1) := by decide +kernel
theorem dX1_noteLesser_79 : decode cX1_noteLesser 79 = .ok (.istore_n 3, 1) := by decide +kernel
theorem dX1_noteLesser_80 : decode cX1_noteLesser 80 = .ok (.iinc 4 1, 3) := by decide +kernel
theorem dX1_noteLesser_83 : decode cX1_noteLesser 83 = .ok (.goto (-73), 3) := by decide +kernel
theorem dX1_noteLesser_86 : decode cX1_noteLesser 86 = .ok (.return_, 1) := by decide +kernel
set_option maxRecDepth 20000 in
theorem ggX1_noteRemoval_X1_noteTo : GoodIn wsX1_noteRemoval wsX1_noteTo := goodIn_r _ [9, 1, 10, 2, 11, 4, 3, 24, 25, 26, 27, 28, 29, 30, 31, 32, 33, 34, 35, 36, 37] (by decide +kernel) (by decide +kernel)
set_option maxRecDepth 20000 in
theorem gX1_noteRemoval_X1_noteTo : GoodIn wsX1_noteRemoval (wsV RX1 37 RX1 yX1_noteTo wsX1_noteTo) := goodIn_app (goodIn_of _ (by decide +kernel)) ggX1_noteRemoval_X1_noteTo
set_option maxRecDepth 20000 in
theorem ggX1_noteRemoval_X1_noteJoint : GoodIn wsX1_noteRemoval wsX1_noteJoint := goodIn_r _ [15, 1, 10, 2, 16, 11, 4, 3, 17, 18, 19, 20, 21, 22, 23, 24, 25, 26, 27, 28, 29, 30, 31, 32, 33, 34, 35, 36, 37] (by decide +kernel) (by decide +kernel)
set_option maxRecDepth 20000 in
theorem gX1_noteRemoval_X1_noteJoint : GoodIn wsX1_noteRemoval (wsV RX1 41 RX1 yX1_noteJoint wsX1_noteJoint) := goodIn_app (goodIn_of _ (by decide +kernel)) ggX1_noteRemoval_X1_noteJoint
theorem dX1_noteRemoval_0 : decode cX1_noteRemoval 0 = .ok (.aload_n 0, 1) := by decide +kernel
theorem dX1_noteRemoval_1 : decode cX1_noteRemoval 1 = .ok (.iload_n 1, 1) := by decide +kernel
theorem dX1_noteRemoval_2 : decode cX1_noteRemoval 2 = .ok (.iload_n 2, 1) := by decide +kernel
theorem dX1_noteRemoval_3 : decode cX1_noteRemoval 3 = .ok (.invokevirtual 37, 3) := by decide +kernel
theorem dX1_noteRemoval_6 : decode cX1_noteRemoval 6 = .ok (.istore_n 3, 1) := by decide +kernel
theorem dX1_noteRemoval_7 : decode cX1_noteRemoval 7 = .ok (.iload_n 3, 1) := by decide +kernel
theorem dX1_noteRemoval_8 : decode cX1_noteRemoval 8 = .ok (.ifCond .ne 10, 3) := by decide +kernel
theorem dX1_noteRemoval_11 : decode cX1_noteRemoval 11 = .ok (.aload_n 0, 1) := by decide +kernel
theorem dX1_noteRemoval_12 : decode cX1_noteRemoval 12 = .ok (.iconst 0, 1) := by decide +kernel
theorem dX1_noteRemoval_13 : decode cX1_noteRemoval 13 = .ok (.putfield 25, 3) := by decide +kernel
theorem dX1_noteRemoval_16 : decode cX1_noteRemoval 16 = .ok (.iload_n 1, 1) := by decide +kernel
theorem dX1_noteRemoval_17 : decode cX1_noteRemoval 17 = .ok (.ireturn, 1) := by decide +kernel
theorem dX1_noteRemoval_18 : decode cX1_noteRemoval 18 = .ok (.aload_n 0, 1) := by decide +kernel
theorem dX1_noteRemoval_19 : decode cX1_noteRemoval 19 = .ok (.aload_n 0, 1) := by decide +kernel
theorem dX1_noteRemoval_20 : decode cX1_noteRemoval 20 = .ok (.getfield 9, 3) := by decide +kernel
theorem dX1_noteRemoval_23 : decode cX1_noteRemoval 23 = .ok (.getfield 34, 3) := by decide +kernel
theorem dX1_noteRemoval_26 : decode cX1_noteRemoval 26 = .ok (.iload_n 3, 1) := by decide +kernel
theorem dX1_noteRemoval_27 : decode cX1_noteRemoval 27 = .ok (.iaload, 1) := by decide +kernel
theorem dX1_noteRemoval_28 : decode cX1_noteRemoval 28 = .ok (.aload_n 0, 1) := by decide +kernel
theorem dX1_noteRemoval_29 : decode cX1_noteRemoval 29 = .ok (.getfield 9, 3) := by decide +kernel
theorem dX1_noteRemoval_32 : decode cX1_noteRemoval 32 = .ok (.getfield 31, 3) := by decide +kernel
theorem dX1_noteRemoval_35 : decode cX1_noteRemoval 35 = .ok (.iload_n 3, 1) := by decide +kernel
theorem dX1_noteRemoval_36 : decode cX1_noteRemoval 36 = .ok (.iaload, 1) := by decide +kernel
theorem dX1_noteRemoval_37 : decode cX1_noteRemoval 37 = .ok (.invokevirtual 41, 3) := by decide +kernel
theorem dX1_noteRemoval_40 : decode cX1_noteRemoval 40 = .ok (.ireturn, 1) := by decide +kernel
set_option maxRecDepth 20000 in
theorem ggX1_noteJoint_X0_goesAbove : GoodIn wsX1_noteJoint wsX0_goesAbove := goodIn_r _ [12, 13, 14, 18, 19, 20, 21, 22, 23, 24, 25, 26, 27, 28] (by decide +kernel) (by decide +kernel)
set_option maxRecDepth 20000 in
theorem gX1_noteJoint_X0_goesAbove : GoodIn wsX1_noteJoint (wsV RX1 47 RX0 yX0_goesAbove wsX0_goesAbove) := goodIn_app (goodIn_of _ (by decide +kernel)) ggX1_noteJoint_X0_goesAbove
theorem dX1_noteJoint_0 : decode cX1_noteJoint 0 = .ok (.iload_n 1, 1) := by decide +kernel
theorem dX1_noteJoint_1 : decode cX1_noteJoint 1 = .ok (.istore_n 3, 1) := by decide +kernel
theorem dX1_noteJoint_2 : decode cX1_noteJoint 2 = .ok (.iload_n 2, 1) := by decide +kernel
theorem dX1_noteJoint_3 : decode cX1_noteJoint 3 = .ok (.istore 4, 2) := by decide +kernel
theorem dX1_noteJoint_5 : decode cX1_noteJoint 5 = .ok (.aload_n 0, 1) := by decide +kernel
theorem dX1_noteJoint_6 : decode cX1_noteJoint 6 = .ok (.getfield 25, 3) := by decide +kernel
theorem dX1_noteJoint_9 : decode cX1_noteJoint 9 = .ok (.aload_n 0, 1) := by decide +kernel
theorem dX1_noteJoint_10 : decode cX1_noteJoint 10 = .ok (.getfield 21, 3) := by decide +kernel
theorem dX1_noteJoint_13 : decode cX1_noteJoint 13 = .ok (.arraylength, 1) := by decide +kernel
theorem dX1_noteJoint_14 : decode cX1_noteJoint 14 = .ok (.if_icmp .ge 102, 3) := by decide +kernel
theorem dX1_noteJoint_17 : decode cX1_noteJoint 17 = .ok (.iload_n 3, 1) := by decide +kernel
theorem dX1_noteJoint_18 : decode cX1_noteJoint 18 = .ok (.ifCond .eq 98, 3) := by decide +kernel
theorem dX1_noteJoint_21 : decode cX1_noteJoint 21 = .ok (.iload 4, 2) := by decide +kernel
theorem dX1_noteJoint_23 : decode cX1_noteJoint 23 = .ok (.ifCond .eq 93, 3) := by decide +kernel
theorem dX1_noteJoint_26 : decode cX1_noteJoint 26 = .ok (.aload_n 0, 1) := by decide +kernel
theorem dX1_noteJoint_27 : decode cX1_noteJoint 27 = .ok (.getfield 9, 3) := by decide +kernel
theorem dX1_noteJoint_30 : decode cX1_noteJoint 30 = .ok (.iload_n 3, 1) := by decide +kernel
theorem dX1_noteJoint_31 : decode cX1_noteJoint 31 = .ok (.aload_n 0, 1) := by decide +kernel
theorem dX1_noteJoint_32 : decode cX1_noteJoint 32 = .ok (.getfield 9, 3) := by decide +kernel
theorem dX1_noteJoint_35 : decode cX1_noteJoint 35 = .ok (.getfield 44, 3) := by decide +kernel
theorem dX1_noteJoint_38 : decode cX1_noteJoint 38 = .ok (.iload 4, 2) := by decide +kernel
theorem dX1_noteJoint_40 : decode cX1_noteJoint 40 = .ok (.iaload, 1) := by decide +kernel
theorem dX1_noteJoint_41 : decode cX1_noteJoint 41 = .ok (.aload_n 0, 1) := by decide +kernel
theorem dX1_noteJoint_42 : decode cX1_noteJoint 42 = .ok (.getfield 9, 3) := by decide +kernel
theorem dX1_noteJoint_45 : decode cX1_noteJoint 45 = .ok (.getfield 28, 3) := by decide +kernel
theorem dX1_noteJoint_48 : decode cX1_noteJoint 48 = .ok (.iload 4, 2) := by decide +kernel
theorem dX1_noteJoint_50 : decode cX1_noteJoint 50 = .ok (.iaload, 1) := by decide +kernel
theorem dX1_noteJoint_51 : decode cX1_noteJoint 51 = .ok (.invokevirtual 47, 3) := by decide +kernel
theorem dX1_noteJoint_54 : decode cX1_noteJoint 54 = .ok (.ifCond .eq 26, 3) := by decide +kernel
theorem dX1_noteJoint_57 : decode cX1_noteJoint 57 = .ok (.aload_n 0, 1) := by decide +kernel
theorem dX1_noteJoint_58 : decode cX1_noteJoint 58 = .ok (.getfield 21, 3) := by decide +kernel
theorem dX1_noteJoint_61 : decode cX1_noteJoint 61 = .ok (.aload_n 0, 1) := by decide +kernel
theorem dX1_noteJoint_62 : decode cX1_noteJoint 62 = .ok (.getfield 25, 3) := by decide +kernel
theorem dX1_noteJoint_65 : decode cX1_noteJoint 65 = .ok (.iload_n 3, 1) := by decide +kernel
theorem dX1_noteJoint_66 : decode cX1_noteJoint 66 = .ok (.iastore, 1) := by decide +kernel
theorem dX1_noteJoint_67 : decode cX1_noteJoint 67 = .ok (.aload_n 0, 1) := by decide +kernel
theorem dX1_noteJoint_68 : decode cX1_noteJoint 68 = .ok (.getfield 9, 3) := by decide +kernel
theorem dX1_noteJoint_71 : decode cX1_noteJoint 71 = .ok (.getfield 31, 3) := by decide +kernel
theorem dX1_noteJoint_74 : decode cX1_noteJoint 74 = .ok (.iload_n 3, 1) := by decide +kernel
theorem dX1_noteJoint_75 : decode cX1_noteJoint 75 = .ok (.iaload, 1) := by decide +kernel
theorem dX1_noteJoint_76 : decode cX1_noteJoint 76 = .ok (.istore_n 3, 1) := by decide +kernel
theorem dX1_noteJoint_77 : decode cX1_noteJoint 77 = .ok (.goto 26, 3) := by decide +kernel
theorem dX1_noteJoint_80 : decode cX1_noteJoint 80 = .ok (.aload_n 0, 1) := by decide +kernel
theorem dX1_noteJoint_81 : decode cX1_noteJoint 81 = .ok (.getfield 21, 3) := by decide +kernel
theorem dX1_noteJoint_84 : decode cX1_noteJoint 84 = .ok (.aload_n 0, 1) := by decide +kernel
theorem dX1_noteJoint_85 : decode cX1_noteJoint 85 = .ok (.getfield 25, 3) := by decide +kernel
theorem dX1_noteJoint_88 : decode cX1_noteJoint 88 = .ok (.iload 4, 2) := by decide +kernel
theorem dX1_noteJoint_90 : decode cX1_noteJoint 90 = .ok (.iastore, 1) := by decide +kernel
theorem dX1_noteJoint_91 : decode cX1_noteJoint 91 = .ok (.aload_n 0, 1) := by decide +kernel
theorem dX1_noteJoint_92 : decode cX1_noteJoint 92 = .ok (.getfield 9, 3) := by decide +kernel
theorem dX1_noteJoint_95 : decode cX1_noteJoint 95 = .ok (.getfield 34, 3) := by decide +kernel
theorem dX1_noteJoint_98 : decode cX1_noteJoint 98 = .ok (.iload 4, 2) := by decide +kernel
theorem dX1_noteJoint_100 : decode cX1_noteJoint 100 = .ok (.iaload, 1) := by decide +kernel
theorem dX1_noteJoint_101 : decode cX1_noteJoint 101 = .ok (.istore 4, 2) := by decide +kernel
theorem dX1_noteJoint_103 : decode cX1_noteJoint 103 = .ok (.aload_n 0, 1) := by decide +kernel
theorem dX1_noteJoint_104 : decode cX1_noteJoint 104 = .ok (.dup, 1) := by decide +kernel
theorem dX1_noteJoint_105 : decode cX1_noteJoint 105 = .ok (.getfield 25, 3) := by decide +kernel
theorem dX1_noteJoint_108 : decode cX1_noteJoint 108 = .ok (.iconst 1, 1) := by decide +kernel
theorem dX1_noteJoint_109 : decode cX1_noteJoint 109 = .ok (.iadd, 1) := by decide +kernel
theorem dX1_noteJoint_110 : decode cX1_noteJoint 110 = .ok (.putfield 25, 3) := by decide +kernel
theorem dX1_noteJoint_113 : decode cX1_noteJoint 113 = .ok (.goto (-108), 3) := by decide +kernel
theorem dX1_noteJoint_116 : decode cX1_noteJoint 116 = .ok (.iload_n 3, 1) := by decide +kernel
theorem dX1_noteJoint_117 : decode cX1_noteJoint 117 = .ok (.ifCond .ne 8, 3) := by decide +kernel
theorem dX1_noteJoint_120 : decode cX1_noteJoint 120 = .ok (.iload 4, 2) := by decide +kernel
theorem dX1_noteJoint_122 : decode cX1_noteJoint 122 = .ok (.goto 4, 3) := by decide +kernel
theorem dX1_noteJoint_125 : decode cX1_noteJoint 125 = .ok (.iload_n 3, 1) := by decide +kernel
theorem dX1_noteJoint_126 : decode cX1_noteJoint 126 = .ok (.ireturn, 1) := by decide +kernel
set_option maxRecDepth 20000 in
theorem ggX1_placeNew_X0_goesAbove : GoodIn wsX1_placeNew wsX0_goesAbove := goodIn_r _ [11, 12, 13, 37, 38, 39, 40, 41, 42, 43, 44, 45, 46, 47] (by decide +kernel) (by decide +kernel)
set_option maxRecDepth 20000 in
theorem gX1_placeNew_X0_goesAbove : GoodIn wsX1_placeNew (wsV RX1 47 RX0 yX0_goesAbove wsX0_goesAbove) := goodIn_app (goodIn_of _ (by decide +kernel)) ggX1_placeNew_X0_goesAbove
set_option maxRecDepth 20000 in
theorem ggX1_placeNew_X0_copy : GoodIn wsX1_placeNew wsX0_copy := goodIn_r _ [17, 13, 18, 12, 19, 20, 21, 10, 22, 23, 24, 25, 26, 27, 28, 29, 30, 31, 32, 37, 38, 39, 40, 41, 42, 43, 44, 45, 46, 47] (by decide +kernel) (by decide +kernel)
set_option maxRecDepth 20000 in
theorem gX1_placeNew_X0_copy : GoodIn wsX1_placeNew (wsV RX1 51 RX0 yX0_copy wsX0_copy) := goodIn_app (goodIn_of _ (by decide +kernel)) ggX1_placeNew_X0_copy
set_option maxRecDepth 20000 in
theorem ggX1_placeNew_X0_fresh : GoodIn wsX1_placeNew wsX0_fresh := goodIn_r _ [22, 23, 24, 13, 18, 12, 25, 26, 27, 28, 29, 30, 10, 31, 32, 37, 38, 39, 40, 41, 42, 43, 44, 45, 46, 47] (by decide +kernel) (by decide +kernel)
set_option maxRecDepth 20000 in
theorem gX1_placeNew_X0_fresh : GoodIn wsX1_placeNew (wsV RX1 55 RX0 yX0_fresh wsX0_fresh) := goodIn_app (goodIn_of _ (by decide +kernel)) ggX1_placeNew_X0_fresh
theorem dX1_placeNew_0 : decode cX1_placeNew 0 = .ok (.iconst 0, 1) := by decide +kernel
theorem dX1_placeNew_1 : decode cX1_placeNew 1 = .ok (.istore 4, 2) := by decide +kernel
theorem dX1_placeNew_3 : decode cX1_placeNew 3 = .ok (.iconst 0, 1) := by decide +kernel
theorem dX1_placeNew_4 : decode cX1_placeNew 4 = .ok (.istore 5, 2) := by decide +kernel
theorem dX1_placeNew_6 : decode cX1_placeNew 6 = .ok (.aload_n 0, 1) := by decide +kernel
theorem dX1_placeNew_7 : decode cX1_placeNew 7 = .ok (.getfield 25, 3) := by decide +kernel
theorem dX1_placeNew_10 : decode cX1_placeNew 10 = .ok (.ifCond .le 113, 3) := by decide +kernel
theorem dX1_placeNew_13 : decode cX1_placeNew 13 = .ok (.aload_n 0, 1) := by decide +kernel
theorem dX1_placeNew_14 : decode cX1_placeNew 14 = .ok (.getfield 9, 3) := by decide +kernel
theorem dX1_placeNew_17 : decode cX1_placeNew 17 = .ok (.aload_n 0, 1) := by decide +kernel
theorem dX1_placeNew_18 : decode cX1_placeNew 18 = .ok (.getfield 21, 3) := by decide +kernel
theorem dX1_placeNew_21 : decode cX1_placeNew 21 = .ok (.aload_n 0, 1) := by decide +kernel
theorem dX1_placeNew_22 : decode cX1_placeNew 22 = .ok (.getfield 25, 3) := by decide +kernel
theorem dX1_placeNew_25 : decode cX1_placeNew 25 = .ok (.iconst 1, 1) := by decide +kernel
theorem dX1_placeNew_26 : decode cX1_placeNew 26 = .ok (.isub, 1) := by decide +kernel
theorem dX1_placeNew_27 : decode cX1_placeNew 27 = .ok (.iaload, 1) := by decide +kernel
theorem dX1_placeNew_28 : decode cX1_placeNew 28 = .ok (.iload_n 3, 1) := by decide +kernel
theorem dX1_placeNew_29 : decode cX1_placeNew 29 = .ok (.iload_n 1, 1) := by decide +kernel
theorem dX1_placeNew_30 : decode cX1_placeNew 30 = .ok (.invokevirtual 47, 3) := by decide +kernel
theorem dX1_placeNew_33 : decode cX1_placeNew 33 = .ok (.ifCond .ne 90, 3) := by decide +kernel
theorem dX1_placeNew_36 : decode cX1_placeNew 36 = .ok (.aload_n 0, 1) := by decide +kernel
theorem dX1_placeNew_37 : decode cX1_placeNew 37 = .ok (.dup, 1) := by decide +kernel
theorem dX1_placeNew_38 : decode cX1_placeNew 38 = .ok (.getfield 25, 3) := by decide +kernel
theorem dX1_placeNew_41 : decode cX1_placeNew 41 = .ok (.iconst 1, 1) := by decide +kernel
theorem dX1_placeNew_42 : decode cX1_placeNew 42 = .ok (.isub, 1) := by decide +kernel
theorem dX1_placeNew_43 : decode cX1_placeNew 43 = .ok (.putfield 25, 3) := by decide +kernel
theorem dX1_placeNew_46 : decode cX1_placeNew 46 = .ok (.aload_n 0, 1) := by decide +kernel
theorem dX1_placeNew_47 : decode cX1_placeNew 47 = .ok (.getfield 21, 3) := by decide +kernel
theorem dX1_placeNew_50 : decode cX1_placeNew 50 = .ok (.aload_n 0, 1) := by decide +kernel
theorem dX1_placeNew_51 : decode cX1_placeNew 51 = .ok (.getfield 25, 3) := by decide +kernel
theorem dX1_placeNew_54 : decode cX1_placeNew 54 = .ok (.iaload, 1) := by decide +kernel
theorem dX1_placeNew_55 : decode cX1_placeNew 55 = .ok (.istore 6, 2) := by decide +kernel
theorem dX1_placeNew_57 : decode cX1_placeNew 57 = .ok (.aload_n 0, 1) := by decide +kernel
theorem dX1_placeNew_58 : decode cX1_placeNew 58 = .ok (.getfield 9, 3) := by decide +kernel
theorem dX1_placeNew_61 : decode cX1_placeNew 61 = .ok (.getfield 28, 3) := by decide +kernel
theorem dX1_placeNew_64 : decode cX1_placeNew 64 = .ok (.iload 6, 2) := by decide +kernel
theorem dX1_placeNew_66 : decode cX1_placeNew 66 = .ok (.iaload, 1) := by decide +kernel
theorem dX1_placeNew_67 : decode cX1_placeNew 67 = .ok (.iload_n 1, 1) := by decide +kernel
theorem dX1_placeNew_68 : decode cX1_placeNew 68 = .ok (.if_icmp .ge 29, 3) := by decide +kernel
theorem dX1_placeNew_71 : decode cX1_placeNew 71 = .ok (.aload_n 0, 1) := by decide +kernel
theorem dX1_placeNew_72 : decode cX1_placeNew 72 = .ok (.getfield 9, 3) := by decide +kernel
theorem dX1_placeNew_75 : decode cX1_placeNew 75 = .ok (.iload 6, 2) := by decide +kernel
theorem dX1_placeNew_77 : decode cX1_placeNew 77 = .ok (.aload_n 0, 1) := by decide +kernel
theorem dX1_placeNew_78 : decode cX1_placeNew 78 = .ok (.getfield 9, 3) := by decide +kernel
theorem dX1_placeNew_81 : decode cX1_placeNew 81 = .ok (.getfield 34, 3) := by decide +kernel
theorem dX1_placeNew_84 : decode cX1_placeNew 84 = .ok (.iload 6, 2) := by decide +kernel
theorem dX1_placeNew_86 : decode cX1_placeNew 86 = .ok (.iaload, 1) := by decide +kernel
theorem dX1_placeNew_87 : decode cX1_placeNew 87 = .ok (.iload 4, 2) := by decide +kernel
theorem dX1_placeNew_89 : decode cX1_placeNew 89 = .ok (.invokevirtual 51, 3) := by decide +kernel
theorem dX1_placeNew_92 : decode cX1_placeNew 92 = .ok (.istore 4, 2) := by decide +kernel
theorem dX1_placeNew_94 : decode cX1_placeNew 94 = .ok (.goto 26, 3) := by decide +kernel
theorem dX1_placeNew_97 : decode cX1_placeNew 97 = .ok (.aload_n 0, 1) := by decide +kernel
theorem dX1_placeNew_98 : decode cX1_placeNew 98 = .ok (.getfield 9, 3) := by decide +kernel
theorem dX1_placeNew_101 : decode cX1_placeNew 101 = .ok (.iload 6, 2) := by decide +kernel
theorem dX1_placeNew_103 : decode cX1_placeNew 103 = .ok (.iload 5, 2) := by decide +kernel
theorem dX1_placeNew_105 : decode cX1_placeNew 105 = .ok (.aload_n 0, 1) := by decide +kernel
theorem dX1_placeNew_106 : decode cX1_placeNew 106 = .ok (.getfield 9, 3) := by decide +kernel
theorem dX1_placeNew_109 : decode cX1_placeNew 109 = .ok (.getfield 31, 3) := by decide +kernel
theorem dX1_placeNew_112 : decode cX1_placeNew 112 = .ok (.iload 6, 2) := by decide +kernel
theorem dX1_placeNew_114 : decode cX1_placeNew 114 = .ok (.iaload, 1) := by decide +kernel
theorem dX1_placeNew_115 : decode cX1_placeNew 115 = .ok (.invokevirtual 51, 3) := by decide +kernel
theorem dX1_placeNew_118 : decode cX1_placeNew 118 = .ok (.istore 5, 2) := by decide +kernel
theorem dX1_placeNew_120 : decode cX1_placeNew 120 = .ok (.goto (-114), 3) := by decide +kernel
theorem dX1_placeNew_123 : decode cX1_placeNew 123 = .ok (.aload_n 0, 1) := by decide +kernel
theorem dX1_placeNew_124 : decode cX1_placeNew 124 = .ok (.getfield 9, 3) := by decide +kernel
theorem dX1_placeNew_127 : decode cX1_placeNew 127 = .ok (.iload_n 1, 1) := by decide +kernel
theorem dX1_placeNew_128 : decode cX1_placeNew 128 = .ok (.iload_n 2, 1) := by decide +kernel
theorem dX1_placeNew_129 : decode cX1_placeNew 129 = .ok (.iload_n 3, 1) := by decide +kernel
theorem dX1_placeNew_130 : decode cX1_placeNew 130 = .ok (.iload 4, 2) := by decide +kernel
theorem dX1_placeNew_132 : decode cX1_placeNew 132 = .ok (.iload 5, 2) := by decide +kernel
theorem dX1_placeNew_134 : decode cX1_placeNew 134 = .ok (.invokevirtual 55, 3) := by decide +kernel
theorem dX1_placeNew_137 : decode cX1_placeNew 137 = .ok (.ireturn, 1) := by decide +kernel
set_option maxRecDepth 20000 in
theorem ggX1_copyOver_X0_copy : GoodIn wsX1_copyOver wsX0_copy := goodIn_r _ [11, 12, 13, 14, 15, 16, 17, 10, 18, 19, 20, 21, 22, 23, 24, 25, 26, 27, 28, 32, 33, 34, 35, 36, 37, 38, 39, 40, 41, 42] (by decide +kernel) (by decide +kernel)
set_option maxRecDepth 20000 in
theorem gX1_copyOver_X0_copy : GoodIn wsX1_copyOver (wsV RX1 51 RX0 yX0_copy wsX0_copy) := goodIn_app (goodIn_of _ (by decide +kernel)) ggX1_copyOver_X0_copy
theorem dX1_copyOver_0 : decode cX1_copyOver 0 = .ok (.iload_n 1, 1) := by decide +kernel
theorem dX1_copyOver_1 : decode cX1_copyOver 1 = .ok (.istore_n 3, 1) := by decide +kernel
theorem dX1_copyOver_2 : decode cX1_copyOver 2 = .ok (.aload_n 0, 1) := by decide +kernel
theorem dX1_copyOver_3 : decode cX1_copyOver 3 = .ok (.getfield 25, 3) := by decide +kernel
theorem dX1_copyOver_6 : decode cX1_copyOver 6 = .ok (.ifCond .le 85, 3) := by decide +kernel
theorem dX1_copyOver_9 : decode cX1_copyOver 9 = .ok (.aload_n 0, 1) := by decide +kernel
theorem dX1_copyOver_10 : decode cX1_copyOver 10 = .ok (.dup, 1) := by decide +kernel
theorem dX1_copyOver_11 : decode cX1_copyOver 11 = .ok (.getfield 25, 3) := by decide +kernel
theorem dX1_copyOver_14 : decode cX1_copyOver 14 = .ok (.iconst 1, 1) := by decide +kernel
theorem dX1_copyOver_15 : decode cX1_copyOver 15 = .ok (.isub, 1) := by decide +kernel
theorem dX1_copyOver_16 : decode cX1_copyOver 16 = .ok (.putfield 25, 3) := by decide +kernel
theorem dX1_copyOver_19 : decode cX1_copyOver 19 = .ok (.aload_n 0, 1) := by decide +kernel
theorem dX1_copyOver_20 : decode cX1_copyOver 20 = .ok (.getfield 21, 3) := by decide +kernel
theorem dX1_copyOver_23 : decode cX1_copyOver 23 = .ok (.aload_n 0, 1) := by decide +kernel
theorem dX1_copyOver_24 : decode cX1_copyOver 24 = .ok (.getfield 25, 3) := by decide +kernel
theorem dX1_copyOver_27 : decode cX1_copyOver 27 = .ok (.iaload, 1) := by decide +kernel
theorem dX1_copyOver_28 : decode cX1_copyOver 28 = .ok (.istore 4, 2) := by decide +kernel
theorem dX1_copyOver_30 : decode cX1_copyOver 30 = .ok (.aload_n 0, 1) := by decide +kernel
theorem dX1_copyOver_31 : decode cX1_copyOver 31 = .ok (.getfield 9, 3) := by decide +kernel
theorem dX1_copyOver_34 : decode cX1_copyOver 34 = .ok (.getfield 28, 3) := by decide +kernel
theorem dX1_copyOver_37 : decode cX1_copyOver 37 = .ok (.iload 4, 2) := by decide +kernel
theorem dX1_copyOver_39 : decode cX1_copyOver 39 = .ok (.iaload, 1) := by decide +kernel
theorem dX1_copyOver_40 : decode cX1_copyOver 40 = .ok (.iload_n 2, 1) := by decide +kernel
theorem dX1_copyOver_41 : decode cX1_copyOver 41 = .ok (.if_icmp .ge 26, 3) := by decide +kernel
theorem dX1_copyOver_44 : decode cX1_copyOver 44 = .ok (.aload_n 0, 1) := by decide +kernel
theorem dX1_copyOver_45 : decode cX1_copyOver 45 = .ok (.getfield 9, 3) := by decide +kernel
theorem dX1_copyOver_48 : decode cX1_copyOver 48 = .ok (.iload 4, 2) := by decide +kernel
theorem dX1_copyOver_50 : decode cX1_copyOver 50 = .ok (.aload_n 0, 1) := by decide +kernel
theorem dX1_copyOver_51 : decode cX1_copyOver 51 = .ok (.getfield 9, 3) := by decide +kernel
theorem dX1_copyOver_54 : decode cX1_copyOver 54 = .ok (.getfield 34, 3) := by decide +kernel
theorem dX1_copyOver_57 : decode cX1_copyOver 57 = .ok (.iload 4, 2) := by decide +kernel
theorem dX1_copyOver_59 : decode cX1_copyOver 59 = .ok (.iaload, 1) := by decide +kernel
theorem dX1_copyOver_60 : decode cX1_copyOver 60 = .ok (.iload_n 3, 1) := by decide +kernel
theorem dX1_copyOver_61 : decode cX1_copyOver 61 = .ok (.invokevirtual 51, 3) := by decide +kernel
theorem dX1_copyOver_64 : decode cX1_copyOver 64 = .ok (.goto 23, 3) := by decide +kernel
theorem dX1_copyOver_67 : decode cX1_copyOver 67 = .ok (.aload_n 0, 1) := by decide +kernel
theorem dX1_copyOver_68 : decode cX1_copyOver 68 = .ok (.getfield 9, 3) := by decide +kernel
theorem dX1_copyOver_71 : decode cX1_copyOver 71 = .ok (.iload 4, 2) := by decide +kernel
theorem dX1_copyOver_73 : decode cX1_copyOver 73 = .ok (.iload_n 3, 1) := by decide +kernel
theorem dX1_copyOver_74 : decode cX1_copyOver 74 = .ok (.aload_n 0, 1) := by decide +kernel
theorem dX1_copyOver_75 : decode cX1_copyOver 75 = .ok (.getfield 9, 3) := by decide +kernel
theorem dX1_copyOver_78 : decode cX1_copyOver 78 = .ok (.getfield 31, 3) := by decide +kernel
theorem dX1_copyOver_81 : decode cX1_copyOver 81 = .ok (.iload 4, 2) := by decide +kernel
theorem dX1_copyOver_83 : decode cX1_copyOver 83 = .ok (.iaload, 1) := by decide +kernel
theorem dX1_copyOver_84 : decode cX1_copyOver 84 = .ok (.invokevirtual 51, 3) := by decide +kernel
theorem dX1_copyOver_87 : decode cX1_copyOver 87 = .ok (.istore_n 3, 1) := by decide +kernel
theorem dX1_copyOver_88 : decode cX1_copyOver 88 = .ok (.goto (-86), 3) := by decide +kernel
theorem dX1_copyOver_91 : decode cX1_copyOver 91 = .ok (.iload_n 3, 1) := by decide +kernel
theorem dX1_copyOver_92 : decode cX1_copyOver 92 = .ok (.ireturn, 1) := by decide +kernel
set_option maxRecDepth 20000 in
theorem ggX2_init_X0_init : GoodIn wsX2_init wsX0_init := goodIn_r _ [19, 20, 2, 3, 21, 14, 22, 23, 24, 25, 26, 27, 12, 28, 29, 30, 38, 39, 40, 41, 42, 43, 44, 45, 46, 47, 48] (by decide +kernel) (by decide +kernel)
set_option maxRecDepth 20000 in
theorem gX2_init_X0_init : GoodIn wsX2_init (wsX0_init) := ggX2_init_X0_init
set_option maxRecDepth 20000 in
theorem ggX2_init_X1_init : GoodIn wsX2_init wsX1_init := goodIn_r _ [33, 34, 2, 3, 35, 36, 14, 37, 55, 56, 57, 38, 39, 40, 41, 42, 43, 44, 45, 46, 47, 48] (by decide +kernel) (by decide +kernel)
set_option maxRecDepth 20000 in
theorem gX2_init_X1_init : GoodIn wsX2_init (wsX1_init) := ggX2_init_X1_init
theorem dX2_init_0 : decode cX2_init 0 = .ok (.aload_n 0, 1) := by decide +kernel
theorem dX2_init_1 : decode cX2_init 1 = .ok (.invokespecial 1, 3) := by decide +kernel
theorem dX2_init_4 : decode cX2_init 4 = .ok (.iload_n 1, 1) := by decide +kernel
theorem dX2_init_5 : decode cX2_init 5 = .ok (.iconst 1, 1) := by decide +kernel
theorem dX2_init_6 : decode cX2_init 6 = .ok (.if_icmp .lt 13, 3) := by decide +kernel
theorem dX2_init_9 : decode cX2_init 9 = .ok (.iload_n 1, 1) := by decide +kernel
theorem dX2_init_10 : decode cX2_init 10 = .ok (.bipush 40, 2) := by decide +kernel
theorem dX2_init_12 : decode cX2_init 12 = .ok (.if_icmp .gt 7, 3) := by decide +kernel
theorem dX2_init_15 : decode cX2_init 15 = .ok (.iload_n 1, 1) := by decide +kernel
theorem dX2_init_16 : decode cX2_init 16 = .ok (.goto 5, 3) := by decide +kernel
theorem dX2_init_19 : decode cX2_init 19 = .ok (.bipush 20, 2) := by decide +kernel
theorem dX2_init_21 : decode cX2_init 21 = .ok (.istore 4, 2) := by decide +kernel
theorem dX2_init_23 : decode cX2_init 23 = .ok (.iload_n 2, 1) := by decide +kernel
theorem dX2_init_24 : decode cX2_init 24 = .ok (.iconst 1, 1) := by decide +kernel
theorem dX2_init_25 : decode cX2_init 25 = .ok (.if_icmp .lt 13, 3) := by decide +kernel
theorem dX2_init_28 : decode cX2_init 28 = .ok (.iload_n 2, 1) := by decide +kernel
theorem dX2_init_29 : decode cX2_init 29 = .ok (.bipush 8, 2) := by decide +kernel
theorem dX2_init_31 : decode cX2_init 31 = .ok (.if_icmp .gt 7, 3) := by decide +kernel
theorem dX2_init_34 : decode cX2_init 34 = .ok (.iload_n 2, 1) := by decide +kernel
theorem dX2_init_35 : decode cX2_init 35 = .ok (.goto 4, 3) := by decide +kernel
theorem dX2_init_38 : decode cX2_init 38 = .ok (.iconst 4, 1) := by decide +kernel
theorem dX2_init_39 : decode cX2_init 39 = .ok (.istore 5, 2) := by decide +kernel
theorem dX2_init_41 : decode cX2_init 41 = .ok (.new 9, 3) := by decide +kernel
theorem dX2_init_44 : decode cX2_init 44 = .ok (.dup, 1) := by decide +kernel
theorem dX2_init_45 : decode cX2_init 45 = .ok (.iload 4, 2) := by decide +kernel
theorem dX2_init_47 : decode cX2_init 47 = .ok (.invokespecial 11, 3) := by decide +kernel
theorem dX2_init_50 : decode cX2_init 50 = .ok (.astore 6, 2) := by decide +kernel
theorem dX2_init_52 : decode cX2_init 52 = .ok (.aload_n 0, 1) := by decide +kernel
theorem dX2_init_53 : decode cX2_init 53 = .ok (.aload 6, 2) := by decide +kernel
theorem dX2_init_55 : decode cX2_init 55 = .ok (.putfield 14, 3) := by decide +kernel
theorem dX2_init_58 : decode cX2_init 58 = .ok (.aload_n 0, 1) := by decide +kernel
theorem dX2_init_59 : decode cX2_init 59 = .ok (.new 18, 3) := by decide +kernel
theorem dX2_init_62 : decode cX2_init 62 = .ok (.dup, 1) := by decide +kernel
theorem dX2_init_63 : decode cX2_init 63 = .ok (.aload 6, 2) := by decide +kernel
theorem dX2_init_65 : decode cX2_init 65 = .ok (.invokespecial 20, 3) := by decide +kernel
theorem dX2_init_68 : decode cX2_init 68 = .ok (.putfield 23, 3) := by decide +kernel
theorem dX2_init_71 : decode cX2_init 71 = .ok (.aload_n 0, 1) := by decide +kernel
theorem dX2_init_72 : decode cX2_init 72 = .ok (.iload 5, 2) := by decide +kernel
theorem dX2_init_74 : decode cX2_init 74 = .ok (.newarray .boolean, 2) := by decide +kernel
theorem dX2_init_76 : decode cX2_init 76 = .ok (.putfield 27, 3) := by decide +kernel
theorem dX2_init_79 : decode cX2_init 79 = .ok (.aload_n 0, 1) := by decide +kernel
theorem dX2_init_80 : decode cX2_init 80 = .ok (.iload 5, 2) := by decide +kernel
theorem dX2_init_82 : decode cX2_init 82 = .ok (.newarray .int, 2) := by decide +kernel
theorem dX2_init_84 : decode cX2_init 84 = .ok (.putfield 31, 3) := by decide +kernel
theorem dX2_init_87 : decode cX2_init 87 = .ok (.aload_n 0, 1) := by decide +kernel
theorem dX2_init_88 : decode cX2_init 88 = .ok (.getfield 27, 3) := by decide +kernel
theorem dX2_init_91 : decode cX2_init 91 = .ok (.iconst 0, 1) := by decide +kernel
theorem dX2_init_92 : decode cX2_init 92 = .ok (.iconst 1, 1) := by decide +kernel
theorem dX2_init_93 : decode cX2_init 93 = .ok (.bastore, 1) := by decide +kernel
theorem dX2_init_94 : decode cX2_init 94 = .ok (.aload_n 0, 1) := by decide +kernel
theorem dX2_init_95 : decode cX2_init 95 = .ok (.iload_n 3, 1) := by decide +kernel
theorem dX2_init_96 : decode cX2_init 96 = .ok (.putfield 35, 3) := by decide +kernel
theorem dX2_init_99 : decode cX2_init 99 = .ok (.return_, 1) := by decide +kernel
set_option maxRecDepth 20000 in
theorem ggX2_put_X2_isLive : GoodIn wsX2_put wsX2_isLive := goodIn_r _ [12, 13, 106, 107, 108, 109, 110, 111] (by decide +kernel) (by decide +kernel)
set_option maxRecDepth 20000 in
theorem gX2_put_X2_isLive : GoodIn wsX2_put (wsV RX2 39 RX2 yX2_isLive wsX2_isLive) := goodIn_app (goodIn_of _ (by decide +kernel)) ggX2_put_X2_isLive
set_option maxRecDepth 20000 in
theorem ggX2_put_X1_noteTo : GoodIn wsX2_put wsX1_noteTo := goodIn_r _ [18, 19, 20, 21, 22, 23, 24, 112, 113, 114, 115, 116, 117, 118, 119, 120, 121, 122, 123, 124, 125] (by decide +kernel) (by decide +kernel)
set_option maxRecDepth 20000 in
theorem gX2_put_X1_noteTo : GoodIn wsX2_put (wsV RX2 43 RX1 yX1_noteTo wsX1_noteTo) := goodIn_app (goodIn_of _ (by decide +kernel)) ggX2_put_X1_noteTo
set_option maxRecDepth 20000 in
theorem ggX2_put_X2_handleFor : GoodIn wsX2_put wsX2_handleFor := goodIn_r _ [28, 13, 29, 30, 31, 11, 32, 4, 33, 34, 35, 36, 37, 38, 39, 40, 41, 42, 43, 44, 2, 45, 46, 47, 48, 49, 50, 51, 52, 53, 54, 55, 56, 57, 58, 59, 60, 61, 62, 63, 64, 65, 106, 107, 108, 109, 110, 111, 115, 116, 117, 118, 119, 120, 121, 122, 123, 124, 125] (by decide +kernel) (by decide +kernel)
set_option maxRecDepth 20000 in
theorem gX2_put_X2_handleFor : GoodIn wsX2_put (wsV RX2 50 RX2 yX2_handleFor wsX2_handleFor) := goodIn_app (goodIn_of _ (by decide +kernel)) ggX2_put_X2_handleFor
set_option maxRecDepth 20000 in
theorem ggX2_put_X2_drawWeight : GoodIn wsX2_put wsX2_drawWeight := goodIn_r _ [69, 70, 71, 106, 107, 108, 109, 110, 111] (by decide +kernel) (by decide +kernel)
set_option maxRecDepth 20000 in
theorem gX2_put_X2_drawWeight : GoodIn wsX2_put (wsV RX2 54 RX2 yX2_drawWeight wsX2_drawWeight) := goodIn_app (goodIn_of _ (by decide +kernel)) ggX2_put_X2_drawWeight
set_option maxRecDepth 20000 in
theorem ggX2_put_X1_placeNew : GoodIn wsX2_put wsX1_placeNew := goodIn_r _ [75, 19, 21, 20, 22, 24, 23, 76, 77, 78, 37, 79, 80, 81, 82, 83, 84, 85, 86, 87, 88, 89, 90, 65, 39, 55, 56, 91, 92, 93, 94, 95, 40, 96, 112, 113, 114, 115, 116, 117, 118, 119, 120, 121, 122, 123, 124, 125] (by decide +kernel) (by decide +kernel)
set_option maxRecDepth 20000 in
theorem gX2_put_X1_placeNew : GoodIn wsX2_put (wsV RX2 58 RX1 yX1_placeNew wsX1_placeNew) := goodIn_app (goodIn_of _ (by decide +kernel)) ggX2_put_X1_placeNew
set_option maxRecDepth 20000 in
theorem ggX2_put_X0_fresh : GoodIn wsX2_put wsX0_fresh := goodIn_r _ [90, 65, 39, 81, 86, 80, 55, 56, 91, 92, 93, 94, 37, 95, 40, 115, 116, 117, 118, 119, 120, 121, 122, 123, 124, 125] (by decide +kernel) (by decide +kernel)
set_option maxRecDepth 20000 in
theorem gX2_put_X0_fresh : GoodIn wsX2_put (wsV RX2 71 RX0 yX0_fresh wsX0_fresh) := goodIn_app (goodIn_of _ (by decide +kernel)) ggX2_put_X0_fresh
set_option maxRecDepth 20000 in
theorem ggX2_put_X1_copyOver : GoodIn wsX2_put wsX1_copyOver := goodIn_r _ [101, 19, 20, 21, 22, 24, 23, 82, 83, 84, 37, 85, 81, 86, 80, 87, 88, 89, 90, 65, 39, 55, 56, 91, 92, 93, 94, 95, 40, 112, 113, 114, 115, 116, 117, 118, 119, 120, 121, 122, 123, 124, 125] (by decide +kernel) (by decide +kernel)
set_option maxRecDepth 20000 in
theorem gX2_put_X1_copyOver : GoodIn wsX2_put (wsV RX2 75 RX1 yX1_copyOver wsX1_copyOver) := goodIn_app (goodIn_of _ (by decide +kernel)) ggX2_put_X1_copyOver
set_option maxRecDepth 20000 in
theorem ggX2_put_X2_open : GoodIn wsX2_put wsX2_open := goodIn_r _ [105, 13, 2, 106, 107, 108, 109, 110, 111] (by decide +kernel) (by decide +kernel)
set_option maxRecDepth 20000 in
theorem gX2_put_X2_open : GoodIn wsX2_put (wsV RX2 78 RX2 yX2_open wsX2_open) := goodIn_app (goodIn_of _ (by decide +kernel)) ggX2_put_X2_open
theorem dX2_put_0 : decode cX2_put 0 = .ok (.aload_n 0, 1) := by decide +kernel
theorem dX2_put_1 : decode cX2_put 1 = .ok (.iload_n 1, 1) := by decide +kernel
theorem dX2_put_2 : decode cX2_put 2 = .ok (.invokevirtual 39, 3) := by decide +kernel
theorem dX2_put_5 : decode cX2_put 5 = .ok (.ifCond .ne 5, 3) := by decide +kernel
theorem dX2_put_8 : decode cX2_put 8 = .ok (.iconst (-1), 1) := by decide +kernel
theorem dX2_put_9 : decode cX2_put 9 = .ok (.ireturn, 1) := by decide +kernel
theorem dX2_put_10 : decode cX2_put 10 = .ok (.aload_n 0, 1) := by decide +kernel
theorem dX2_put_11 : decode cX2_put 11 = .ok (.getfield 23, 3) := by decide +kernel
theorem dX2_put_14 : decode cX2_put 14 = .ok (.aload_n 0, 1) := by decide +kernel
theorem dX2_put_15 : decode cX2_put 15 = .ok (.getfield 31, 3) := by decide +kernel
theorem dX2_put_18 : decode cX2_put 18 = .ok (.iload_n 1, 1) := by decide +kernel
theorem dX2_put_19 : decode cX2_put 19 = .ok (.iaload, 1) := by decide +kernel
theorem dX2_put_20 : decode cX2_put 20 = .ok (.iload_n 2, 1) := by decide +kernel
theorem dX2_put_21 : decode cX2_put 21 = .ok (.invokevirtual 43, 3) := by decide +kernel
theorem dX2_put_24 : decode cX2_put 24 = .ok (.istore 4, 2) := by decide +kernel
theorem dX2_put_26 : decode cX2_put 26 = .ok (.aload_n 0, 1) := by decide +kernel
theorem dX2_put_27 : decode cX2_put 27 = .ok (.aload_n 0, 1) := by decide +kernel
theorem dX2_put_28 : decode cX2_put 28 = .ok (.getfield 23, 3) := by decide +kernel
theorem dX2_put_31 : decode cX2_put 31 = .ok (.getfield 47, 3) := by decide +kernel
theorem dX2_put_34 : decode cX2_put 34 = .ok (.iconst 1, 1) := by decide +kernel
theorem dX2_put_35 : decode cX2_put 35 = .ok (.iadd, 1) := by decide +kernel
theorem dX2_put_36 : decode cX2_put 36 = .ok (.invokevirtual 50, 3) := by decide +kernel
theorem dX2_put_39 : decode cX2_put 39 = .ok (.istore 5, 2) := by decide +kernel
theorem dX2_put_41 : decode cX2_put 41 = .ok (.iload 5, 2) := by decide +kernel
theorem dX2_put_43 : decode cX2_put 43 = .ok (.ifCond .ge 6, 3) := by decide +kernel
theorem dX2_put_46 : decode cX2_put 46 = .ok (.iload 5, 2) := by decide +kernel
theorem dX2_put_48 : decode cX2_put 48 = .ok (.ireturn, 1) := by decide +kernel
theorem dX2_put_49 : decode cX2_put 49 = .ok (.iload 4, 2) := by decide +kernel
theorem dX2_put_51 : decode cX2_put 51 = .ok (.ifCond .ne 19, 3) := by decide +kernel
theorem dX2_put_54 : decode cX2_put 54 = .ok (.aload_n 0, 1) := by decide +kernel
theorem dX2_put_55 : decode cX2_put 55 = .ok (.getfield 23, 3) := by decide +kernel
theorem dX2_put_58 : decode cX2_put 58 = .ok (.iload_n 2, 1) := by decide +kernel
theorem dX2_put_59 : decode cX2_put 59 = .ok (.iload_n 3, 1) := by decide +kernel
theorem dX2_put_60 : decode cX2_put 60 = .ok (.aload_n 0, 1) := by decide +kernel
theorem dX2_put_61 : decode cX2_put 61 = .ok (.invokevirtual 54, 3) := by decide +kernel
theorem dX2_put_64 : decode cX2_put 64 = .ok (.invokevirtual 58, 3) := by decide +kernel
theorem dX2_put_67 : decode cX2_put 67 = .ok (.goto 42, 3) := by decide +kernel
theorem dX2_put_70 : decode cX2_put 70 = .ok (.aload_n 0, 1) := by decide +kernel
theorem dX2_put_71 : decode cX2_put 71 = .ok (.getfield 14, 3) := by decide +kernel
theorem dX2_put_74 : decode cX2_put 74 = .ok (.iload_n 2, 1) := by decide +kernel
theorem dX2_put_75 : decode cX2_put 75 = .ok (.iload_n 3, 1) := by decide +kernel
theorem dX2_put_76 : decode cX2_put 76 = .ok (.aload_n 0, 1) := by decide +kernel
theorem dX2_put_77 : decode cX2_put 77 = .ok (.getfield 14, 3) := by decide +kernel
theorem dX2_put_80 : decode cX2_put 80 = .ok (.getfield 62, 3) := by decide +kernel
theorem dX2_put_83 : decode cX2_put 83 = .ok (.iload 4, 2) := by decide +kernel
theorem dX2_put_85 : decode cX2_put 85 = .ok (.iaload, 1) := by decide +kernel
theorem dX2_put_86 : decode cX2_put 86 = .ok (.aload_n 0, 1) := by decide +kernel
theorem dX2_put_87 : decode cX2_put 87 = .ok (.getfield 14, 3) := by decide +kernel
theorem dX2_put_90 : decode cX2_put 90 = .ok (.getfield 65, 3) := by decide +kernel
theorem dX2_put_93 : decode cX2_put 93 = .ok (.iload 4, 2) := by decide +kernel
theorem dX2_put_95 : decode cX2_put 95 = .ok (.iaload, 1) := by decide +kernel
theorem dX2_put_96 : decode cX2_put 96 = .ok (.aload_n 0, 1) := by decide +kernel
theorem dX2_put_97 : decode cX2_put 97 = .ok (.getfield 14, 3) := by decide +kernel
theorem dX2_put_100 : decode cX2_put 100 = .ok (.getfield 68, 3) := by decide +kernel
theorem dX2_put_103 : decode cX2_put 103 = .ok (.iload 4, 2) := by decide +kernel
theorem dX2_put_105 : decode cX2_put 105 = .ok (.iaload, 1) := by decide +kernel
theorem dX2_put_106 : decode cX2_put 106 = .ok (.invokevirtual 71, 3) := by decide +kernel
theorem dX2_put_109 : decode cX2_put 109 = .ok (.istore 6, 2) := by decide +kernel
theorem dX2_put_111 : decode cX2_put 111 = .ok (.aload_n 0, 1) := by decide +kernel
theorem dX2_put_112 : decode cX2_put 112 = .ok (.iload 5, 2) := by decide +kernel
theorem dX2_put_114 : decode cX2_put 114 = .ok (.aload_n 0, 1) := by decide +kernel
theorem dX2_put_115 : decode cX2_put 115 = .ok (.getfield 23, 3) := by decide +kernel
theorem dX2_put_118 : decode cX2_put 118 = .ok (.iload 6, 2) := by decide +kernel
theorem dX2_put_120 : decode cX2_put 120 = .ok (.iload_n 2, 1) := by decide +kernel
theorem dX2_put_121 : decode cX2_put 121 = .ok (.invokevirtual 75, 3) := by decide +kernel
theorem dX2_put_124 : decode cX2_put 124 = .ok (.invokevirtual 78, 3) := by decide +kernel
theorem dX2_put_127 : decode cX2_put 127 = .ok (.ireturn, 1) := by decide +kernel
set_option maxRecDepth 20000 in
theorem ggX2_remove_X2_isLive : GoodIn wsX2_remove wsX2_isLive := goodIn_r _ [8, 9, 100, 101, 102, 103, 104, 105] (by decide +kernel) (by decide +kernel)
set_option maxRecDepth 20000 in
theorem gX2_remove_X2_isLive : GoodIn wsX2_remove (wsV RX2 39 RX2 yX2_isLive wsX2_isLive) := goodIn_app (goodIn_of _ (by decide +kernel)) ggX2_remove_X2_isLive
set_option maxRecDepth 20000 in
theorem ggX2_remove_X1_noteRemoval : GoodIn wsX2_remove wsX1_noteRemoval := goodIn_r _ [14, 15, 16, 17, 18, 19, 20, 21, 13, 22, 23, 24, 25, 26, 27, 28, 29, 30, 31, 32, 33, 34, 35, 36, 106, 107, 108, 109, 110, 111, 112, 113, 114, 115, 116, 117, 118, 119] (by decide +kernel) (by decide +kernel)
set_option maxRecDepth 20000 in
theorem gX2_remove_X1_noteRemoval : GoodIn wsX2_remove (wsV RX2 81 RX1 yX1_noteRemoval wsX1_noteRemoval) := goodIn_app (goodIn_of _ (by decide +kernel)) ggX2_remove_X1_noteRemoval
set_option maxRecDepth 20000 in
theorem ggX2_remove_X2_handleFor : GoodIn wsX2_remove wsX2_handleFor := goodIn_r _ [40, 9, 41, 42, 43, 7, 44, 45, 46, 47, 48, 49, 33, 50, 51, 52, 53, 54, 55, 56, 2, 57, 58, 59, 60, 61, 62, 63, 64, 65, 66, 67, 68, 69, 70, 71, 72, 73, 74, 75, 76, 77, 100, 101, 102, 103, 104, 105, 109, 110, 111, 112, 113, 114, 115, 116, 117, 118, 119] (by decide +kernel) (by decide +kernel)
set_option maxRecDepth 20000 in
theorem gX2_remove_X2_handleFor : GoodIn wsX2_remove (wsV RX2 50 RX2 yX2_handleFor wsX2_handleFor) := goodIn_app (goodIn_of _ (by decide +kernel)) ggX2_remove_X2_handleFor
set_option maxRecDepth 20000 in
theorem ggX2_remove_X1_copyOver : GoodIn wsX2_remove wsX1_copyOver := goodIn_r _ [81, 15, 23, 16, 24, 17, 18, 82, 83, 84, 33, 85, 36, 86, 35, 87, 88, 89, 90, 77, 51, 67, 68, 91, 92, 93, 94, 95, 52, 106, 107, 108, 109, 110, 111, 112, 113, 114, 115, 116, 117, 118, 119] (by decide +kernel) (by decide +kernel)
set_option maxRecDepth 20000 in
theorem gX2_remove_X1_copyOver : GoodIn wsX2_remove (wsV RX2 75 RX1 yX1_copyOver wsX1_copyOver) := goodIn_app (goodIn_of _ (by decide +kernel)) ggX2_remove_X1_copyOver
set_option maxRecDepth 20000 in
theorem ggX2_remove_X2_open : GoodIn wsX2_remove wsX2_open := goodIn_r _ [99, 9, 2, 100, 101, 102, 103, 104, 105] (by decide +kernel) (by decide +kernel)
set_option maxRecDepth 20000 in
theorem gX2_remove_X2_open : GoodIn wsX2_remove (wsV RX2 78 RX2 yX2_open wsX2_open) := goodIn_app (goodIn_of _ (by decide +kernel)) ggX2_remove_X2_open
theorem dX2_remove_0 : decode cX2_remove 0 = .ok (.aload_n 0, 1) := by decide +kernel
theorem dX2_remove_1 : decode cX2_remove 1 = .ok (.iload_n 1, 1) := by decide +kernel
theorem dX2_remove_2 : decode cX2_remove 2 = .ok (.invokevirtual 39, 3) := by decide +kernel
theorem dX2_remove_5 : decode cX2_remove 5 = .ok (.ifCond .ne 5, 3) := by decide +kernel
theorem dX2_remove_8 : decode cX2_remove 8 = .ok (.iconst (-1), 1) := by decide +kernel
theorem dX2_remove_9 : decode cX2_remove 9 = .ok (.ireturn, 1) := by decide +kernel
theorem dX2_remove_10 : decode cX2_remove 10 = .ok (.aload_n 0, 1) := by decide +kernel
theorem dX2_remove_11 : decode cX2_remove 11 = .ok (.getfield 23, 3) := by decide +kernel
theorem dX2_remove_14 : decode cX2_remove 14 = .ok (.aload_n 0, 1) := by decide +kernel
theorem dX2_remove_15 : decode cX2_remove 15 = .ok (.getfield 31, 3) := by decide +kernel
theorem dX2_remove_18 : decode cX2_remove 18 = .ok (.iload_n 1, 1) := by decide +kernel
theorem dX2_remove_19 : decode cX2_remove 19 = .ok (.iaload, 1) := by decide +kernel
theorem dX2_remove_20 : decode cX2_remove 20 = .ok (.iload_n 2, 1) := by decide +kernel
theorem dX2_remove_21 : decode cX2_remove 21 = .ok (.invokevirtual 81, 3) := by decide +kernel
theorem dX2_remove_24 : decode cX2_remove 24 = .ok (.istore_n 3, 1) := by decide +kernel
theorem dX2_remove_25 : decode cX2_remove 25 = .ok (.aload_n 0, 1) := by decide +kernel
theorem dX2_remove_26 : decode cX2_remove 26 = .ok (.aload_n 0, 1) := by decide +kernel
theorem dX2_remove_27 : decode cX2_remove 27 = .ok (.getfield 23, 3) := by decide +kernel
theorem dX2_remove_30 : decode cX2_remove 30 = .ok (.getfield 47, 3) := by decide +kernel
theorem dX2_remove_33 : decode cX2_remove 33 = .ok (.invokevirtual 50, 3) := by decide +kernel
theorem dX2_remove_36 : decode cX2_remove 36 = .ok (.istore 4, 2) := by decide +kernel
theorem dX2_remove_38 : decode cX2_remove 38 = .ok (.iload 4, 2) := by decide +kernel
theorem dX2_remove_40 : decode cX2_remove 40 = .ok (.ifCond .ge 8, 3) := by decide +kernel
theorem dX2_remove_43 : decode cX2_remove 43 = .ok (.iload 4, 2) := by decide +kernel
theorem dX2_remove_45 : decode cX2_remove 45 = .ok (.goto 18, 3) := by decide +kernel
theorem dX2_remove_48 : decode cX2_remove 48 = .ok (.aload_n 0, 1) := by decide +kernel
theorem dX2_remove_49 : decode cX2_remove 49 = .ok (.iload 4, 2) := by decide +kernel
theorem dX2_remove_51 : decode cX2_remove 51 = .ok (.aload_n 0, 1) := by decide +kernel
theorem dX2_remove_52 : decode cX2_remove 52 = .ok (.getfield 23, 3) := by decide +kernel
theorem dX2_remove_55 : decode cX2_remove 55 = .ok (.iload_n 3, 1) := by decide +kernel
theorem dX2_remove_56 : decode cX2_remove 56 = .ok (.iload_n 2, 1) := by decide +kernel
theorem dX2_remove_57 : decode cX2_remove 57 = .ok (.invokevirtual 75, 3) := by decide +kernel
theorem dX2_remove_60 : decode cX2_remove 60 = .ok (.invokevirtual 78, 3) := by decide +kernel
theorem dX2_remove_63 : decode cX2_remove 63 = .ok (.ireturn, 1) := by decide +kernel
set_option maxRecDepth 20000 in
theorem ggX2_below_X2_isLive : GoodIn wsX2_below wsX2_isLive := goodIn_r _ [8, 9, 87, 88, 89, 90, 91, 92] (by decide +kernel) (by decide +kernel)
set_option maxRecDepth 20000 in
theorem gX2_below_X2_isLive : GoodIn wsX2_below (wsV RX2 39 RX2 yX2_isLive wsX2_isLive) := goodIn_app (goodIn_of _ (by decide +kernel)) ggX2_below_X2_isLive
set_option maxRecDepth 20000 in
theorem ggX2_below_X1_noteLesser : GoodIn wsX2_below wsX1_noteLesser := goodIn_r _ [14, 15, 16, 17, 18, 19, 20, 93, 94, 95, 96, 97, 98, 99, 100, 101, 102, 103, 104, 105, 106] (by decide +kernel) (by decide +kernel)
set_option maxRecDepth 20000 in
theorem gX2_below_X1_noteLesser : GoodIn wsX2_below (wsV RX2 84 RX1 yX1_noteLesser wsX1_noteLesser) := goodIn_app (goodIn_of _ (by decide +kernel)) ggX2_below_X1_noteLesser
set_option maxRecDepth 20000 in
theorem ggX2_below_X2_handleFor : GoodIn wsX2_below wsX2_handleFor := goodIn_r _ [24, 9, 25, 26, 27, 7, 28, 29, 30, 31, 32, 33, 34, 35, 36, 37, 38, 39, 40, 41, 2, 42, 43, 44, 45, 46, 47, 48, 49, 50, 51, 52, 53, 54, 55, 56, 57, 58, 59, 60, 61, 62, 87, 88, 89, 90, 91, 92, 96, 97, 98, 99, 100, 101, 102, 103, 104, 105, 106] (by decide +kernel) (by decide +kernel)
set_option maxRecDepth 20000 in
theorem gX2_below_X2_handleFor : GoodIn wsX2_below (wsV RX2 50 RX2 yX2_handleFor wsX2_handleFor) := goodIn_app (goodIn_of _ (by decide +kernel)) ggX2_below_X2_handleFor
set_option maxRecDepth 20000 in
theorem ggX2_below_X1_copyOver : GoodIn wsX2_below wsX1_copyOver := goodIn_r _ [66, 15, 16, 17, 18, 20, 19, 67, 68, 69, 34, 70, 71, 72, 73, 74, 75, 76, 77, 62, 36, 52, 53, 78, 79, 80, 81, 82, 37, 93, 94, 95, 96, 97, 98, 99, 100, 101, 102, 103, 104, 105, 106] (by decide +kernel) (by decide +kernel)
set_option maxRecDepth 20000 in
theorem gX2_below_X1_copyOver : GoodIn wsX2_below (wsV RX2 75 RX1 yX1_copyOver wsX1_copyOver) := goodIn_app (goodIn_of _ (by decide +kernel)) ggX2_below_X1_copyOver
set_option maxRecDepth 20000 in
theorem ggX2_below_X2_open : GoodIn wsX2_below wsX2_open := goodIn_r _ [86, 9, 2, 87, 88, 89, 90, 91, 92] (by decide +kernel) (by decide +kernel)
set_option maxRecDepth 20000 in
theorem gX2_below_X2_open : GoodIn wsX2_below (wsV RX2 78 RX2 yX2_open wsX2_open) := goodIn_app (goodIn_of _ (by decide +kernel)) ggX2_below_X2_open
theorem dX2_below_0 : decode cX2_below 0 = .ok (.aload_n 0, 1) := by decide +kernel
theorem dX2_below_1 : decode cX2_below 1 = .ok (.iload_n 1, 1) := by decide +kernel
theorem dX2_below_2 : decode cX2_below 2 = .ok (.invokevirtual 39, 3) := by decide +kernel
theorem dX2_below_5 : decode cX2_below 5 = .ok (.ifCond .ne 5, 3) := by decide +kernel
theorem dX2_below_8 : decode cX2_below 8 = .ok (.iconst (-1), 1) := by decide +kernel
theorem dX2_below_9 : decode cX2_below 9 = .ok (.ireturn, 1) := by decide +kernel
theorem dX2_below_10 : decode cX2_below 10 = .ok (.aload_n 0, 1) := by decide +kernel
theorem dX2_below_11 : decode cX2_below 11 = .ok (.getfield 23, 3) := by decide +kernel
theorem dX2_below_14 : decode cX2_below 14 = .ok (.aload_n 0, 1) := by decide +kernel
theorem dX2_below_15 : decode cX2_below 15 = .ok (.getfield 31, 3) := by decide +kernel
theorem dX2_below_18 : decode cX2_below 18 = .ok (.iload_n 1, 1) := by decide +kernel
theorem dX2_below_19 : decode cX2_below 19 = .ok (.iaload, 1) := by decide +kernel
theorem dX2_below_20 : decode cX2_below 20 = .ok (.iload_n 2, 1) := by decide +kernel
theorem dX2_below_21 : decode cX2_below 21 = .ok (.invokevirtual 84, 3) := by decide +kernel
theorem dX2_below_24 : decode cX2_below 24 = .ok (.aload_n 0, 1) := by decide +kernel
theorem dX2_below_25 : decode cX2_below 25 = .ok (.aload_n 0, 1) := by decide +kernel
theorem dX2_below_26 : decode cX2_below 26 = .ok (.getfield 23, 3) := by decide +kernel
theorem dX2_below_29 : decode cX2_below 29 = .ok (.getfield 47, 3) := by decide +kernel
theorem dX2_below_32 : decode cX2_below 32 = .ok (.invokevirtual 50, 3) := by decide +kernel
theorem dX2_below_35 : decode cX2_below 35 = .ok (.istore_n 3, 1) := by decide +kernel
theorem dX2_below_36 : decode cX2_below 36 = .ok (.iload_n 3, 1) := by decide +kernel
theorem dX2_below_37 : decode cX2_below 37 = .ok (.ifCond .ge 7, 3) := by decide +kernel
theorem dX2_below_40 : decode cX2_below 40 = .ok (.iload_n 3, 1) := by decide +kernel
theorem dX2_below_41 : decode cX2_below 41 = .ok (.goto 17, 3) := by decide +kernel
theorem dX2_below_44 : decode cX2_below 44 = .ok (.aload_n 0, 1) := by decide +kernel
theorem dX2_below_45 : decode cX2_below 45 = .ok (.iload_n 3, 1) := by decide +kernel
theorem dX2_below_46 : decode cX2_below 46 = .ok (.aload_n 0, 1) := by decide +kernel
theorem dX2_below_47 : decode cX2_below 47 = .ok (.getfield 23, 3) := by decide +kernel
theorem dX2_below_50 : decode cX2_below 50 = .ok (.iconst 0, 1) := by decide +kernel
theorem dX2_below_51 : decode cX2_below 51 = .ok (.iload_n 2, 1) := by decide +kernel
theorem dX2_below_52 : decode cX2_below 52 = .ok (.invokevirtual 75, 3) := by decide +kernel
theorem dX2_below_55 : decode cX2_below 55 = .ok (.invokevirtual 78, 3) := by decide +kernel
theorem dX2_below_58 : decode cX2_below 58 = .ok (.ireturn, 1) := by decide +kernel
set_option maxRecDepth 20000 in
theorem ggX2_join_X2_isLive : GoodIn wsX2_join wsX2_isLive := goodIn_r _ [11, 12, 98, 99, 100, 101, 102, 103] (by decide +kernel) (by decide +kernel)
set_option maxRecDepth 20000 in
theorem gX2_join_X2_isLive : GoodIn wsX2_join (wsV RX2 39 RX2 yX2_isLive wsX2_isLive) := goodIn_app (goodIn_of _ (by decide +kernel)) ggX2_join_X2_isLive
set_option maxRecDepth 20000 in
theorem ggX2_join_X0_nodeAt : GoodIn wsX2_join wsX0_nodeAt := goodIn_r _ [17, 18, 19, 20, 21, 104, 105, 106, 107, 108, 109, 110, 111, 112, 113, 114] (by decide +kernel) (by decide +kernel)
set_option maxRecDepth 20000 in
theorem gX2_join_X0_nodeAt : GoodIn wsX2_join (wsV RX2 91 RX0 yX0_nodeAt wsX0_nodeAt) := goodIn_app (goodIn_of _ (by decide +kernel)) ggX2_join_X0_nodeAt
set_option maxRecDepth 20000 in
theorem ggX2_join_X1_noteJoint : GoodIn wsX2_join wsX1_noteJoint := goodIn_r _ [26, 27, 28, 29, 30, 31, 32, 33, 34, 35, 36, 16, 37, 38, 39, 115, 116, 117, 104, 105, 106, 107, 108, 109, 110, 111, 112, 113, 114] (by decide +kernel) (by decide +kernel)
set_option maxRecDepth 20000 in
theorem gX2_join_X1_noteJoint : GoodIn wsX2_join (wsV RX2 97 RX1 yX1_noteJoint wsX1_noteJoint) := goodIn_app (goodIn_of _ (by decide +kernel)) ggX2_join_X1_noteJoint
set_option maxRecDepth 20000 in
theorem ggX2_join_X2_handleFor : GoodIn wsX2_join wsX2_handleFor := goodIn_r _ [43, 12, 44, 45, 46, 10, 47, 2, 48, 49, 50, 51, 16, 52, 53, 18, 54, 55, 56, 57, 1, 58, 59, 60, 61, 62, 63, 64, 65, 66, 67, 20, 21, 68, 69, 70, 71, 72, 73, 74, 75, 76, 98, 99, 100, 101, 102, 103, 104, 105, 106, 107, 108, 109, 110, 111, 112, 113, 114] (by decide +kernel) (by decide +kernel)
set_option maxRecDepth 20000 in
theorem gX2_join_X2_handleFor : GoodIn wsX2_join (wsV RX2 50 RX2 yX2_handleFor wsX2_handleFor) := goodIn_app (goodIn_of _ (by decide +kernel)) ggX2_join_X2_handleFor
set_option maxRecDepth 20000 in
theorem ggX2_join_X1_copyOver : GoodIn wsX2_join wsX1_copyOver := goodIn_r _ [80, 27, 28, 29, 31, 33, 32, 81, 82, 83, 16, 84, 39, 85, 38, 86, 87, 88, 89, 76, 53, 20, 21, 19, 90, 91, 92, 93, 18, 115, 116, 117, 104, 105, 106, 107, 108, 109, 110, 111, 112, 113, 114] (by decide +kernel) (by decide +kernel)
set_option maxRecDepth 20000 in
theorem gX2_join_X1_copyOver : GoodIn wsX2_join (wsV RX2 75 RX1 yX1_copyOver wsX1_copyOver) := goodIn_app (goodIn_of _ (by decide +kernel)) ggX2_join_X1_copyOver
set_option maxRecDepth 20000 in
theorem ggX2_join_X2_open : GoodIn wsX2_join wsX2_open := goodIn_r _ [97, 12, 1, 98, 99, 100, 101, 102, 103] (by decide +kernel) (by decide +kernel)
set_option maxRecDepth 20000 in
theorem gX2_join_X2_open : GoodIn wsX2_join (wsV RX2 78 RX2 yX2_open wsX2_open) := goodIn_app (goodIn_of _ (by decide +kernel)) ggX2_join_X2_open
theorem dX2_join_0 : decode cX2_join 0 = .ok (.aload_n 0, 1) := by decide +kernel
theorem dX2_join_1 : decode cX2_join 1 = .ok (.iload_n 1, 1) := by decide +kernel
theorem dX2_join_2 : decode cX2_join 2 = .ok (.invokevirtual 39, 3) := by decide +kernel
theorem dX2_join_5 : decode cX2_join 5 = .ok (.ifCond .eq 11, 3) := by decide +kernel
theorem dX2_join_8 : decode cX2_join 8 = .ok (.aload_n 0, 1) := by decide +kernel
theorem dX2_join_9 : decode cX2_join 9 = .ok (.iload_n 2, 1) := by decide +kernel
theorem dX2_join_10 : decode cX2_join 10 = .ok (.invokevirtual 39, 3) := by decide +kernel
theorem dX2_join_13 : decode cX2_join 13 = .ok (.ifCond .ne 5, 3) := by decide +kernel
theorem dX2_join_16 : decode cX2_join 16 = .ok (.iconst (-1), 1) := by decide +kernel
theorem dX2_join_17 : decode cX2_join 17 = .ok (.ireturn, 1) := by decide +kernel
theorem dX2_join_18 : decode cX2_join 18 = .ok (.aload_n 0, 1) := by decide +kernel
theorem dX2_join_19 : decode cX2_join 19 = .ok (.getfield 31, 3) := by decide +kernel
theorem dX2_join_22 : decode cX2_join 22 = .ok (.iload_n 1, 1) := by decide +kernel
theorem dX2_join_23 : decode cX2_join 23 = .ok (.iaload, 1) := by decide +kernel
theorem dX2_join_24 : decode cX2_join 24 = .ok (.istore_n 3, 1) := by decide +kernel
theorem dX2_join_25 : decode cX2_join 25 = .ok (.aload_n 0, 1) := by decide +kernel
theorem dX2_join_26 : decode cX2_join 26 = .ok (.getfield 31, 3) := by decide +kernel
theorem dX2_join_29 : decode cX2_join 29 = .ok (.iload_n 2, 1) := by decide +kernel
theorem dX2_join_30 : decode cX2_join 30 = .ok (.iaload, 1) := by decide +kernel
theorem dX2_join_31 : decode cX2_join 31 = .ok (.istore 4, 2) := by decide +kernel
theorem dX2_join_33 : decode cX2_join 33 = .ok (.aload_n 0, 1) := by decide +kernel
theorem dX2_join_34 : decode cX2_join 34 = .ok (.getfield 14, 3) := by decide +kernel
theorem dX2_join_37 : decode cX2_join 37 = .ok (.iload_n 3, 1) := by decide +kernel
theorem dX2_join_38 : decode cX2_join 38 = .ok (.aload_n 0, 1) := by decide +kernel
theorem dX2_join_39 : decode cX2_join 39 = .ok (.getfield 14, 3) := by decide +kernel
theorem dX2_join_42 : decode cX2_join 42 = .ok (.getfield 88, 3) := by decide +kernel
theorem dX2_join_45 : decode cX2_join 45 = .ok (.iload_n 3, 1) := by decide +kernel
theorem dX2_join_46 : decode cX2_join 46 = .ok (.iaload, 1) := by decide +kernel
theorem dX2_join_47 : decode cX2_join 47 = .ok (.iconst 1, 1) := by decide +kernel
theorem dX2_join_48 : decode cX2_join 48 = .ok (.isub, 1) := by decide +kernel
theorem dX2_join_49 : decode cX2_join 49 = .ok (.invokevirtual 91, 3) := by decide +kernel
theorem dX2_join_52 : decode cX2_join 52 = .ok (.istore 5, 2) := by decide +kernel
theorem dX2_join_54 : decode cX2_join 54 = .ok (.aload_n 0, 1) := by decide +kernel
theorem dX2_join_55 : decode cX2_join 55 = .ok (.getfield 14, 3) := by decide +kernel
theorem dX2_join_58 : decode cX2_join 58 = .ok (.iload 4, 2) := by decide +kernel
theorem dX2_join_60 : decode cX2_join 60 = .ok (.iconst 0, 1) := by decide +kernel
theorem dX2_join_61 : decode cX2_join 61 = .ok (.invokevirtual 91, 3) := by decide +kernel
theorem dX2_join_64 : decode cX2_join 64 = .ok (.istore 6, 2) := by decide +kernel
theorem dX2_join_66 : decode cX2_join 66 = .ok (.iload 5, 2) := by decide +kernel
theorem dX2_join_68 : decode cX2_join 68 = .ok (.ifCond .eq 34, 3) := by decide +kernel
theorem dX2_join_71 : decode cX2_join 71 = .ok (.iload 6, 2) := by decide +kernel
theorem dX2_join_73 : decode cX2_join 73 = .ok (.ifCond .eq 29, 3) := by decide +kernel
theorem dX2_join_76 : decode cX2_join 76 = .ok (.aload_n 0, 1) := by decide +kernel
theorem dX2_join_77 : decode cX2_join 77 = .ok (.getfield 14, 3) := by decide +kernel
theorem dX2_join_80 : decode cX2_join 80 = .ok (.getfield 94, 3) := by decide +kernel
theorem dX2_join_83 : decode cX2_join 83 = .ok (.iload 5, 2) := by decide +kernel
theorem dX2_join_85 : decode cX2_join 85 = .ok (.iaload, 1) := by decide +kernel
theorem dX2_join_86 : decode cX2_join 86 = .ok (.aload_n 0, 1) := by decide +kernel
theorem dX2_join_87 : decode cX2_join 87 = .ok (.getfield 14, 3) := by decide +kernel
theorem dX2_join_90 : decode cX2_join 90 = .ok (.getfield 94, 3) := by decide +kernel
theorem dX2_join_93 : decode cX2_join 93 = .ok (.iload 6, 2) := by decide +kernel
theorem dX2_join_95 : decode cX2_join 95 = .ok (.iaload, 1) := by decide +kernel
theorem dX2_join_96 : decode cX2_join 96 = .ok (.if_icmp .lt 6, 3) := by decide +kernel
theorem dX2_join_99 : decode cX2_join 99 = .ok (.bipush (-4), 2) := by decide +kernel
theorem dX2_join_101 : decode cX2_join 101 = .ok (.ireturn, 1) := by decide +kernel
theorem dX2_join_102 : decode cX2_join 102 = .ok (.aload_n 0, 1) := by decide +kernel
theorem dX2_join_103 : decode cX2_join 103 = .ok (.getfield 23, 3) := by decide +kernel
theorem dX2_join_106 : decode cX2_join 106 = .ok (.iconst 0, 1) := by decide +kernel
theorem dX2_join_107 : decode cX2_join 107 = .ok (.putfield 47, 3) := by decide +kernel
theorem dX2_join_110 : decode cX2_join 110 = .ok (.aload_n 0, 1) := by decide +kernel
theorem dX2_join_111 : decode cX2_join 111 = .ok (.getfield 23, 3) := by decide +kernel
theorem dX2_join_114 : decode cX2_join 114 = .ok (.iload_n 3, 1) := by decide +kernel
theorem dX2_join_115 : decode cX2_join 115 = .ok (.iload 4, 2) := by decide +kernel
theorem dX2_join_117 : decode cX2_join 117 = .ok (.invokevirtual 97, 3) := by decide +kernel
theorem dX2_join_120 : decode cX2_join 120 = .ok (.istore 7, 2) := by decide +kernel
theorem dX2_join_122 : decode cX2_join 122 = .ok (.aload_n 0, 1) := by decide +kernel
theorem dX2_join_123 : decode cX2_join 123 = .ok (.aload_n 0, 1) := by decide +kernel
theorem dX2_join_124 : decode cX2_join 124 = .ok (.getfield 23, 3) := by decide +kernel
theorem dX2_join_127 : decode cX2_join 127 = .ok (.getfield 47, 3) := by decide +kernel
theorem dX2_join_130 : decode cX2_join 130 = .ok (.invokevirtual 50, 3) := by decide +kernel
theorem dX2_join_133 : decode cX2_join 133 = .ok (.istore 8, 2) := by decide +kernel
theorem dX2_join_135 : decode cX2_join 135 = .ok (.iload 8, 2) := by decide +kernel
theorem dX2_join_137 : decode cX2_join 137 = .ok (.ifCond .ge 8, 3) := by decide +kernel
theorem dX2_join_140 : decode cX2_join 140 = .ok (.iload 8, 2) := by decide +kernel
theorem dX2_join_142 : decode cX2_join 142 = .ok (.goto 28, 3) := by decide +kernel
theorem dX2_join_145 : decode cX2_join 145 = .ok (.aload_n 0, 1) := by decide +kernel
theorem dX2_join_146 : decode cX2_join 146 = .ok (.iload 8, 2) := by decide +kernel
theorem dX2_join_148 : decode cX2_join 148 = .ok (.aload_n 0, 1) := by decide +kernel
theorem dX2_join_149 : decode cX2_join 149 = .ok (.getfield 23, 3) := by decide +kernel
theorem dX2_join_152 : decode cX2_join 152 = .ok (.iload 7, 2) := by decide +kernel
theorem dX2_join_154 : decode cX2_join 154 = .ok (.aload_n 0, 1) := by decide +kernel
theorem dX2_join_155 : decode cX2_join 155 = .ok (.getfield 14, 3) := by decide +kernel
theorem dX2_join_158 : decode cX2_join 158 = .ok (.getfield 94, 3) := by decide +kernel
theorem dX2_join_161 : decode cX2_join 161 = .ok (.iload 6, 2) := by decide +kernel
theorem dX2_join_163 : decode cX2_join 163 = .ok (.iaload, 1) := by decide +kernel
theorem dX2_join_164 : decode cX2_join 164 = .ok (.invokevirtual 75, 3) := by decide +kernel
theorem dX2_join_167 : decode cX2_join 167 = .ok (.invokevirtual 78, 3) := by decide +kernel
theorem dX2_join_170 : decode cX2_join 170 = .ok (.ireturn, 1) := by decide +kernel
set_option maxRecDepth 20000 in
theorem ggX2_drop_X2_isLive : GoodIn wsX2_drop wsX2_isLive := goodIn_r _ [6, 1, 7, 8, 9, 10, 11, 12] (by decide +kernel) (by decide +kernel)
set_option maxRecDepth 20000 in
theorem gX2_drop_X2_isLive : GoodIn wsX2_drop (wsV RX2 39 RX2 yX2_isLive wsX2_isLive) := goodIn_app (goodIn_of _ (by decide +kernel)) ggX2_drop_X2_isLive
theorem dX2_drop_0 : decode cX2_drop 0 = .ok (.aload_n 0, 1) := by decide +kernel
theorem dX2_drop_1 : decode cX2_drop 1 = .ok (.iload_n 1, 1) := by decide +kernel
theorem dX2_drop_2 : decode cX2_drop 2 = .ok (.invokevirtual 39, 3) := by decide +kernel
theorem dX2_drop_5 : decode cX2_drop 5 = .ok (.ifCond .ne 5, 3) := by decide +kernel
theorem dX2_drop_8 : decode cX2_drop 8 = .ok (.iconst 0, 1) := by decide +kernel
theorem dX2_drop_9 : decode cX2_drop 9 = .ok (.ireturn, 1) := by decide +kernel
theorem dX2_drop_10 : decode cX2_drop 10 = .ok (.aload_n 0, 1) := by decide +kernel
theorem dX2_drop_11 : decode cX2_drop 11 = .ok (.getfield 27, 3) := by decide +kernel
theorem dX2_drop_14 : decode cX2_drop 14 = .ok (.iload_n 1, 1) := by decide +kernel
theorem dX2_drop_15 : decode cX2_drop 15 = .ok (.iconst 0, 1) := by decide +kernel
theorem dX2_drop_16 : decode cX2_drop 16 = .ok (.bastore, 1) := by decide +kernel
theorem dX2_drop_17 : decode cX2_drop 17 = .ok (.iconst 1, 1) := by decide +kernel
theorem dX2_drop_18 : decode cX2_drop 18 = .ok (.ireturn, 1) := by decide +kernel
theorem dX2_isLive_0 : decode cX2_isLive 0 = .ok (.iload_n 1, 1) := by decide +kernel
theorem dX2_isLive_1 : decode cX2_isLive 1 = .ok (.ifCond .lt 25, 3) := by decide +kernel
theorem dX2_isLive_4 : decode cX2_isLive 4 = .ok (.iload_n 1, 1) := by decide +kernel
theorem dX2_isLive_5 : decode cX2_isLive 5 = .ok (.aload_n 0, 1) := by decide +kernel
theorem dX2_isLive_6 : decode cX2_isLive 6 = .ok (.getfield 27, 3) := by decide +kernel
theorem dX2_isLive_9 : decode cX2_isLive 9 = .ok (.arraylength, 1) := by decide +kernel
theorem dX2_isLive_10 : decode cX2_isLive 10 = .ok (.if_icmp .ge 16, 3) := by decide +kernel
theorem dX2_isLive_13 : decode cX2_isLive 13 = .ok (.aload_n 0, 1) := by decide +kernel
theorem dX2_isLive_14 : decode cX2_isLive 14 = .ok (.getfield 27, 3) := by decide +kernel
theorem dX2_isLive_17 : decode cX2_isLive 17 = .ok (.iload_n 1, 1) := by decide +kernel
theorem dX2_isLive_18 : decode cX2_isLive 18 = .ok (.baload, 1) := by decide +kernel
theorem dX2_isLive_19 : decode cX2_isLive 19 = .ok (.ifCond .eq 7, 3) := by decide +kernel
theorem dX2_isLive_22 : decode cX2_isLive 22 = .ok (.iconst 1, 1) := by decide +kernel
theorem dX2_isLive_23 : decode cX2_isLive 23 = .ok (.goto 4, 3) := by decide +kernel
theorem dX2_isLive_26 : decode cX2_isLive 26 = .ok (.iconst 0, 1) := by decide +kernel
theorem dX2_isLive_27 : decode cX2_isLive 27 = .ok (.ireturn, 1) := by decide +kernel
set_option maxRecDepth 20000 in
theorem ggX2_get_X2_nodeWith : GoodIn wsX2_get wsX2_nodeWith := goodIn_r _ [9, 10, 11, 12, 13, 14, 8, 15, 16, 17, 18, 19, 20, 21, 22, 23, 24, 25, 26, 27, 28, 29, 30, 31, 32, 33, 45, 46, 47, 34, 35, 36, 37, 38, 39, 40, 41, 42, 43, 44] (by decide +kernel) (by decide +kernel)
set_option maxRecDepth 20000 in
theorem gX2_get_X2_nodeWith : GoodIn wsX2_get (wsV RX2 100 RX2 yX2_nodeWith wsX2_nodeWith) := goodIn_app (goodIn_of _ (by decide +kernel)) ggX2_get_X2_nodeWith
theorem dX2_get_0 : decode cX2_get 0 = .ok (.aload_n 0, 1) := by decide +kernel
theorem dX2_get_1 : decode cX2_get 1 = .ok (.iload_n 1, 1) := by decide +kernel
theorem dX2_get_2 : decode cX2_get 2 = .ok (.iload_n 2, 1) := by decide +kernel
theorem dX2_get_3 : decode cX2_get 3 = .ok (.invokevirtual 100, 3) := by decide +kernel
theorem dX2_get_6 : decode cX2_get 6 = .ok (.istore_n 3, 1) := by decide +kernel
theorem dX2_get_7 : decode cX2_get 7 = .ok (.iload_n 3, 1) := by decide +kernel
theorem dX2_get_8 : decode cX2_get 8 = .ok (.ifCond .ne 11, 3) := by decide +kernel
theorem dX2_get_11 : decode cX2_get 11 = .ok (.new 103, 3) := by decide +kernel
theorem dX2_get_14 : decode cX2_get 14 = .ok (.dup, 1) := by decide +kernel
theorem dX2_get_15 : decode cX2_get 15 = .ok (.invokespecial 105, 3) := by decide +kernel
theorem dX2_get_18 : decode cX2_get 18 = .ok (.athrow, 1) := by decide +kernel
theorem dX2_get_19 : decode cX2_get 19 = .ok (.aload_n 0, 1) := by decide +kernel
theorem dX2_get_20 : decode cX2_get 20 = .ok (.getfield 14, 3) := by decide +kernel
theorem dX2_get_23 : decode cX2_get 23 = .ok (.getfield 106, 3) := by decide +kernel
theorem dX2_get_26 : decode cX2_get 26 = .ok (.iload_n 3, 1) := by decide +kernel
theorem dX2_get_27 : decode cX2_get 27 = .ok (.iaload, 1) := by decide +kernel
theorem dX2_get_28 : decode cX2_get 28 = .ok (.ireturn, 1) := by decide +kernel
set_option maxRecDepth 20000 in
theorem ggX2_contains_X2_nodeWith : GoodIn wsX2_contains wsX2_nodeWith := goodIn_r _ [5, 6, 7, 8, 9, 10, 4, 11, 12, 13, 14, 15, 16, 17, 18, 19, 20, 21, 22, 23, 24, 25, 26, 27, 28, 29, 30, 31, 32, 33, 34, 35, 36, 37, 38, 39, 40, 41, 42, 43] (by decide +kernel) (by decide +kernel)
set_option maxRecDepth 20000 in
theorem gX2_contains_X2_nodeWith : GoodIn wsX2_contains (wsV RX2 100 RX2 yX2_nodeWith wsX2_nodeWith) := goodIn_app (goodIn_of _ (by decide +kernel)) ggX2_contains_X2_nodeWith
theorem dX2_contains_0 : decode cX2_contains 0 = .ok (.aload_n 0, 1) := by decide +kernel
theorem dX2_contains_1 : decode cX2_contains 1 = .ok (.iload_n 1, 1) := by decide +kernel
theorem dX2_contains_2 : decode cX2_contains 2 = .ok (.iload_n 2, 1) := by decide +kernel
theorem dX2_contains_3 : decode cX2_contains 3 = .ok (.invokevirtual 100, 3) := by decide +kernel
theorem dX2_contains_6 : decode cX2_contains 6 = .ok (.ifCond .eq 7, 3) := by decide +kernel
theorem dX2_contains_9 : decode cX2_contains 9 = .ok (.iconst 1, 1) := by decide +kernel
theorem dX2_contains_10 : decode cX2_contains 10 = .ok (.goto 4, 3) := by decide +kernel
theorem dX2_contains_13 : decode cX2_contains 13 = .ok (.iconst 0, 1) := by decide +kernel
theorem dX2_contains_14 : decode cX2_contains 14 = .ok (.ireturn, 1) := by decide +kernel
set_option maxRecDepth 20000 in
theorem ggX2_size_X2_isLive : GoodIn wsX2_size wsX2_isLive := goodIn_r _ [8, 9, 10, 11, 12, 13, 14, 15] (by decide +kernel) (by decide +kernel)
set_option maxRecDepth 20000 in
theorem gX2_size_X2_isLive : GoodIn wsX2_size (wsV RX2 39 RX2 yX2_isLive wsX2_isLive) := goodIn_app (goodIn_of _ (by decide +kernel)) ggX2_size_X2_isLive
theorem dX2_size_0 : decode cX2_size 0 = .ok (.aload_n 0, 1) := by decide +kernel
theorem dX2_size_1 : decode cX2_size 1 = .ok (.iload_n 1, 1) := by decide +kernel
theorem dX2_size_2 : decode cX2_size 2 = .ok (.invokevirtual 39, 3) := by decide +kernel
theorem dX2_size_5 : decode cX2_size 5 = .ok (.ifCond .eq 20, 3) := by decide +kernel
theorem dX2_size_8 : decode cX2_size 8 = .ok (.aload_n 0, 1) := by decide +kernel
theorem dX2_size_9 : decode cX2_size 9 = .ok (.getfield 14, 3) := by decide +kernel
theorem dX2_size_12 : decode cX2_size 12 = .ok (.getfield 88, 3) := by decide +kernel
theorem dX2_size_15 : decode cX2_size 15 = .ok (.aload_n 0, 1) := by decide +kernel
theorem dX2_size_16 : decode cX2_size 16 = .ok (.getfield 31, 3) := by decide +kernel
theorem dX2_size_19 : decode cX2_size 19 = .ok (.iload_n 1, 1) := by decide +kernel
theorem dX2_size_20 : decode cX2_size 20 = .ok (.iaload, 1) := by decide +kernel
theorem dX2_size_21 : decode cX2_size 21 = .ok (.iaload, 1) := by decide +kernel
theorem dX2_size_22 : decode cX2_size 22 = .ok (.goto 4, 3) := by decide +kernel
theorem dX2_size_25 : decode cX2_size 25 = .ok (.iconst (-1), 1) := by decide +kernel
theorem dX2_size_26 : decode cX2_size 26 = .ok (.ireturn, 1) := by decide +kernel
set_option maxRecDepth 20000 in
theorem ggX2_floor_X2_isLive : GoodIn wsX2_floor wsX2_isLive := goodIn_r _ [10, 11, 21, 22, 23, 24, 25, 26] (by decide +kernel) (by decide +kernel)
set_option maxRecDepth 20000 in
theorem gX2_floor_X2_isLive : GoodIn wsX2_floor (wsV RX2 39 RX2 yX2_isLive wsX2_isLive) := goodIn_app (goodIn_of _ (by decide +kernel)) ggX2_floor_X2_isLive
set_option maxRecDepth 20000 in
theorem ggX2_floor_X0_floorNode : GoodIn wsX2_floor wsX0_floorNode := goodIn_r _ [16, 17, 18, 19, 20, 27, 28, 29, 30, 31, 32, 33, 34, 35, 36, 37] (by decide +kernel) (by decide +kernel)
set_option maxRecDepth 20000 in
theorem gX2_floor_X0_floorNode : GoodIn wsX2_floor (wsV RX2 109 RX0 yX0_floorNode wsX0_floorNode) := goodIn_app (goodIn_of _ (by decide +kernel)) ggX2_floor_X0_floorNode
theorem dX2_floor_0 : decode cX2_floor 0 = .ok (.aload_n 0, 1) := by decide +kernel
theorem dX2_floor_1 : decode cX2_floor 1 = .ok (.iload_n 1, 1) := by decide +kernel
theorem dX2_floor_2 : decode cX2_floor 2 = .ok (.invokevirtual 39, 3) := by decide +kernel
theorem dX2_floor_5 : decode cX2_floor 5 = .ok (.ifCond .eq 20, 3) := by decide +kernel
theorem dX2_floor_8 : decode cX2_floor 8 = .ok (.aload_n 0, 1) := by decide +kernel
theorem dX2_floor_9 : decode cX2_floor 9 = .ok (.getfield 14, 3) := by decide +kernel
theorem dX2_floor_12 : decode cX2_floor 12 = .ok (.aload_n 0, 1) := by decide +kernel
theorem dX2_floor_13 : decode cX2_floor 13 = .ok (.getfield 31, 3) := by decide +kernel
theorem dX2_floor_16 : decode cX2_floor 16 = .ok (.iload_n 1, 1) := by decide +kernel
theorem dX2_floor_17 : decode cX2_floor 17 = .ok (.iaload, 1) := by decide +kernel
theorem dX2_floor_18 : decode cX2_floor 18 = .ok (.iload_n 2, 1) := by decide +kernel
theorem dX2_floor_19 : decode cX2_floor 19 = .ok (.invokevirtual 109, 3) := by decide +kernel
theorem dX2_floor_22 : decode cX2_floor 22 = .ok (.goto 4, 3) := by decide +kernel
theorem dX2_floor_25 : decode cX2_floor 25 = .ok (.iconst 0, 1) := by decide +kernel
theorem dX2_floor_26 : decode cX2_floor 26 = .ok (.istore_n 3, 1) := by decide +kernel
theorem dX2_floor_27 : decode cX2_floor 27 = .ok (.iload_n 3, 1) := by decide +kernel
theorem dX2_floor_28 : decode cX2_floor 28 = .ok (.ifCond .ne 11, 3) := by decide +kernel
theorem dX2_floor_31 : decode cX2_floor 31 = .ok (.new 103, 3) := by decide +kernel
theorem dX2_floor_34 : decode cX2_floor 34 = .ok (.dup, 1) := by decide +kernel
theorem dX2_floor_35 : decode cX2_floor 35 = .ok (.invokespecial 105, 3) := by decide +kernel
theorem dX2_floor_38 : decode cX2_floor 38 = .ok (.athrow, 1) := by decide +kernel
theorem dX2_floor_39 : decode cX2_floor 39 = .ok (.aload_n 0, 1) := by decide +kernel
theorem dX2_floor_40 : decode cX2_floor 40 = .ok (.getfield 14, 3) := by decide +kernel
theorem dX2_floor_43 : decode cX2_floor 43 = .ok (.getfield 94, 3) := by decide +kernel
theorem dX2_floor_46 : decode cX2_floor 46 = .ok (.iload_n 3, 1) := by decide +kernel
theorem dX2_floor_47 : decode cX2_floor 47 = .ok (.iaload, 1) := by decide +kernel
theorem dX2_floor_48 : decode cX2_floor 48 = .ok (.ireturn, 1) := by decide +kernel
set_option maxRecDepth 20000 in
theorem ggX2_keyAt_X2_isLive : GoodIn wsX2_keyAt wsX2_isLive := goodIn_r _ [12, 13, 23, 24, 25, 26, 27, 28] (by decide +kernel) (by decide +kernel)
set_option maxRecDepth 20000 in
theorem gX2_keyAt_X2_isLive : GoodIn wsX2_keyAt (wsV RX2 39 RX2 yX2_isLive wsX2_isLive) := goodIn_app (goodIn_of _ (by decide +kernel)) ggX2_keyAt_X2_isLive
set_option maxRecDepth 20000 in
theorem ggX2_keyAt_X0_nodeAt : GoodIn wsX2_keyAt wsX0_nodeAt := goodIn_r _ [18, 19, 20, 21, 22, 29, 30, 31, 32, 33, 34, 35, 36, 37, 38, 39] (by decide +kernel) (by decide +kernel)
set_option maxRecDepth 20000 in
theorem gX2_keyAt_X0_nodeAt : GoodIn wsX2_keyAt (wsV RX2 91 RX0 yX0_nodeAt wsX0_nodeAt) := goodIn_app (goodIn_of _ (by decide +kernel)) ggX2_keyAt_X0_nodeAt
theorem dX2_keyAt_0 : decode cX2_keyAt 0 = .ok (.aload_n 0, 1) := by decide +kernel
theorem dX2_keyAt_1 : decode cX2_keyAt 1 = .ok (.iload_n 1, 1) := by decide +kernel
theorem dX2_keyAt_2 : decode cX2_keyAt 2 = .ok (.invokevirtual 39, 3) := by decide +kernel
theorem dX2_keyAt_5 : decode cX2_keyAt 5 = .ok (.ifCond .ne 11, 3) := by decide +kernel
theorem dX2_keyAt_8 : decode cX2_keyAt 8 = .ok (.new 103, 3) := by decide +kernel
theorem dX2_keyAt_11 : decode cX2_keyAt 11 = .ok (.dup, 1) := by decide +kernel
theorem dX2_keyAt_12 : decode cX2_keyAt 12 = .ok (.invokespecial 105, 3) := by decide +kernel
theorem dX2_keyAt_15 : decode cX2_keyAt 15 = .ok (.athrow, 1) := by decide +kernel
theorem dX2_keyAt_16 : decode cX2_keyAt 16 = .ok (.aload_n 0, 1) := by decide +kernel
theorem dX2_keyAt_17 : decode cX2_keyAt 17 = .ok (.getfield 14, 3) := by decide +kernel
theorem dX2_keyAt_20 : decode cX2_keyAt 20 = .ok (.aload_n 0, 1) := by decide +kernel
theorem dX2_keyAt_21 : decode cX2_keyAt 21 = .ok (.getfield 31, 3) := by decide +kernel
theorem dX2_keyAt_24 : decode cX2_keyAt 24 = .ok (.iload_n 1, 1) := by decide +kernel
theorem dX2_keyAt_25 : decode cX2_keyAt 25 = .ok (.iaload, 1) := by decide +kernel
theorem dX2_keyAt_26 : decode cX2_keyAt 26 = .ok (.iload_n 2, 1) := by decide +kernel
theorem dX2_keyAt_27 : decode cX2_keyAt 27 = .ok (.invokevirtual 91, 3) := by decide +kernel
theorem dX2_keyAt_30 : decode cX2_keyAt 30 = .ok (.istore_n 3, 1) := by decide +kernel
theorem dX2_keyAt_31 : decode cX2_keyAt 31 = .ok (.iload_n 3, 1) := by decide +kernel
theorem dX2_keyAt_32 : decode cX2_keyAt 32 = .ok (.ifCond .ne 11, 3) := by decide +kernel
theorem dX2_keyAt_35 : decode cX2_keyAt 35 = .ok (.new 112, 3) := by decide +kernel
theorem dX2_keyAt_38 : decode cX2_keyAt 38 = .ok (.dup, 1) := by decide +kernel
theorem dX2_keyAt_39 : decode cX2_keyAt 39 = .ok (.invokespecial 114, 3) := by decide +kernel
theorem dX2_keyAt_42 : decode cX2_keyAt 42 = .ok (.athrow, 1) := by decide +kernel
theorem dX2_keyAt_43 : decode cX2_keyAt 43 = .ok (.aload_n 0, 1) := by decide +kernel
theorem dX2_keyAt_44 : decode cX2_keyAt 44 = .ok (.getfield 14, 3) := by decide +kernel
theorem dX2_keyAt_47 : decode cX2_keyAt 47 = .ok (.getfield 94, 3) := by decide +kernel
theorem dX2_keyAt_50 : decode cX2_keyAt 50 = .ok (.iload_n 3, 1) := by decide +kernel
theorem dX2_keyAt_51 : decode cX2_keyAt 51 = .ok (.iaload, 1) := by decide +kernel
theorem dX2_keyAt_52 : decode cX2_keyAt 52 = .ok (.ireturn, 1) := by decide +kernel
set_option maxRecDepth 20000 in
theorem ggX2_sum_X2_isLive : GoodIn wsX2_sum wsX2_isLive := goodIn_r _ [7, 8, 33, 34, 35, 36, 37, 38] (by decide +kernel) (by decide +kernel)
set_option maxRecDepth 20000 in
theorem gX2_sum_X2_isLive : GoodIn wsX2_sum (wsV RX2 39 RX2 yX2_isLive wsX2_isLive) := goodIn_app (goodIn_of _ (by decide +kernel)) ggX2_sum_X2_isLive
set_option maxRecDepth 20000 in
theorem ggX2_sum_X0_forgetReached : GoodIn wsX2_sum wsX0_forgetReached := goodIn_r _ [13, 14, 15, 39, 40, 41, 42, 43, 44, 45, 46, 47, 48, 49] (by decide +kernel) (by decide +kernel)
set_option maxRecDepth 20000 in
theorem gX2_sum_X0_forgetReached : GoodIn wsX2_sum (wsV RX2 115 RX0 yX0_forgetReached wsX0_forgetReached) := goodIn_app (goodIn_of _ (by decide +kernel)) ggX2_sum_X0_forgetReached
set_option maxRecDepth 20000 in
theorem ggX2_sum_X0_reach : GoodIn wsX2_sum wsX0_reach := goodIn_r _ [19, 14, 20, 21, 22, 23, 24, 25, 12, 26, 15, 39, 40, 41, 42, 43, 44, 45, 46, 47, 48, 49] (by decide +kernel) (by decide +kernel)
set_option maxRecDepth 20000 in
theorem gX2_sum_X0_reach : GoodIn wsX2_sum (wsV RX2 118 RX0 yX0_reach wsX0_reach) := goodIn_app (goodIn_of _ (by decide +kernel)) ggX2_sum_X0_reach
set_option maxRecDepth 20000 in
theorem ggX2_sum_X0_sumReached : GoodIn wsX2_sum wsX0_sumReached := goodIn_r _ [30, 14, 15, 31, 32, 39, 40, 41, 42, 43, 44, 45, 46, 47, 48, 49] (by decide +kernel) (by decide +kernel)
set_option maxRecDepth 20000 in
theorem gX2_sum_X0_sumReached : GoodIn wsX2_sum (wsV RX2 121 RX0 yX0_sumReached wsX0_sumReached) := goodIn_app (goodIn_of _ (by decide +kernel)) ggX2_sum_X0_sumReached
theorem dX2_sum_0 : decode cX2_sum 0 = .ok (.aload_n 0, 1) := by decide +kernel
theorem dX2_sum_1 : decode cX2_sum 1 = .ok (.iload_n 1, 1) := by decide +kernel
theorem dX2_sum_2 : decode cX2_sum 2 = .ok (.invokevirtual 39, 3) := by decide +kernel
theorem dX2_sum_5 : decode cX2_sum 5 = .ok (.ifCond .ne 5, 3) := by decide +kernel
theorem dX2_sum_8 : decode cX2_sum 8 = .ok (.lconst 0, 1) := by decide +kernel
theorem dX2_sum_9 : decode cX2_sum 9 = .ok (.lreturn, 1) := by decide +kernel
theorem dX2_sum_10 : decode cX2_sum 10 = .ok (.aload_n 0, 1) := by decide +kernel
theorem dX2_sum_11 : decode cX2_sum 11 = .ok (.getfield 14, 3) := by decide +kernel
theorem dX2_sum_14 : decode cX2_sum 14 = .ok (.invokevirtual 115, 3) := by decide +kernel
theorem dX2_sum_17 : decode cX2_sum 17 = .ok (.aload_n 0, 1) := by decide +kernel
theorem dX2_sum_18 : decode cX2_sum 18 = .ok (.getfield 14, 3) := by decide +kernel
theorem dX2_sum_21 : decode cX2_sum 21 = .ok (.aload_n 0, 1) := by decide +kernel
theorem dX2_sum_22 : decode cX2_sum 22 = .ok (.getfield 31, 3) := by decide +kernel
theorem dX2_sum_25 : decode cX2_sum 25 = .ok (.iload_n 1, 1) := by decide +kernel
theorem dX2_sum_26 : decode cX2_sum 26 = .ok (.iaload, 1) := by decide +kernel
theorem dX2_sum_27 : decode cX2_sum 27 = .ok (.invokevirtual 118, 3) := by decide +kernel
theorem dX2_sum_30 : decode cX2_sum 30 = .ok (.pop, 1) := by decide +kernel
theorem dX2_sum_31 : decode cX2_sum 31 = .ok (.aload_n 0, 1) := by decide +kernel
theorem dX2_sum_32 : decode cX2_sum 32 = .ok (.getfield 14, 3) := by decide +kernel
theorem dX2_sum_35 : decode cX2_sum 35 = .ok (.iload_n 2, 1) := by decide +kernel
theorem dX2_sum_36 : decode cX2_sum 36 = .ok (.iload_n 3, 1) := by decide +kernel
theorem dX2_sum_37 : decode cX2_sum 37 = .ok (.invokevirtual 121, 3) := by decide +kernel
theorem dX2_sum_40 : decode cX2_sum 40 = .ok (.lreturn, 1) := by decide +kernel
set_option maxRecDepth 20000 in
theorem ggX2_depth_X2_nodeWith : GoodIn wsX2_depth wsX2_nodeWith := goodIn_r _ [9, 3, 10, 11, 12, 13, 8, 14, 15, 16, 17, 18, 19, 20, 21, 22, 23, 24, 25, 26, 27, 28, 29, 30, 31, 32, 33, 34, 35, 36, 37, 38, 39, 40, 41, 42, 43, 44, 45, 46] (by decide +kernel) (by decide +kernel)
set_option maxRecDepth 20000 in
theorem gX2_depth_X2_nodeWith : GoodIn wsX2_depth (wsV RX2 100 RX2 yX2_nodeWith wsX2_nodeWith) := goodIn_app (goodIn_of _ (by decide +kernel)) ggX2_depth_X2_nodeWith
theorem dX2_depth_0 : decode cX2_depth 0 = .ok (.aload_n 0, 1) := by decide +kernel
theorem dX2_depth_1 : decode cX2_depth 1 = .ok (.iload_n 1, 1) := by decide +kernel
theorem dX2_depth_2 : decode cX2_depth 2 = .ok (.iload_n 2, 1) := by decide +kernel
theorem dX2_depth_3 : decode cX2_depth 3 = .ok (.invokevirtual 100, 3) := by decide +kernel
theorem dX2_depth_6 : decode cX2_depth 6 = .ok (.ifCond .ne 11, 3) := by decide +kernel
theorem dX2_depth_9 : decode cX2_depth 9 = .ok (.new 103, 3) := by decide +kernel
theorem dX2_depth_12 : decode cX2_depth 12 = .ok (.dup, 1) := by decide +kernel
theorem dX2_depth_13 : decode cX2_depth 13 = .ok (.invokespecial 105, 3) := by decide +kernel
theorem dX2_depth_16 : decode cX2_depth 16 = .ok (.athrow, 1) := by decide +kernel
theorem dX2_depth_17 : decode cX2_depth 17 = .ok (.aload_n 0, 1) := by decide +kernel
theorem dX2_depth_18 : decode cX2_depth 18 = .ok (.getfield 23, 3) := by decide +kernel
theorem dX2_depth_21 : decode cX2_depth 21 = .ok (.getfield 47, 3) := by decide +kernel
theorem dX2_depth_24 : decode cX2_depth 24 = .ok (.ireturn, 1) := by decide +kernel
set_option maxRecDepth 20000 in
theorem ggX2_shared_X2_isLive : GoodIn wsX2_shared wsX2_isLive := goodIn_r _ [8, 9, 28, 29, 30, 31, 32, 33] (by decide +kernel) (by decide +kernel)
set_option maxRecDepth 20000 in
theorem gX2_shared_X2_isLive : GoodIn wsX2_shared (wsV RX2 39 RX2 yX2_isLive wsX2_isLive) := goodIn_app (goodIn_of _ (by decide +kernel)) ggX2_shared_X2_isLive
set_option maxRecDepth 20000 in
theorem ggX2_shared_X0_forgetReached : GoodIn wsX2_shared wsX0_forgetReached := goodIn_r _ [14, 15, 16, 34, 35, 36, 37, 38, 39, 40, 41, 42, 43, 44] (by decide +kernel) (by decide +kernel)
set_option maxRecDepth 20000 in
theorem gX2_shared_X0_forgetReached : GoodIn wsX2_shared (wsV RX2 115 RX0 yX0_forgetReached wsX0_forgetReached) := goodIn_app (goodIn_of _ (by decide +kernel)) ggX2_shared_X0_forgetReached
set_option maxRecDepth 20000 in
theorem ggX2_shared_X0_reach : GoodIn wsX2_shared wsX0_reach := goodIn_r _ [20, 15, 21, 22, 23, 24, 25, 26, 13, 27, 16, 34, 35, 36, 37, 38, 39, 40, 41, 42, 43, 44] (by decide +kernel) (by decide +kernel)
set_option maxRecDepth 20000 in
theorem gX2_shared_X0_reach : GoodIn wsX2_shared (wsV RX2 118 RX0 yX0_reach wsX0_reach) := goodIn_app (goodIn_of _ (by decide +kernel)) ggX2_shared_X0_reach
theorem dX2_shared_0 : decode cX2_shared 0 = .ok (.aload_n 0, 1) := by decide +kernel
theorem dX2_shared_1 : decode cX2_shared 1 = .ok (.iload_n 1, 1) := by decide +kernel
theorem dX2_shared_2 : decode cX2_shared 2 = .ok (.invokevirtual 39, 3) := by decide +kernel
theorem dX2_shared_5 : decode cX2_shared 5 = .ok (.ifCond .eq 11, 3) := by decide +kernel
theorem dX2_shared_8 : decode cX2_shared 8 = .ok (.aload_n 0, 1) := by decide +kernel
theorem dX2_shared_9 : decode cX2_shared 9 = .ok (.iload_n 2, 1) := by decide +kernel
theorem dX2_shared_10 : decode cX2_shared 10 = .ok (.invokevirtual 39, 3) := by decide +kernel
theorem dX2_shared_13 : decode cX2_shared 13 = .ok (.ifCond .ne 5, 3) := by decide +kernel
theorem dX2_shared_16 : decode cX2_shared 16 = .ok (.iconst (-1), 1) := by decide +kernel
theorem dX2_shared_17 : decode cX2_shared 17 = .ok (.ireturn, 1) := by decide +kernel
theorem dX2_shared_18 : decode cX2_shared 18 = .ok (.aload_n 0, 1) := by decide +kernel
theorem dX2_shared_19 : decode cX2_shared 19 = .ok (.getfield 14, 3) := by decide +kernel
theorem dX2_shared_22 : decode cX2_shared 22 = .ok (.invokevirtual 115, 3) := by decide +kernel
theorem dX2_shared_25 : decode cX2_shared 25 = .ok (.aload_n 0, 1) := by decide +kernel
theorem dX2_shared_26 : decode cX2_shared 26 = .ok (.getfield 14, 3) := by decide +kernel
theorem dX2_shared_29 : decode cX2_shared 29 = .ok (.aload_n 0, 1) := by decide +kernel
theorem dX2_shared_30 : decode cX2_shared 30 = .ok (.getfield 31, 3) := by decide +kernel
theorem dX2_shared_33 : decode cX2_shared 33 = .ok (.iload_n 1, 1) := by decide +kernel
theorem dX2_shared_34 : decode cX2_shared 34 = .ok (.iaload, 1) := by decide +kernel
theorem dX2_shared_35 : decode cX2_shared 35 = .ok (.invokevirtual 118, 3) := by decide +kernel
theorem dX2_shared_38 : decode cX2_shared 38 = .ok (.pop, 1) := by decide +kernel
theorem dX2_shared_39 : decode cX2_shared 39 = .ok (.aload_n 0, 1) := by decide +kernel
theorem dX2_shared_40 : decode cX2_shared 40 = .ok (.getfield 14, 3) := by decide +kernel
theorem dX2_shared_43 : decode cX2_shared 43 = .ok (.getfield 88, 3) := by decide +kernel
theorem dX2_shared_46 : decode cX2_shared 46 = .ok (.aload_n 0, 1) := by decide +kernel
theorem dX2_shared_47 : decode cX2_shared 47 = .ok (.getfield 31, 3) := by decide +kernel
theorem dX2_shared_50 : decode cX2_shared 50 = .ok (.iload_n 2, 1) := by decide +kernel
theorem dX2_shared_51 : decode cX2_shared 51 = .ok (.iaload, 1) := by decide +kernel
theorem dX2_shared_52 : decode cX2_shared 52 = .ok (.iaload, 1) := by decide +kernel
theorem dX2_shared_53 : decode cX2_shared 53 = .ok (.aload_n 0, 1) := by decide +kernel
theorem dX2_shared_54 : decode cX2_shared 54 = .ok (.getfield 14, 3) := by decide +kernel
theorem dX2_shared_57 : decode cX2_shared 57 = .ok (.aload_n 0, 1) := by decide +kernel
theorem dX2_shared_58 : decode cX2_shared 58 = .ok (.getfield 31, 3) := by decide +kernel
theorem dX2_shared_61 : decode cX2_shared 61 = .ok (.iload_n 2, 1) := by decide +kernel
theorem dX2_shared_62 : decode cX2_shared 62 = .ok (.iaload, 1) := by decide +kernel
theorem dX2_shared_63 : decode cX2_shared 63 = .ok (.invokevirtual 118, 3) := by decide +kernel
theorem dX2_shared_66 : decode cX2_shared 66 = .ok (.isub, 1) := by decide +kernel
theorem dX2_shared_67 : decode cX2_shared 67 = .ok (.ireturn, 1) := by decide +kernel
set_option maxRecDepth 20000 in
theorem ggX2_nodes_X2_reachLive : GoodIn wsX2_nodes wsX2_reachLive := goodIn_r _ [5, 6, 7, 8, 9, 10, 11, 12, 13, 14, 15, 16, 17, 18, 19, 20, 21, 22, 23, 24, 25, 26, 27, 28, 29, 30, 31, 32, 33, 34, 35, 36, 37, 38, 39, 40, 41, 42, 43] (by decide +kernel) (by decide +kernel)
set_option maxRecDepth 20000 in
theorem gX2_nodes_X2_reachLive : GoodIn wsX2_nodes (wsV RX2 125 RX2 yX2_reachLive wsX2_reachLive) := goodIn_app (goodIn_of _ (by decide +kernel)) ggX2_nodes_X2_reachLive
theorem dX2_nodes_0 : decode cX2_nodes 0 = .ok (.aload_n 0, 1) := by decide +kernel
theorem dX2_nodes_1 : decode cX2_nodes 1 = .ok (.invokevirtual 125, 3) := by decide +kernel
theorem dX2_nodes_4 : decode cX2_nodes 4 = .ok (.ireturn, 1) := by decide +kernel
theorem dX2_used_0 : decode cX2_used 0 = .ok (.aload_n 0, 1) := by decide +kernel
theorem dX2_used_1 : decode cX2_used 1 = .ok (.getfield 14, 3) := by decide +kernel
theorem dX2_used_4 : decode cX2_used 4 = .ok (.getfield 128, 3) := by decide +kernel
theorem dX2_used_7 : decode cX2_used 7 = .ok (.ireturn, 1) := by decide +kernel
theorem dX2_sweeps_0 : decode cX2_sweeps 0 = .ok (.aload_n 0, 1) := by decide +kernel
theorem dX2_sweeps_1 : decode cX2_sweeps 1 = .ok (.getfield 131, 3) := by decide +kernel
theorem dX2_sweeps_4 : decode cX2_sweeps 4 = .ok (.ireturn, 1) := by decide +kernel
set_option maxRecDepth 20000 in
theorem ggX2_nodeWith_X2_isLive : GoodIn wsX2_nodeWith wsX2_isLive := goodIn_r _ [7, 8, 20, 21, 22, 23, 24, 25] (by decide +kernel) (by decide +kernel)
set_option maxRecDepth 20000 in
theorem gX2_nodeWith_X2_isLive : GoodIn wsX2_nodeWith (wsV RX2 39 RX2 yX2_isLive wsX2_isLive) := goodIn_app (goodIn_of _ (by decide +kernel)) ggX2_nodeWith_X2_isLive
set_option maxRecDepth 20000 in
theorem ggX2_nodeWith_X1_noteTo : GoodIn wsX2_nodeWith wsX1_noteTo := goodIn_r _ [13, 14, 15, 16, 17, 18, 19, 26, 27, 28, 29, 30, 31, 32, 33, 34, 35, 36, 37, 38, 39] (by decide +kernel) (by decide +kernel)
set_option maxRecDepth 20000 in
theorem gX2_nodeWith_X1_noteTo : GoodIn wsX2_nodeWith (wsV RX2 43 RX1 yX1_noteTo wsX1_noteTo) := goodIn_app (goodIn_of _ (by decide +kernel)) ggX2_nodeWith_X1_noteTo
theorem dX2_nodeWith_0 : decode cX2_nodeWith 0 = .ok (.aload_n 0, 1) := by decide +kernel
theorem dX2_nodeWith_1 : decode cX2_nodeWith 1 = .ok (.iload_n 1, 1) := by decide +kernel
theorem dX2_nodeWith_2 : decode cX2_nodeWith 2 = .ok (.invokevirtual 39, 3) := by decide +kernel
theorem dX2_nodeWith_5 : decode cX2_nodeWith 5 = .ok (.ifCond .eq 20, 3) := by decide +kernel
theorem dX2_nodeWith_8 : decode cX2_nodeWith 8 = .ok (.aload_n 0, 1) := by decide +kernel
theorem dX2_nodeWith_9 : decode cX2_nodeWith 9 = .ok (.getfield 23, 3) := by decide +kernel
theorem dX2_nodeWith_12 : decode cX2_nodeWith 12 = .ok (.aload_n 0, 1) := by decide +kernel
theorem dX2_nodeWith_13 : decode cX2_nodeWith 13 = .ok (.getfield 31, 3) := by decide +kernel
theorem dX2_nodeWith_16 : decode cX2_nodeWith 16 = .ok (.iload_n 1, 1) := by decide +kernel
theorem dX2_nodeWith_17 : decode cX2_nodeWith 17 = .ok (.iaload, 1) := by decide +kernel
theorem dX2_nodeWith_18 : decode cX2_nodeWith 18 = .ok (.iload_n 2, 1) := by decide +kernel
theorem dX2_nodeWith_19 : decode cX2_nodeWith 19 = .ok (.invokevirtual 43, 3) := by decide +kernel
theorem dX2_nodeWith_22 : decode cX2_nodeWith 22 = .ok (.goto 4, 3) := by decide +kernel
theorem dX2_nodeWith_25 : decode cX2_nodeWith 25 = .ok (.iconst 0, 1) := by decide +kernel
theorem dX2_nodeWith_26 : decode cX2_nodeWith 26 = .ok (.ireturn, 1) := by decide +kernel
set_option maxRecDepth 20000 in
theorem ggX2_handleFor_X2_makeRoom : GoodIn wsX2_handleFor wsX2_makeRoom := goodIn_r _ [6, 7, 8, 9, 10, 11, 12, 13, 14, 15, 16, 17, 18, 5, 19, 1, 20, 21, 22, 23, 24, 25, 26, 27, 28, 29, 30, 31, 32, 33, 34, 35, 36, 37, 38, 39, 40, 41, 42, 43, 44, 45, 46, 47, 48, 49, 50, 51, 52, 53, 54, 55, 56, 57, 58] (by decide +kernel) (by decide +kernel)
set_option maxRecDepth 20000 in
theorem gX2_handleFor_X2_makeRoom : GoodIn wsX2_handleFor (wsV RX2 134 RX2 yX2_makeRoom wsX2_makeRoom) := goodIn_app (goodIn_of _ (by decide +kernel)) ggX2_handleFor_X2_makeRoom
theorem dX2_handleFor_0 : decode cX2_handleFor 0 = .ok (.iconst 0, 1) := by decide +kernel
theorem dX2_handleFor_1 : decode cX2_handleFor 1 = .ok (.istore_n 2, 1) := by decide +kernel
theorem dX2_handleFor_2 : decode cX2_handleFor 2 = .ok (.iload_n 2, 1) := by decide +kernel
theorem dX2_handleFor_3 : decode cX2_handleFor 3 = .ok (.aload_n 0, 1) := by decide +kernel
theorem dX2_handleFor_4 : decode cX2_handleFor 4 = .ok (.getfield 27, 3) := by decide +kernel
theorem dX2_handleFor_7 : decode cX2_handleFor 7 = .ok (.arraylength, 1) := by decide +kernel
theorem dX2_handleFor_8 : decode cX2_handleFor 8 = .ok (.if_icmp .ge 33, 3) := by decide +kernel
theorem dX2_handleFor_11 : decode cX2_handleFor 11 = .ok (.aload_n 0, 1) := by decide +kernel
theorem dX2_handleFor_12 : decode cX2_handleFor 12 = .ok (.getfield 27, 3) := by decide +kernel
theorem dX2_handleFor_15 : decode cX2_handleFor 15 = .ok (.iload_n 2, 1) := by decide +kernel
theorem dX2_handleFor_16 : decode cX2_handleFor 16 = .ok (.baload, 1) := by decide +kernel
theorem dX2_handleFor_17 : decode cX2_handleFor 17 = .ok (.ifCond .ne 18, 3) := by decide +kernel
theorem dX2_handleFor_20 : decode cX2_handleFor 20 = .ok (.aload_n 0, 1) := by decide +kernel
theorem dX2_handleFor_21 : decode cX2_handleFor 21 = .ok (.iload_n 1, 1) := by decide +kernel
theorem dX2_handleFor_22 : decode cX2_handleFor 22 = .ok (.invokevirtual 134, 3) := by decide +kernel
theorem dX2_handleFor_25 : decode cX2_handleFor 25 = .ok (.ifCond .eq 7, 3) := by decide +kernel
theorem dX2_handleFor_28 : decode cX2_handleFor 28 = .ok (.iload_n 2, 1) := by decide +kernel
theorem dX2_handleFor_29 : decode cX2_handleFor 29 = .ok (.goto 5, 3) := by decide +kernel
theorem dX2_handleFor_32 : decode cX2_handleFor 32 = .ok (.bipush (-3), 2) := by decide +kernel
theorem dX2_handleFor_34 : decode cX2_handleFor 34 = .ok (.ireturn, 1) := by decide +kernel
theorem dX2_handleFor_35 : decode cX2_handleFor 35 = .ok (.iinc 2 1, 3) := by decide +kernel
theorem dX2_handleFor_38 : decode cX2_handleFor 38 = .ok (.goto (-36), 3) := by decide +kernel
theorem dX2_handleFor_41 : decode cX2_handleFor 41 = .ok (.bipush (-2), 2) := by decide +kernel
theorem dX2_handleFor_43 : decode cX2_handleFor 43 = .ok (.ireturn, 1) := by decide +kernel
set_option maxRecDepth 20000 in
theorem ggX2_makeRoom_X0_hasRoom : GoodIn wsX2_makeRoom wsX0_hasRoom := goodIn_r _ [7, 8, 9, 44, 45, 46, 47, 48, 49, 50, 51, 52, 53, 54] (by decide +kernel) (by decide +kernel)
set_option maxRecDepth 20000 in
theorem gX2_makeRoom_X0_hasRoom : GoodIn wsX2_makeRoom (wsV RX2 137 RX0 yX0_hasRoom wsX0_hasRoom) := goodIn_app (goodIn_of _ (by decide +kernel)) ggX2_makeRoom_X0_hasRoom
set_option maxRecDepth 20000 in
theorem ggX2_makeRoom_X2_reachLive : GoodIn wsX2_makeRoom wsX2_reachLive := goodIn_r _ [14, 1, 15, 16, 17, 18, 19, 6, 20, 9, 21, 22, 23, 24, 25, 26, 27, 28, 29, 30, 31, 32, 38, 39, 40, 41, 42, 43, 44, 45, 46, 47, 48, 49, 50, 51, 52, 53, 54] (by decide +kernel) (by decide +kernel)
set_option maxRecDepth 20000 in
theorem gX2_makeRoom_X2_reachLive : GoodIn wsX2_makeRoom (wsV RX2 125 RX2 yX2_reachLive wsX2_reachLive) := goodIn_app (goodIn_of _ (by decide +kernel)) ggX2_makeRoom_X2_reachLive
set_option maxRecDepth 20000 in
theorem ggX2_makeRoom_X0_keepReached : GoodIn wsX2_makeRoom wsX0_keepReached := goodIn_r _ [36, 8, 9, 37, 21, 44, 45, 46, 47, 48, 49, 50, 51, 52, 53, 54] (by decide +kernel) (by decide +kernel)
set_option maxRecDepth 20000 in
theorem gX2_makeRoom_X0_keepReached : GoodIn wsX2_makeRoom (wsV RX2 140 RX0 yX0_keepReached wsX0_keepReached) := goodIn_app (goodIn_of _ (by decide +kernel)) ggX2_makeRoom_X0_keepReached
theorem dX2_makeRoom_0 : decode cX2_makeRoom 0 = .ok (.aload_n 0, 1) := by decide +kernel
theorem dX2_makeRoom_1 : decode cX2_makeRoom 1 = .ok (.getfield 14, 3) := by decide +kernel
theorem dX2_makeRoom_4 : decode cX2_makeRoom 4 = .ok (.iload_n 1, 1) := by decide +kernel
theorem dX2_makeRoom_5 : decode cX2_makeRoom 5 = .ok (.invokevirtual 137, 3) := by decide +kernel
theorem dX2_makeRoom_8 : decode cX2_makeRoom 8 = .ok (.ifCond .eq 5, 3) := by decide +kernel
theorem dX2_makeRoom_11 : decode cX2_makeRoom 11 = .ok (.iconst 1, 1) := by decide +kernel
theorem dX2_makeRoom_12 : decode cX2_makeRoom 12 = .ok (.ireturn, 1) := by decide +kernel
theorem dX2_makeRoom_13 : decode cX2_makeRoom 13 = .ok (.aload_n 0, 1) := by decide +kernel
theorem dX2_makeRoom_14 : decode cX2_makeRoom 14 = .ok (.invokevirtual 125, 3) := by decide +kernel
theorem dX2_makeRoom_17 : decode cX2_makeRoom 17 = .ok (.pop, 1) := by decide +kernel
theorem dX2_makeRoom_18 : decode cX2_makeRoom 18 = .ok (.aload_n 0, 1) := by decide +kernel
theorem dX2_makeRoom_19 : decode cX2_makeRoom 19 = .ok (.getfield 14, 3) := by decide +kernel
theorem dX2_makeRoom_22 : decode cX2_makeRoom 22 = .ok (.invokevirtual 140, 3) := by decide +kernel
theorem dX2_makeRoom_25 : decode cX2_makeRoom 25 = .ok (.aload_n 0, 1) := by decide +kernel
theorem dX2_makeRoom_26 : decode cX2_makeRoom 26 = .ok (.dup, 1) := by decide +kernel
theorem dX2_makeRoom_27 : decode cX2_makeRoom 27 = .ok (.getfield 131, 3) := by decide +kernel
theorem dX2_makeRoom_30 : decode cX2_makeRoom 30 = .ok (.iconst 1, 1) := by decide +kernel
theorem dX2_makeRoom_31 : decode cX2_makeRoom 31 = .ok (.iadd, 1) := by decide +kernel
theorem dX2_makeRoom_32 : decode cX2_makeRoom 32 = .ok (.putfield 131, 3) := by decide +kernel
theorem dX2_makeRoom_35 : decode cX2_makeRoom 35 = .ok (.aload_n 0, 1) := by decide +kernel
theorem dX2_makeRoom_36 : decode cX2_makeRoom 36 = .ok (.getfield 14, 3) := by decide +kernel
theorem dX2_makeRoom_39 : decode cX2_makeRoom 39 = .ok (.iload_n 1, 1) := by decide +kernel
theorem dX2_makeRoom_40 : decode cX2_makeRoom 40 = .ok (.invokevirtual 137, 3) := by decide +kernel
theorem dX2_makeRoom_43 : decode cX2_makeRoom 43 = .ok (.ireturn, 1) := by decide +kernel
set_option maxRecDepth 20000 in
theorem ggX2_reachLive_X0_forgetReached : GoodIn wsX2_reachLive wsX0_forgetReached := goodIn_r _ [8, 9, 10, 28, 29, 30, 31, 32, 33, 34, 35, 36, 37, 38] (by decide +kernel) (by decide +kernel)
set_option maxRecDepth 20000 in
theorem gX2_reachLive_X0_forgetReached : GoodIn wsX2_reachLive (wsV RX2 115 RX0 yX0_forgetReached wsX0_forgetReached) := goodIn_app (goodIn_of _ (by decide +kernel)) ggX2_reachLive_X0_forgetReached
set_option maxRecDepth 20000 in
theorem ggX2_reachLive_X0_reach : GoodIn wsX2_reachLive wsX0_reach := goodIn_r _ [14, 9, 15, 16, 17, 18, 19, 20, 7, 21, 10, 28, 29, 30, 31, 32, 33, 34, 35, 36, 37, 38] (by decide +kernel) (by decide +kernel)
set_option maxRecDepth 20000 in
theorem gX2_reachLive_X0_reach : GoodIn wsX2_reachLive (wsV RX2 118 RX0 yX0_reach wsX0_reach) := goodIn_app (goodIn_of _ (by decide +kernel)) ggX2_reachLive_X0_reach
theorem dX2_reachLive_0 : decode cX2_reachLive 0 = .ok (.aload_n 0, 1) := by decide +kernel
theorem dX2_reachLive_1 : decode cX2_reachLive 1 = .ok (.getfield 14, 3) := by decide +kernel
theorem dX2_reachLive_4 : decode cX2_reachLive 4 = .ok (.invokevirtual 115, 3) := by decide +kernel
theorem dX2_reachLive_7 : decode cX2_reachLive 7 = .ok (.iconst 0, 1) := by decide +kernel
theorem dX2_reachLive_8 : decode cX2_reachLive 8 = .ok (.istore_n 1, 1) := by decide +kernel
theorem dX2_reachLive_9 : decode cX2_reachLive 9 = .ok (.iconst 0, 1) := by decide +kernel
theorem dX2_reachLive_10 : decode cX2_reachLive 10 = .ok (.istore_n 2, 1) := by decide +kernel
theorem dX2_reachLive_11 : decode cX2_reachLive 11 = .ok (.iload_n 2, 1) := by decide +kernel
theorem dX2_reachLive_12 : decode cX2_reachLive 12 = .ok (.aload_n 0, 1) := by decide +kernel
theorem dX2_reachLive_13 : decode cX2_reachLive 13 = .ok (.getfield 27, 3) := by decide +kernel
theorem dX2_reachLive_16 : decode cX2_reachLive 16 = .ok (.arraylength, 1) := by decide +kernel
theorem dX2_reachLive_17 : decode cX2_reachLive 17 = .ok (.if_icmp .ge 34, 3) := by decide +kernel
theorem dX2_reachLive_20 : decode cX2_reachLive 20 = .ok (.aload_n 0, 1) := by decide +kernel
theorem dX2_reachLive_21 : decode cX2_reachLive 21 = .ok (.getfield 27, 3) := by decide +kernel
theorem dX2_reachLive_24 : decode cX2_reachLive 24 = .ok (.iload_n 2, 1) := by decide +kernel
theorem dX2_reachLive_25 : decode cX2_reachLive 25 = .ok (.baload, 1) := by decide +kernel
theorem dX2_reachLive_26 : decode cX2_reachLive 26 = .ok (.ifCond .eq 19, 3) := by decide +kernel
theorem dX2_reachLive_29 : decode cX2_reachLive 29 = .ok (.iload_n 1, 1) := by decide +kernel
theorem dX2_reachLive_30 : decode cX2_reachLive 30 = .ok (.aload_n 0, 1) := by decide +kernel
theorem dX2_reachLive_31 : decode cX2_reachLive 31 = .ok (.getfield 14, 3) := by decide +kernel
theorem dX2_reachLive_34 : decode cX2_reachLive 34 = .ok (.aload_n 0, 1) := by decide +kernel
theorem dX2_reachLive_35 : decode cX2_reachLive 35 = .ok (.getfield 31, 3) := by decide +kernel
theorem dX2_reachLive_38 : decode cX2_reachLive 38 = .ok (.iload_n 2, 1) := by decide +kernel
theorem dX2_reachLive_39 : decode cX2_reachLive 39 = .ok (.iaload, 1) := by decide +kernel
theorem dX2_reachLive_40 : decode cX2_reachLive 40 = .ok (.invokevirtual 118, 3) := by decide +kernel
theorem dX2_reachLive_43 : decode cX2_reachLive 43 = .ok (.iadd, 1) := by decide +kernel
theorem dX2_reachLive_44 : decode cX2_reachLive 44 = .ok (.istore_n 1, 1) := by decide +kernel
theorem dX2_reachLive_45 : decode cX2_reachLive 45 = .ok (.iinc 2 1, 3) := by decide +kernel
theorem dX2_reachLive_48 : decode cX2_reachLive 48 = .ok (.goto (-37), 3) := by decide +kernel
theorem dX2_reachLive_51 : decode cX2_reachLive 51 = .ok (.iload_n 1, 1) := by decide +kernel
theorem dX2_reachLive_52 : decode cX2_reachLive 52 = .ok (.ireturn, 1) := by decide +kernel
theorem dX2_open_0 : decode cX2_open 0 = .ok (.aload_n 0, 1) := by decide +kernel
theorem dX2_open_1 : decode cX2_open 1 = .ok (.getfield 27, 3) := by decide +kernel
theorem dX2_open_4 : decode cX2_open 4 = .ok (.iload_n 1, 1) := by decide +kernel
theorem dX2_open_5 : decode cX2_open 5 = .ok (.iconst 1, 1) := by decide +kernel
theorem dX2_open_6 : decode cX2_open 6 = .ok (.bastore, 1) := by decide +kernel
theorem dX2_open_7 : decode cX2_open 7 = .ok (.aload_n 0, 1) := by decide +kernel
theorem dX2_open_8 : decode cX2_open 8 = .ok (.getfield 31, 3) := by decide +kernel
theorem dX2_open_11 : decode cX2_open 11 = .ok (.iload_n 1, 1) := by decide +kernel
theorem dX2_open_12 : decode cX2_open 12 = .ok (.iload_n 2, 1) := by decide +kernel
theorem dX2_open_13 : decode cX2_open 13 = .ok (.iastore, 1) := by decide +kernel
theorem dX2_open_14 : decode cX2_open 14 = .ok (.iload_n 1, 1) := by decide +kernel
theorem dX2_open_15 : decode cX2_open 15 = .ok (.ireturn, 1) := by decide +kernel
theorem dX2_drawWeight_0 : decode cX2_drawWeight 0 = .ok (.aload_n 0, 1) := by decide +kernel
theorem dX2_drawWeight_1 : decode cX2_drawWeight 1 = .ok (.aload_n 0, 1) := by decide +kernel
theorem dX2_drawWeight_2 : decode cX2_drawWeight 2 = .ok (.getfield 35, 3) := by decide +kernel
theorem dX2_drawWeight_5 : decode cX2_drawWeight 5 = .ok (.ldc 143, 2) := by decide +kernel
theorem dX2_drawWeight_7 : decode cX2_drawWeight 7 = .ok (.imul, 1) := by decide +kernel
theorem dX2_drawWeight_8 : decode cX2_drawWeight 8 = .ok (.sipush 12345, 3) := by decide +kernel
theorem dX2_drawWeight_11 : decode cX2_drawWeight 11 = .ok (.iadd, 1) := by decide +kernel
theorem dX2_drawWeight_12 : decode cX2_drawWeight 12 = .ok (.putfield 35, 3) := by decide +kernel
theorem dX2_drawWeight_15 : decode cX2_drawWeight 15 = .ok (.aload_n 0, 1) := by decide +kernel
theorem dX2_drawWeight_16 : decode cX2_drawWeight 16 = .ok (.getfield 35, 3) := by decide +kernel
theorem dX2_drawWeight_19 : decode cX2_drawWeight 19 = .ok (.bipush 16, 2) := by decide +kernel
end
section
theorem dX2_drawWeight_21 : decode cX2_drawWeight 21 = .ok (.iushr, 1) := by decide +kernel
theorem dX2_drawWeight_22 : decode cX2_drawWeight 22 = .ok (.bipush 15, 2) := by decide +kernel
theorem dX2_drawWeight_24 : decode cX2_drawWeight 24 = .ok (.iand, 1) := by decide +kernel
theorem dX2_drawWeight_25 : decode cX2_drawWeight 25 = .ok (.ireturn, 1) := by decide +kernel
theorem dX3_init_0 : decode cX3_init 0 = .ok (.aload_n 0, 1) := by decide +kernel
theorem dX3_init_1 : decode cX3_init 1 = .ok (.invokespecial 1, 3) := by decide +kernel
theorem dX3_init_4 : decode cX3_init 4 = .ok (.aload_n 0, 1) := by decide +kernel
theorem dX3_init_5 : decode cX3_init 5 = .ok (.sipush 160, 3) := by decide +kernel
theorem dX3_init_8 : decode cX3_init 8 = .ok (.newarray .int, 2) := by decide +kernel
theorem dX3_init_10 : decode cX3_init 10 = .ok (.putfield 7, 3) := by decide +kernel
theorem dX3_init_13 : decode cX3_init 13 = .ok (.aload_n 0, 1) := by decide +kernel
theorem dX3_init_14 : decode cX3_init 14 = .ok (.sipush 160, 3) := by decide +kernel
theorem dX3_init_17 : decode cX3_init 17 = .ok (.newarray .int, 2) := by decide +kernel
theorem dX3_init_19 : decode cX3_init 19 = .ok (.putfield 13, 3) := by decide +kernel
theorem dX3_init_22 : decode cX3_init 22 = .ok (.aload_n 0, 1) := by decide +kernel
theorem dX3_init_23 : decode cX3_init 23 = .ok (.sipush 160, 3) := by decide +kernel
theorem dX3_init_26 : decode cX3_init 26 = .ok (.newarray .int, 2) := by decide +kernel
theorem dX3_init_28 : decode cX3_init 28 = .ok (.putfield 16, 3) := by decide +kernel
theorem dX3_init_31 : decode cX3_init 31 = .ok (.aload_n 0, 1) := by decide +kernel
theorem dX3_init_32 : decode cX3_init 32 = .ok (.sipush 160, 3) := by decide +kernel
theorem dX3_init_35 : decode cX3_init 35 = .ok (.newarray .int, 2) := by decide +kernel
theorem dX3_init_37 : decode cX3_init 37 = .ok (.putfield 19, 3) := by decide +kernel
theorem dX3_init_40 : decode cX3_init 40 = .ok (.aload_n 0, 1) := by decide +kernel
theorem dX3_init_41 : decode cX3_init 41 = .ok (.sipush 160, 3) := by decide +kernel
theorem dX3_init_44 : decode cX3_init 44 = .ok (.newarray .int, 2) := by decide +kernel
theorem dX3_init_46 : decode cX3_init 46 = .ok (.putfield 22, 3) := by decide +kernel
theorem dX3_init_49 : decode cX3_init 49 = .ok (.aload_n 0, 1) := by decide +kernel
theorem dX3_init_50 : decode cX3_init 50 = .ok (.sipush 160, 3) := by decide +kernel
theorem dX3_init_53 : decode cX3_init 53 = .ok (.newarray .boolean, 2) := by decide +kernel
theorem dX3_init_55 : decode cX3_init 55 = .ok (.putfield 25, 3) := by decide +kernel
theorem dX3_init_58 : decode cX3_init 58 = .ok (.aload_n 0, 1) := by decide +kernel
theorem dX3_init_59 : decode cX3_init 59 = .ok (.sipush 160, 3) := by decide +kernel
theorem dX3_init_62 : decode cX3_init 62 = .ok (.newarray .boolean, 2) := by decide +kernel
theorem dX3_init_64 : decode cX3_init 64 = .ok (.putfield 29, 3) := by decide +kernel
theorem dX3_init_67 : decode cX3_init 67 = .ok (.aload_n 0, 1) := by decide +kernel
theorem dX3_init_68 : decode cX3_init 68 = .ok (.sipush 160, 3) := by decide +kernel
theorem dX3_init_71 : decode cX3_init 71 = .ok (.newarray .int, 2) := by decide +kernel
theorem dX3_init_73 : decode cX3_init 73 = .ok (.putfield 32, 3) := by decide +kernel
theorem dX3_init_76 : decode cX3_init 76 = .ok (.aload_n 0, 1) := by decide +kernel
theorem dX3_init_77 : decode cX3_init 77 = .ok (.bipush 8, 2) := by decide +kernel
theorem dX3_init_79 : decode cX3_init 79 = .ok (.newarray .boolean, 2) := by decide +kernel
theorem dX3_init_81 : decode cX3_init 81 = .ok (.putfield 35, 3) := by decide +kernel
theorem dX3_init_84 : decode cX3_init 84 = .ok (.aload_n 0, 1) := by decide +kernel
theorem dX3_init_85 : decode cX3_init 85 = .ok (.bipush 8, 2) := by decide +kernel
theorem dX3_init_87 : decode cX3_init 87 = .ok (.newarray .int, 2) := by decide +kernel
theorem dX3_init_89 : decode cX3_init 89 = .ok (.putfield 38, 3) := by decide +kernel
theorem dX3_init_92 : decode cX3_init 92 = .ok (.aload_n 0, 1) := by decide +kernel
theorem dX3_init_93 : decode cX3_init 93 = .ok (.bipush 64, 2) := by decide +kernel
theorem dX3_init_95 : decode cX3_init 95 = .ok (.newarray .int, 2) := by decide +kernel
theorem dX3_init_97 : decode cX3_init 97 = .ok (.putfield 41, 3) := by decide +kernel
theorem dX3_init_100 : decode cX3_init 100 = .ok (.aload_n 0, 1) := by decide +kernel
theorem dX3_init_101 : decode cX3_init 101 = .ok (.iload_n 1, 1) := by decide +kernel
theorem dX3_init_102 : decode cX3_init 102 = .ok (.iconst 1, 1) := by decide +kernel
theorem dX3_init_103 : decode cX3_init 103 = .ok (.if_icmp .lt 9, 3) := by decide +kernel
theorem dX3_init_106 : decode cX3_init 106 = .ok (.iload_n 1, 1) := by decide +kernel
theorem dX3_init_107 : decode cX3_init 107 = .ok (.bipush 40, 2) := by decide +kernel
theorem dX3_init_109 : decode cX3_init 109 = .ok (.if_icmp .le 8, 3) := by decide +kernel
theorem dX3_init_112 : decode cX3_init 112 = .ok (.bipush 20, 2) := by decide +kernel
theorem dX3_init_114 : decode cX3_init 114 = .ok (.goto 4, 3) := by decide +kernel
theorem dX3_init_117 : decode cX3_init 117 = .ok (.iload_n 1, 1) := by decide +kernel
theorem dX3_init_118 : decode cX3_init 118 = .ok (.putfield 44, 3) := by decide +kernel
theorem dX3_init_121 : decode cX3_init 121 = .ok (.aload_n 0, 1) := by decide +kernel
theorem dX3_init_122 : decode cX3_init 122 = .ok (.iload_n 2, 1) := by decide +kernel
theorem dX3_init_123 : decode cX3_init 123 = .ok (.iconst 1, 1) := by decide +kernel
theorem dX3_init_124 : decode cX3_init 124 = .ok (.if_icmp .lt 9, 3) := by decide +kernel
theorem dX3_init_127 : decode cX3_init 127 = .ok (.iload_n 2, 1) := by decide +kernel
theorem dX3_init_128 : decode cX3_init 128 = .ok (.bipush 8, 2) := by decide +kernel
theorem dX3_init_130 : decode cX3_init 130 = .ok (.if_icmp .le 7, 3) := by decide +kernel
theorem dX3_init_133 : decode cX3_init 133 = .ok (.iconst 4, 1) := by decide +kernel
theorem dX3_init_134 : decode cX3_init 134 = .ok (.goto 4, 3) := by decide +kernel
theorem dX3_init_137 : decode cX3_init 137 = .ok (.iload_n 2, 1) := by decide +kernel
theorem dX3_init_138 : decode cX3_init 138 = .ok (.putfield 48, 3) := by decide +kernel
theorem dX3_init_141 : decode cX3_init 141 = .ok (.aload_n 0, 1) := by decide +kernel
theorem dX3_init_142 : decode cX3_init 142 = .ok (.iload_n 3, 1) := by decide +kernel
theorem dX3_init_143 : decode cX3_init 143 = .ok (.putfield 51, 3) := by decide +kernel
theorem dX3_init_146 : decode cX3_init 146 = .ok (.aload_n 0, 1) := by decide +kernel
theorem dX3_init_147 : decode cX3_init 147 = .ok (.getfield 35, 3) := by decide +kernel
theorem dX3_init_150 : decode cX3_init 150 = .ok (.iconst 0, 1) := by decide +kernel
theorem dX3_init_151 : decode cX3_init 151 = .ok (.iconst 1, 1) := by decide +kernel
theorem dX3_init_152 : decode cX3_init 152 = .ok (.bastore, 1) := by decide +kernel
theorem dX3_init_153 : decode cX3_init 153 = .ok (.iconst 0, 1) := by decide +kernel
theorem dX3_init_154 : decode cX3_init 154 = .ok (.istore 4, 2) := by decide +kernel
theorem dX3_init_156 : decode cX3_init 156 = .ok (.iload 4, 2) := by decide +kernel
theorem dX3_init_158 : decode cX3_init 158 = .ok (.bipush 8, 2) := by decide +kernel
theorem dX3_init_160 : decode cX3_init 160 = .ok (.if_icmp .ge 17, 3) := by decide +kernel
theorem dX3_init_163 : decode cX3_init 163 = .ok (.aload_n 0, 1) := by decide +kernel
theorem dX3_init_164 : decode cX3_init 164 = .ok (.getfield 38, 3) := by decide +kernel
theorem dX3_init_167 : decode cX3_init 167 = .ok (.iload 4, 2) := by decide +kernel
theorem dX3_init_169 : decode cX3_init 169 = .ok (.iconst (-1), 1) := by decide +kernel
theorem dX3_init_170 : decode cX3_init 170 = .ok (.iastore, 1) := by decide +kernel
theorem dX3_init_171 : decode cX3_init 171 = .ok (.iinc 4 1, 3) := by decide +kernel
theorem dX3_init_174 : decode cX3_init 174 = .ok (.goto (-18), 3) := by decide +kernel
theorem dX3_init_177 : decode cX3_init 177 = .ok (.return_, 1) := by decide +kernel
theorem dX3_thrown_0 : decode cX3_thrown 0 = .ok (.aload_n 0, 1) := by decide +kernel
theorem dX3_thrown_1 : decode cX3_thrown 1 = .ok (.getfield 54, 3) := by decide +kernel
theorem dX3_thrown_4 : decode cX3_thrown 4 = .ok (.ireturn, 1) := by decide +kernel
theorem dX3_fail_0 : decode cX3_fail 0 = .ok (.aload_n 0, 1) := by decide +kernel
theorem dX3_fail_1 : decode cX3_fail 1 = .ok (.iload_n 1, 1) := by decide +kernel
theorem dX3_fail_2 : decode cX3_fail 2 = .ok (.putfield 54, 3) := by decide +kernel
theorem dX3_fail_5 : decode cX3_fail 5 = .ok (.iconst 0, 1) := by decide +kernel
theorem dX3_fail_6 : decode cX3_fail 6 = .ok (.ireturn, 1) := by decide +kernel
theorem dX3_has_0 : decode cX3_has 0 = .ok (.iload_n 1, 1) := by decide +kernel
theorem dX3_has_1 : decode cX3_has 1 = .ok (.ifCond .lt 24, 3) := by decide +kernel
theorem dX3_has_4 : decode cX3_has 4 = .ok (.iload_n 1, 1) := by decide +kernel
theorem dX3_has_5 : decode cX3_has 5 = .ok (.aload_n 0, 1) := by decide +kernel
theorem dX3_has_6 : decode cX3_has 6 = .ok (.getfield 48, 3) := by decide +kernel
theorem dX3_has_9 : decode cX3_has 9 = .ok (.if_icmp .ge 16, 3) := by decide +kernel
theorem dX3_has_12 : decode cX3_has 12 = .ok (.aload_n 0, 1) := by decide +kernel
theorem dX3_has_13 : decode cX3_has 13 = .ok (.getfield 35, 3) := by decide +kernel
theorem dX3_has_16 : decode cX3_has 16 = .ok (.iload_n 1, 1) := by decide +kernel
theorem dX3_has_17 : decode cX3_has 17 = .ok (.baload, 1) := by decide +kernel
theorem dX3_has_18 : decode cX3_has 18 = .ok (.ifCond .eq 7, 3) := by decide +kernel
theorem dX3_has_21 : decode cX3_has 21 = .ok (.iconst 1, 1) := by decide +kernel
theorem dX3_has_22 : decode cX3_has 22 = .ok (.goto 4, 3) := by decide +kernel
theorem dX3_has_25 : decode cX3_has 25 = .ok (.iconst 0, 1) := by decide +kernel
theorem dX3_has_26 : decode cX3_has 26 = .ok (.ireturn, 1) := by decide +kernel
theorem dX3_mark_0 : decode cX3_mark 0 = .ok (.iconst 0, 1) := by decide +kernel
theorem dX3_mark_1 : decode cX3_mark 1 = .ok (.istore_n 3, 1) := by decide +kernel
theorem dX3_mark_2 : decode cX3_mark 2 = .ok (.aload_n 0, 1) := by decide +kernel
theorem dX3_mark_3 : decode cX3_mark 3 = .ok (.iconst 0, 1) := by decide +kernel
theorem dX3_mark_4 : decode cX3_mark 4 = .ok (.putfield 57, 3) := by decide +kernel
theorem dX3_mark_7 : decode cX3_mark 7 = .ok (.iload_n 1, 1) := by decide +kernel
theorem dX3_mark_8 : decode cX3_mark 8 = .ok (.ifCond .lt 15, 3) := by decide +kernel
theorem dX3_mark_11 : decode cX3_mark 11 = .ok (.aload_n 0, 1) := by decide +kernel
theorem dX3_mark_12 : decode cX3_mark 12 = .ok (.getfield 32, 3) := by decide +kernel
theorem dX3_mark_15 : decode cX3_mark 15 = .ok (.iconst 0, 1) := by decide +kernel
theorem dX3_mark_16 : decode cX3_mark 16 = .ok (.iload_n 1, 1) := by decide +kernel
theorem dX3_mark_17 : decode cX3_mark 17 = .ok (.iastore, 1) := by decide +kernel
theorem dX3_mark_18 : decode cX3_mark 18 = .ok (.aload_n 0, 1) := by decide +kernel
theorem dX3_mark_19 : decode cX3_mark 19 = .ok (.iconst 1, 1) := by decide +kernel
theorem dX3_mark_20 : decode cX3_mark 20 = .ok (.putfield 57, 3) := by decide +kernel
theorem dX3_mark_23 : decode cX3_mark 23 = .ok (.aload_n 0, 1) := by decide +kernel
theorem dX3_mark_24 : decode cX3_mark 24 = .ok (.getfield 57, 3) := by decide +kernel
theorem dX3_mark_27 : decode cX3_mark 27 = .ok (.ifCond .le 114, 3) := by decide +kernel
theorem dX3_mark_30 : decode cX3_mark 30 = .ok (.aload_n 0, 1) := by decide +kernel
theorem dX3_mark_31 : decode cX3_mark 31 = .ok (.dup, 1) := by decide +kernel
theorem dX3_mark_32 : decode cX3_mark 32 = .ok (.getfield 57, 3) := by decide +kernel
theorem dX3_mark_35 : decode cX3_mark 35 = .ok (.iconst 1, 1) := by decide +kernel
theorem dX3_mark_36 : decode cX3_mark 36 = .ok (.isub, 1) := by decide +kernel
theorem dX3_mark_37 : decode cX3_mark 37 = .ok (.putfield 57, 3) := by decide +kernel
theorem dX3_mark_40 : decode cX3_mark 40 = .ok (.aload_n 0, 1) := by decide +kernel
theorem dX3_mark_41 : decode cX3_mark 41 = .ok (.getfield 32, 3) := by decide +kernel
theorem dX3_mark_44 : decode cX3_mark 44 = .ok (.aload_n 0, 1) := by decide +kernel
theorem dX3_mark_45 : decode cX3_mark 45 = .ok (.getfield 57, 3) := by decide +kernel
theorem dX3_mark_48 : decode cX3_mark 48 = .ok (.iaload, 1) := by decide +kernel
theorem dX3_mark_49 : decode cX3_mark 49 = .ok (.istore 4, 2) := by decide +kernel
theorem dX3_mark_51 : decode cX3_mark 51 = .ok (.aload_n 2, 1) := by decide +kernel
theorem dX3_mark_52 : decode cX3_mark 52 = .ok (.iload 4, 2) := by decide +kernel
theorem dX3_mark_54 : decode cX3_mark 54 = .ok (.baload, 1) := by decide +kernel
theorem dX3_mark_55 : decode cX3_mark 55 = .ok (.ifCond .ne 83, 3) := by decide +kernel
theorem dX3_mark_58 : decode cX3_mark 58 = .ok (.aload_n 2, 1) := by decide +kernel
theorem dX3_mark_59 : decode cX3_mark 59 = .ok (.iload 4, 2) := by decide +kernel
theorem dX3_mark_61 : decode cX3_mark 61 = .ok (.iconst 1, 1) := by decide +kernel
theorem dX3_mark_62 : decode cX3_mark 62 = .ok (.bastore, 1) := by decide +kernel
theorem dX3_mark_63 : decode cX3_mark 63 = .ok (.iinc 3 1, 3) := by decide +kernel
theorem dX3_mark_66 : decode cX3_mark 66 = .ok (.aload_n 0, 1) := by decide +kernel
theorem dX3_mark_67 : decode cX3_mark 67 = .ok (.getfield 19, 3) := by decide +kernel
theorem dX3_mark_70 : decode cX3_mark 70 = .ok (.iload 4, 2) := by decide +kernel
theorem dX3_mark_72 : decode cX3_mark 72 = .ok (.iaload, 1) := by decide +kernel
theorem dX3_mark_73 : decode cX3_mark 73 = .ok (.ifCond .lt 29, 3) := by decide +kernel
theorem dX3_mark_76 : decode cX3_mark 76 = .ok (.aload_n 0, 1) := by decide +kernel
theorem dX3_mark_77 : decode cX3_mark 77 = .ok (.getfield 32, 3) := by decide +kernel
theorem dX3_mark_80 : decode cX3_mark 80 = .ok (.aload_n 0, 1) := by decide +kernel
theorem dX3_mark_81 : decode cX3_mark 81 = .ok (.getfield 57, 3) := by decide +kernel
theorem dX3_mark_84 : decode cX3_mark 84 = .ok (.aload_n 0, 1) := by decide +kernel
theorem dX3_mark_85 : decode cX3_mark 85 = .ok (.getfield 19, 3) := by decide +kernel
theorem dX3_mark_88 : decode cX3_mark 88 = .ok (.iload 4, 2) := by decide +kernel
theorem dX3_mark_90 : decode cX3_mark 90 = .ok (.iaload, 1) := by decide +kernel
theorem dX3_mark_91 : decode cX3_mark 91 = .ok (.iastore, 1) := by decide +kernel
theorem dX3_mark_92 : decode cX3_mark 92 = .ok (.aload_n 0, 1) := by decide +kernel
theorem dX3_mark_93 : decode cX3_mark 93 = .ok (.dup, 1) := by decide +kernel
theorem dX3_mark_94 : decode cX3_mark 94 = .ok (.getfield 57, 3) := by decide +kernel
theorem dX3_mark_97 : decode cX3_mark 97 = .ok (.iconst 1, 1) := by decide +kernel
theorem dX3_mark_98 : decode cX3_mark 98 = .ok (.iadd, 1) := by decide +kernel
theorem dX3_mark_99 : decode cX3_mark 99 = .ok (.putfield 57, 3) := by decide +kernel
theorem dX3_mark_102 : decode cX3_mark 102 = .ok (.aload_n 0, 1) := by decide +kernel
theorem dX3_mark_103 : decode cX3_mark 103 = .ok (.getfield 22, 3) := by decide +kernel
theorem dX3_mark_106 : decode cX3_mark 106 = .ok (.iload 4, 2) := by decide +kernel
theorem dX3_mark_108 : decode cX3_mark 108 = .ok (.iaload, 1) := by decide +kernel
theorem dX3_mark_109 : decode cX3_mark 109 = .ok (.ifCond .lt 29, 3) := by decide +kernel
theorem dX3_mark_112 : decode cX3_mark 112 = .ok (.aload_n 0, 1) := by decide +kernel
theorem dX3_mark_113 : decode cX3_mark 113 = .ok (.getfield 32, 3) := by decide +kernel
theorem dX3_mark_116 : decode cX3_mark 116 = .ok (.aload_n 0, 1) := by decide +kernel
theorem dX3_mark_117 : decode cX3_mark 117 = .ok (.getfield 57, 3) := by decide +kernel
theorem dX3_mark_120 : decode cX3_mark 120 = .ok (.aload_n 0, 1) := by decide +kernel
theorem dX3_mark_121 : decode cX3_mark 121 = .ok (.getfield 22, 3) := by decide +kernel
theorem dX3_mark_124 : decode cX3_mark 124 = .ok (.iload 4, 2) := by decide +kernel
theorem dX3_mark_126 : decode cX3_mark 126 = .ok (.iaload, 1) := by decide +kernel
theorem dX3_mark_127 : decode cX3_mark 127 = .ok (.iastore, 1) := by decide +kernel
theorem dX3_mark_128 : decode cX3_mark 128 = .ok (.aload_n 0, 1) := by decide +kernel
theorem dX3_mark_129 : decode cX3_mark 129 = .ok (.dup, 1) := by decide +kernel
theorem dX3_mark_130 : decode cX3_mark 130 = .ok (.getfield 57, 3) := by decide +kernel
theorem dX3_mark_133 : decode cX3_mark 133 = .ok (.iconst 1, 1) := by decide +kernel
theorem dX3_mark_134 : decode cX3_mark 134 = .ok (.iadd, 1) := by decide +kernel
theorem dX3_mark_135 : decode cX3_mark 135 = .ok (.putfield 57, 3) := by decide +kernel
theorem dX3_mark_138 : decode cX3_mark 138 = .ok (.goto (-115), 3) := by decide +kernel
theorem dX3_mark_141 : decode cX3_mark 141 = .ok (.iload_n 3, 1) := by decide +kernel
theorem dX3_mark_142 : decode cX3_mark 142 = .ok (.ireturn, 1) := by decide +kernel
set_option maxRecDepth 20000 in
theorem ggX3_markAll_X3_mark : GoodIn wsX3_markAll wsX3_mark := goodIn_r _ [9, 10, 11, 12, 13, 14, 15, 16, 17, 18, 19, 20, 21, 22, 23, 24, 25, 26, 27, 28, 29, 30, 31, 32, 33, 34, 35, 36, 37] (by decide +kernel) (by decide +kernel)
set_option maxRecDepth 20000 in
theorem gX3_markAll_X3_mark : GoodIn wsX3_markAll (wsV RX3 60 RX3 yX3_mark wsX3_mark) := goodIn_app (goodIn_of _ (by decide +kernel)) ggX3_markAll_X3_mark
theorem dX3_markAll_0 : decode cX3_markAll 0 = .ok (.iconst 0, 1) := by decide +kernel
theorem dX3_markAll_1 : decode cX3_markAll 1 = .ok (.istore_n 1, 1) := by decide +kernel
theorem dX3_markAll_2 : decode cX3_markAll 2 = .ok (.iload_n 1, 1) := by decide +kernel
theorem dX3_markAll_3 : decode cX3_markAll 3 = .ok (.sipush 160, 3) := by decide +kernel
theorem dX3_markAll_6 : decode cX3_markAll 6 = .ok (.if_icmp .ge 16, 3) := by decide +kernel
theorem dX3_markAll_9 : decode cX3_markAll 9 = .ok (.aload_n 0, 1) := by decide +kernel
theorem dX3_markAll_10 : decode cX3_markAll 10 = .ok (.getfield 25, 3) := by decide +kernel
theorem dX3_markAll_13 : decode cX3_markAll 13 = .ok (.iload_n 1, 1) := by decide +kernel
theorem dX3_markAll_14 : decode cX3_markAll 14 = .ok (.iconst 0, 1) := by decide +kernel
theorem dX3_markAll_15 : decode cX3_markAll 15 = .ok (.bastore, 1) := by decide +kernel
theorem dX3_markAll_16 : decode cX3_markAll 16 = .ok (.iinc 1 1, 3) := by decide +kernel
theorem dX3_markAll_19 : decode cX3_markAll 19 = .ok (.goto (-17), 3) := by decide +kernel
theorem dX3_markAll_22 : decode cX3_markAll 22 = .ok (.iconst 0, 1) := by decide +kernel
theorem dX3_markAll_23 : decode cX3_markAll 23 = .ok (.istore_n 1, 1) := by decide +kernel
theorem dX3_markAll_24 : decode cX3_markAll 24 = .ok (.iconst 0, 1) := by decide +kernel
theorem dX3_markAll_25 : decode cX3_markAll 25 = .ok (.istore_n 2, 1) := by decide +kernel
theorem dX3_markAll_26 : decode cX3_markAll 26 = .ok (.iload_n 2, 1) := by decide +kernel
theorem dX3_markAll_27 : decode cX3_markAll 27 = .ok (.aload_n 0, 1) := by decide +kernel
theorem dX3_markAll_28 : decode cX3_markAll 28 = .ok (.getfield 48, 3) := by decide +kernel
theorem dX3_markAll_31 : decode cX3_markAll 31 = .ok (.if_icmp .ge 39, 3) := by decide +kernel
theorem dX3_markAll_34 : decode cX3_markAll 34 = .ok (.aload_n 0, 1) := by decide +kernel
theorem dX3_markAll_35 : decode cX3_markAll 35 = .ok (.getfield 35, 3) := by decide +kernel
theorem dX3_markAll_38 : decode cX3_markAll 38 = .ok (.iload_n 2, 1) := by decide +kernel
theorem dX3_markAll_39 : decode cX3_markAll 39 = .ok (.baload, 1) := by decide +kernel
theorem dX3_markAll_40 : decode cX3_markAll 40 = .ok (.ifCond .eq 22, 3) := by decide +kernel
theorem dX3_markAll_43 : decode cX3_markAll 43 = .ok (.iload_n 1, 1) := by decide +kernel
theorem dX3_markAll_44 : decode cX3_markAll 44 = .ok (.aload_n 0, 1) := by decide +kernel
theorem dX3_markAll_45 : decode cX3_markAll 45 = .ok (.aload_n 0, 1) := by decide +kernel
theorem dX3_markAll_46 : decode cX3_markAll 46 = .ok (.getfield 38, 3) := by decide +kernel
theorem dX3_markAll_49 : decode cX3_markAll 49 = .ok (.iload_n 2, 1) := by decide +kernel
theorem dX3_markAll_50 : decode cX3_markAll 50 = .ok (.iaload, 1) := by decide +kernel
theorem dX3_markAll_51 : decode cX3_markAll 51 = .ok (.aload_n 0, 1) := by decide +kernel
theorem dX3_markAll_52 : decode cX3_markAll 52 = .ok (.getfield 25, 3) := by decide +kernel
theorem dX3_markAll_55 : decode cX3_markAll 55 = .ok (.invokevirtual 60, 3) := by decide +kernel
theorem dX3_markAll_58 : decode cX3_markAll 58 = .ok (.iadd, 1) := by decide +kernel
theorem dX3_markAll_59 : decode cX3_markAll 59 = .ok (.goto 4, 3) := by decide +kernel
theorem dX3_markAll_62 : decode cX3_markAll 62 = .ok (.iload_n 1, 1) := by decide +kernel
theorem dX3_markAll_63 : decode cX3_markAll 63 = .ok (.istore_n 1, 1) := by decide +kernel
theorem dX3_markAll_64 : decode cX3_markAll 64 = .ok (.iinc 2 1, 3) := by decide +kernel
theorem dX3_markAll_67 : decode cX3_markAll 67 = .ok (.goto (-41), 3) := by decide +kernel
theorem dX3_markAll_70 : decode cX3_markAll 70 = .ok (.iload_n 1, 1) := by decide +kernel
theorem dX3_markAll_71 : decode cX3_markAll 71 = .ok (.ireturn, 1) := by decide +kernel
theorem dX3_above_0 : decode cX3_above 0 = .ok (.aload_n 0, 1) := by decide +kernel
theorem dX3_above_1 : decode cX3_above 1 = .ok (.getfield 16, 3) := by decide +kernel
theorem dX3_above_4 : decode cX3_above 4 = .ok (.iload_n 1, 1) := by decide +kernel
theorem dX3_above_5 : decode cX3_above 5 = .ok (.iaload, 1) := by decide +kernel
theorem dX3_above_6 : decode cX3_above 6 = .ok (.aload_n 0, 1) := by decide +kernel
theorem dX3_above_7 : decode cX3_above 7 = .ok (.getfield 16, 3) := by decide +kernel
theorem dX3_above_10 : decode cX3_above 10 = .ok (.iload_n 2, 1) := by decide +kernel
theorem dX3_above_11 : decode cX3_above 11 = .ok (.iaload, 1) := by decide +kernel
theorem dX3_above_12 : decode cX3_above 12 = .ok (.if_icmp .gt 33, 3) := by decide +kernel
theorem dX3_above_15 : decode cX3_above 15 = .ok (.aload_n 0, 1) := by decide +kernel
theorem dX3_above_16 : decode cX3_above 16 = .ok (.getfield 16, 3) := by decide +kernel
theorem dX3_above_19 : decode cX3_above 19 = .ok (.iload_n 1, 1) := by decide +kernel
theorem dX3_above_20 : decode cX3_above 20 = .ok (.iaload, 1) := by decide +kernel
theorem dX3_above_21 : decode cX3_above 21 = .ok (.aload_n 0, 1) := by decide +kernel
theorem dX3_above_22 : decode cX3_above 22 = .ok (.getfield 16, 3) := by decide +kernel
theorem dX3_above_25 : decode cX3_above 25 = .ok (.iload_n 2, 1) := by decide +kernel
theorem dX3_above_26 : decode cX3_above 26 = .ok (.iaload, 1) := by decide +kernel
theorem dX3_above_27 : decode cX3_above 27 = .ok (.if_icmp .ne 22, 3) := by decide +kernel
theorem dX3_above_30 : decode cX3_above 30 = .ok (.aload_n 0, 1) := by decide +kernel
theorem dX3_above_31 : decode cX3_above 31 = .ok (.getfield 7, 3) := by decide +kernel
theorem dX3_above_34 : decode cX3_above 34 = .ok (.iload_n 1, 1) := by decide +kernel
theorem dX3_above_35 : decode cX3_above 35 = .ok (.iaload, 1) := by decide +kernel
theorem dX3_above_36 : decode cX3_above 36 = .ok (.aload_n 0, 1) := by decide +kernel
theorem dX3_above_37 : decode cX3_above 37 = .ok (.getfield 7, 3) := by decide +kernel
theorem dX3_above_40 : decode cX3_above 40 = .ok (.iload_n 2, 1) := by decide +kernel
theorem dX3_above_41 : decode cX3_above 41 = .ok (.iaload, 1) := by decide +kernel
theorem dX3_above_42 : decode cX3_above 42 = .ok (.if_icmp .ge 7, 3) := by decide +kernel
theorem dX3_above_45 : decode cX3_above 45 = .ok (.iconst 1, 1) := by decide +kernel
theorem dX3_above_46 : decode cX3_above 46 = .ok (.goto 4, 3) := by decide +kernel
theorem dX3_above_49 : decode cX3_above 49 = .ok (.iconst 0, 1) := by decide +kernel
theorem dX3_above_50 : decode cX3_above 50 = .ok (.ireturn, 1) := by decide +kernel
set_option maxRecDepth 20000 in
theorem ggX3_begin_X3_markAll : GoodIn wsX3_begin wsX3_markAll := goodIn_r _ [9, 10, 11, 12, 13, 14, 15, 16, 8, 17, 18, 19, 20, 21, 22, 23, 24, 25, 26, 27, 28, 29, 30, 31, 32, 33, 34, 35, 36, 37, 38, 39, 40, 41, 42, 43, 44, 45] (by decide +kernel) (by decide +kernel)
set_option maxRecDepth 20000 in
theorem gX3_begin_X3_markAll : GoodIn wsX3_begin (wsV RX3 64 RX3 yX3_markAll wsX3_markAll) := goodIn_app (goodIn_of _ (by decide +kernel)) ggX3_begin_X3_markAll
theorem dX3_begin_0 : decode cX3_begin 0 = .ok (.aload_n 0, 1) := by decide +kernel
theorem dX3_begin_1 : decode cX3_begin 1 = .ok (.invokevirtual 64, 3) := by decide +kernel
theorem dX3_begin_4 : decode cX3_begin 4 = .ok (.pop, 1) := by decide +kernel
theorem dX3_begin_5 : decode cX3_begin 5 = .ok (.aload_n 0, 1) := by decide +kernel
theorem dX3_begin_6 : decode cX3_begin 6 = .ok (.iconst 0, 1) := by decide +kernel
theorem dX3_begin_7 : decode cX3_begin 7 = .ok (.putfield 68, 3) := by decide +kernel
theorem dX3_begin_10 : decode cX3_begin 10 = .ok (.aload_n 0, 1) := by decide +kernel
theorem dX3_begin_11 : decode cX3_begin 11 = .ok (.iconst 0, 1) := by decide +kernel
theorem dX3_begin_12 : decode cX3_begin 12 = .ok (.putfield 71, 3) := by decide +kernel
theorem dX3_begin_15 : decode cX3_begin 15 = .ok (.aload_n 0, 1) := by decide +kernel
theorem dX3_begin_16 : decode cX3_begin 16 = .ok (.iconst (-1), 1) := by decide +kernel
theorem dX3_begin_17 : decode cX3_begin 17 = .ok (.putfield 74, 3) := by decide +kernel
theorem dX3_begin_20 : decode cX3_begin 20 = .ok (.aload_n 0, 1) := by decide +kernel
theorem dX3_begin_21 : decode cX3_begin 21 = .ok (.iconst (-1), 1) := by decide +kernel
theorem dX3_begin_22 : decode cX3_begin 22 = .ok (.putfield 77, 3) := by decide +kernel
theorem dX3_begin_25 : decode cX3_begin 25 = .ok (.return_, 1) := by decide +kernel
theorem dX3_make_0 : decode cX3_make 0 = .ok (.aload_n 0, 1) := by decide +kernel
theorem dX3_make_1 : decode cX3_make 1 = .ok (.getfield 25, 3) := by decide +kernel
theorem dX3_make_4 : decode cX3_make 4 = .ok (.aload_n 0, 1) := by decide +kernel
theorem dX3_make_5 : decode cX3_make 5 = .ok (.getfield 71, 3) := by decide +kernel
theorem dX3_make_8 : decode cX3_make 8 = .ok (.baload, 1) := by decide +kernel
theorem dX3_make_9 : decode cX3_make 9 = .ok (.ifCond .eq 16, 3) := by decide +kernel
theorem dX3_make_12 : decode cX3_make 12 = .ok (.aload_n 0, 1) := by decide +kernel
theorem dX3_make_13 : decode cX3_make 13 = .ok (.dup, 1) := by decide +kernel
theorem dX3_make_14 : decode cX3_make 14 = .ok (.getfield 71, 3) := by decide +kernel
theorem dX3_make_17 : decode cX3_make 17 = .ok (.iconst 1, 1) := by decide +kernel
theorem dX3_make_18 : decode cX3_make 18 = .ok (.iadd, 1) := by decide +kernel
theorem dX3_make_19 : decode cX3_make 19 = .ok (.putfield 71, 3) := by decide +kernel
theorem dX3_make_22 : decode cX3_make 22 = .ok (.goto (-22), 3) := by decide +kernel
theorem dX3_make_25 : decode cX3_make 25 = .ok (.aload_n 0, 1) := by decide +kernel
theorem dX3_make_26 : decode cX3_make 26 = .ok (.getfield 71, 3) := by decide +kernel
theorem dX3_make_29 : decode cX3_make 29 = .ok (.istore 6, 2) := by decide +kernel
theorem dX3_make_31 : decode cX3_make 31 = .ok (.aload_n 0, 1) := by decide +kernel
theorem dX3_make_32 : decode cX3_make 32 = .ok (.dup, 1) := by decide +kernel
theorem dX3_make_33 : decode cX3_make 33 = .ok (.getfield 71, 3) := by decide +kernel
theorem dX3_make_36 : decode cX3_make 36 = .ok (.iconst 1, 1) := by decide +kernel
theorem dX3_make_37 : decode cX3_make 37 = .ok (.iadd, 1) := by decide +kernel
theorem dX3_make_38 : decode cX3_make 38 = .ok (.putfield 71, 3) := by decide +kernel
theorem dX3_make_41 : decode cX3_make 41 = .ok (.aload_n 0, 1) := by decide +kernel
theorem dX3_make_42 : decode cX3_make 42 = .ok (.dup, 1) := by decide +kernel
theorem dX3_make_43 : decode cX3_make 43 = .ok (.getfield 68, 3) := by decide +kernel
theorem dX3_make_46 : decode cX3_make 46 = .ok (.iconst 1, 1) := by decide +kernel
theorem dX3_make_47 : decode cX3_make 47 = .ok (.iadd, 1) := by decide +kernel
theorem dX3_make_48 : decode cX3_make 48 = .ok (.putfield 68, 3) := by decide +kernel
theorem dX3_make_51 : decode cX3_make 51 = .ok (.aload_n 0, 1) := by decide +kernel
theorem dX3_make_52 : decode cX3_make 52 = .ok (.getfield 7, 3) := by decide +kernel
theorem dX3_make_55 : decode cX3_make 55 = .ok (.iload 6, 2) := by decide +kernel
theorem dX3_make_57 : decode cX3_make 57 = .ok (.iload_n 1, 1) := by decide +kernel
theorem dX3_make_58 : decode cX3_make 58 = .ok (.iastore, 1) := by decide +kernel
theorem dX3_make_59 : decode cX3_make 59 = .ok (.aload_n 0, 1) := by decide +kernel
theorem dX3_make_60 : decode cX3_make 60 = .ok (.getfield 13, 3) := by decide +kernel
theorem dX3_make_63 : decode cX3_make 63 = .ok (.iload 6, 2) := by decide +kernel
theorem dX3_make_65 : decode cX3_make 65 = .ok (.iload_n 2, 1) := by decide +kernel
theorem dX3_make_66 : decode cX3_make 66 = .ok (.iastore, 1) := by decide +kernel
theorem dX3_make_67 : decode cX3_make 67 = .ok (.aload_n 0, 1) := by decide +kernel
theorem dX3_make_68 : decode cX3_make 68 = .ok (.getfield 16, 3) := by decide +kernel
theorem dX3_make_71 : decode cX3_make 71 = .ok (.iload 6, 2) := by decide +kernel
theorem dX3_make_73 : decode cX3_make 73 = .ok (.iload_n 3, 1) := by decide +kernel
theorem dX3_make_74 : decode cX3_make 74 = .ok (.iastore, 1) := by decide +kernel
theorem dX3_make_75 : decode cX3_make 75 = .ok (.aload_n 0, 1) := by decide +kernel
theorem dX3_make_76 : decode cX3_make 76 = .ok (.getfield 19, 3) := by decide +kernel
theorem dX3_make_79 : decode cX3_make 79 = .ok (.iload 6, 2) := by decide +kernel
theorem dX3_make_81 : decode cX3_make 81 = .ok (.iload 4, 2) := by decide +kernel
theorem dX3_make_83 : decode cX3_make 83 = .ok (.iastore, 1) := by decide +kernel
theorem dX3_make_84 : decode cX3_make 84 = .ok (.aload_n 0, 1) := by decide +kernel
theorem dX3_make_85 : decode cX3_make 85 = .ok (.getfield 22, 3) := by decide +kernel
theorem dX3_make_88 : decode cX3_make 88 = .ok (.iload 6, 2) := by decide +kernel
theorem dX3_make_90 : decode cX3_make 90 = .ok (.iload 5, 2) := by decide +kernel
theorem dX3_make_92 : decode cX3_make 92 = .ok (.iastore, 1) := by decide +kernel
theorem dX3_make_93 : decode cX3_make 93 = .ok (.iload 6, 2) := by decide +kernel
theorem dX3_make_95 : decode cX3_make 95 = .ok (.ireturn, 1) := by decide +kernel
set_option maxRecDepth 20000 in
theorem ggX3_copy_X3_make : GoodIn wsX3_copy wsX3_make := goodIn_r _ [10, 11, 12, 13, 1, 2, 3, 4, 5, 14, 15, 16, 17, 18, 19, 20, 21, 22, 23, 24, 25, 26, 27, 28, 29, 30, 31, 32, 33, 34, 35, 36, 37] (by decide +kernel) (by decide +kernel)
set_option maxRecDepth 20000 in
theorem gX3_copy_X3_make : GoodIn wsX3_copy (wsV RX3 80 RX3 yX3_make wsX3_make) := goodIn_app (goodIn_of _ (by decide +kernel)) ggX3_copy_X3_make
theorem dX3_copy_0 : decode cX3_copy 0 = .ok (.aload_n 0, 1) := by decide +kernel
theorem dX3_copy_1 : decode cX3_copy 1 = .ok (.aload_n 0, 1) := by decide +kernel
theorem dX3_copy_2 : decode cX3_copy 2 = .ok (.getfield 7, 3) := by decide +kernel
theorem dX3_copy_5 : decode cX3_copy 5 = .ok (.iload_n 1, 1) := by decide +kernel
theorem dX3_copy_6 : decode cX3_copy 6 = .ok (.iaload, 1) := by decide +kernel
theorem dX3_copy_7 : decode cX3_copy 7 = .ok (.aload_n 0, 1) := by decide +kernel
theorem dX3_copy_8 : decode cX3_copy 8 = .ok (.getfield 13, 3) := by decide +kernel
theorem dX3_copy_11 : decode cX3_copy 11 = .ok (.iload_n 1, 1) := by decide +kernel
theorem dX3_copy_12 : decode cX3_copy 12 = .ok (.iaload, 1) := by decide +kernel
theorem dX3_copy_13 : decode cX3_copy 13 = .ok (.aload_n 0, 1) := by decide +kernel
theorem dX3_copy_14 : decode cX3_copy 14 = .ok (.getfield 16, 3) := by decide +kernel
theorem dX3_copy_17 : decode cX3_copy 17 = .ok (.iload_n 1, 1) := by decide +kernel
theorem dX3_copy_18 : decode cX3_copy 18 = .ok (.iaload, 1) := by decide +kernel
theorem dX3_copy_19 : decode cX3_copy 19 = .ok (.aload_n 0, 1) := by decide +kernel
theorem dX3_copy_20 : decode cX3_copy 20 = .ok (.getfield 19, 3) := by decide +kernel
theorem dX3_copy_23 : decode cX3_copy 23 = .ok (.iload_n 1, 1) := by decide +kernel
theorem dX3_copy_24 : decode cX3_copy 24 = .ok (.iaload, 1) := by decide +kernel
theorem dX3_copy_25 : decode cX3_copy 25 = .ok (.aload_n 0, 1) := by decide +kernel
theorem dX3_copy_26 : decode cX3_copy 26 = .ok (.getfield 22, 3) := by decide +kernel
theorem dX3_copy_29 : decode cX3_copy 29 = .ok (.iload_n 1, 1) := by decide +kernel
theorem dX3_copy_30 : decode cX3_copy 30 = .ok (.iaload, 1) := by decide +kernel
theorem dX3_copy_31 : decode cX3_copy 31 = .ok (.invokevirtual 80, 3) := by decide +kernel
theorem dX3_copy_34 : decode cX3_copy 34 = .ok (.ireturn, 1) := by decide +kernel
theorem dX3_hang_0 : decode cX3_hang 0 = .ok (.aload_n 0, 1) := by decide +kernel
theorem dX3_hang_1 : decode cX3_hang 1 = .ok (.getfield 77, 3) := by decide +kernel
theorem dX3_hang_4 : decode cX3_hang 4 = .ok (.ifCond .ge 11, 3) := by decide +kernel
theorem dX3_hang_7 : decode cX3_hang 7 = .ok (.aload_n 0, 1) := by decide +kernel
theorem dX3_hang_8 : decode cX3_hang 8 = .ok (.iload_n 1, 1) := by decide +kernel
theorem dX3_hang_9 : decode cX3_hang 9 = .ok (.putfield 74, 3) := by decide +kernel
theorem dX3_hang_12 : decode cX3_hang 12 = .ok (.goto 33, 3) := by decide +kernel
theorem dX3_hang_15 : decode cX3_hang 15 = .ok (.aload_n 0, 1) := by decide +kernel
theorem dX3_hang_16 : decode cX3_hang 16 = .ok (.getfield 84, 3) := by decide +kernel
theorem dX3_hang_19 : decode cX3_hang 19 = .ok (.ifCond .eq 16, 3) := by decide +kernel
theorem dX3_hang_22 : decode cX3_hang 22 = .ok (.aload_n 0, 1) := by decide +kernel
theorem dX3_hang_23 : decode cX3_hang 23 = .ok (.getfield 22, 3) := by decide +kernel
theorem dX3_hang_26 : decode cX3_hang 26 = .ok (.aload_n 0, 1) := by decide +kernel
theorem dX3_hang_27 : decode cX3_hang 27 = .ok (.getfield 77, 3) := by decide +kernel
theorem dX3_hang_30 : decode cX3_hang 30 = .ok (.iload_n 1, 1) := by decide +kernel
theorem dX3_hang_31 : decode cX3_hang 31 = .ok (.iastore, 1) := by decide +kernel
theorem dX3_hang_32 : decode cX3_hang 32 = .ok (.goto 13, 3) := by decide +kernel
theorem dX3_hang_35 : decode cX3_hang 35 = .ok (.aload_n 0, 1) := by decide +kernel
theorem dX3_hang_36 : decode cX3_hang 36 = .ok (.getfield 19, 3) := by decide +kernel
theorem dX3_hang_39 : decode cX3_hang 39 = .ok (.aload_n 0, 1) := by decide +kernel
theorem dX3_hang_40 : decode cX3_hang 40 = .ok (.getfield 77, 3) := by decide +kernel
theorem dX3_hang_43 : decode cX3_hang 43 = .ok (.iload_n 1, 1) := by decide +kernel
theorem dX3_hang_44 : decode cX3_hang 44 = .ok (.iastore, 1) := by decide +kernel
theorem dX3_hang_45 : decode cX3_hang 45 = .ok (.return_, 1) := by decide +kernel
theorem dX3_holeAt_0 : decode cX3_holeAt 0 = .ok (.aload_n 0, 1) := by decide +kernel
theorem dX3_holeAt_1 : decode cX3_holeAt 1 = .ok (.iload_n 1, 1) := by decide +kernel
theorem dX3_holeAt_2 : decode cX3_holeAt 2 = .ok (.putfield 77, 3) := by decide +kernel
theorem dX3_holeAt_5 : decode cX3_holeAt 5 = .ok (.aload_n 0, 1) := by decide +kernel
theorem dX3_holeAt_6 : decode cX3_holeAt 6 = .ok (.iload_n 2, 1) := by decide +kernel
theorem dX3_holeAt_7 : decode cX3_holeAt 7 = .ok (.putfield 84, 3) := by decide +kernel
theorem dX3_holeAt_10 : decode cX3_holeAt 10 = .ok (.return_, 1) := by decide +kernel
theorem dX3_go_0 : decode cX3_go 0 = .ok (.aload_n 0, 1) := by decide +kernel
theorem dX3_go_1 : decode cX3_go 1 = .ok (.iconst 0, 1) := by decide +kernel
theorem dX3_go_2 : decode cX3_go 2 = .ok (.putfield 88, 3) := by decide +kernel
theorem dX3_go_5 : decode cX3_go 5 = .ok (.iload_n 1, 1) := by decide +kernel
theorem dX3_go_6 : decode cX3_go 6 = .ok (.istore 4, 2) := by decide +kernel
theorem dX3_go_8 : decode cX3_go 8 = .ok (.iload 4, 2) := by decide +kernel
theorem dX3_go_10 : decode cX3_go 10 = .ok (.ifCond .lt 88, 3) := by decide +kernel
theorem dX3_go_13 : decode cX3_go 13 = .ok (.aload_n 0, 1) := by decide +kernel
theorem dX3_go_14 : decode cX3_go 14 = .ok (.getfield 41, 3) := by decide +kernel
theorem dX3_go_17 : decode cX3_go 17 = .ok (.aload_n 0, 1) := by decide +kernel
theorem dX3_go_18 : decode cX3_go 18 = .ok (.getfield 88, 3) := by decide +kernel
theorem dX3_go_21 : decode cX3_go 21 = .ok (.iload 4, 2) := by decide +kernel
theorem dX3_go_23 : decode cX3_go 23 = .ok (.iastore, 1) := by decide +kernel
theorem dX3_go_24 : decode cX3_go 24 = .ok (.aload_n 0, 1) := by decide +kernel
theorem dX3_go_25 : decode cX3_go 25 = .ok (.dup, 1) := by decide +kernel
theorem dX3_go_26 : decode cX3_go 26 = .ok (.getfield 88, 3) := by decide +kernel
theorem dX3_go_29 : decode cX3_go 29 = .ok (.iconst 1, 1) := by decide +kernel
theorem dX3_go_30 : decode cX3_go 30 = .ok (.iadd, 1) := by decide +kernel
theorem dX3_go_31 : decode cX3_go 31 = .ok (.putfield 88, 3) := by decide +kernel
theorem dX3_go_34 : decode cX3_go 34 = .ok (.iload_n 3, 1) := by decide +kernel
theorem dX3_go_35 : decode cX3_go 35 = .ok (.ifCond .eq 18, 3) := by decide +kernel
theorem dX3_go_38 : decode cX3_go 38 = .ok (.aload_n 0, 1) := by decide +kernel
theorem dX3_go_39 : decode cX3_go 39 = .ok (.getfield 7, 3) := by decide +kernel
theorem dX3_go_42 : decode cX3_go 42 = .ok (.iload 4, 2) := by decide +kernel
theorem dX3_go_44 : decode cX3_go 44 = .ok (.iaload, 1) := by decide +kernel
theorem dX3_go_45 : decode cX3_go 45 = .ok (.iload_n 2, 1) := by decide +kernel
theorem dX3_go_46 : decode cX3_go 46 = .ok (.if_icmp .ne 7, 3) := by decide +kernel
theorem dX3_go_49 : decode cX3_go 49 = .ok (.iconst 1, 1) := by decide +kernel
theorem dX3_go_50 : decode cX3_go 50 = .ok (.goto 4, 3) := by decide +kernel
theorem dX3_go_53 : decode cX3_go 53 = .ok (.iconst 0, 1) := by decide +kernel
theorem dX3_go_54 : decode cX3_go 54 = .ok (.istore 5, 2) := by decide +kernel
theorem dX3_go_56 : decode cX3_go 56 = .ok (.iload 5, 2) := by decide +kernel
theorem dX3_go_58 : decode cX3_go 58 = .ok (.ifCond .eq 7, 3) := by decide +kernel
theorem dX3_go_61 : decode cX3_go 61 = .ok (.iconst (-1), 1) := by decide +kernel
theorem dX3_go_62 : decode cX3_go 62 = .ok (.goto 31, 3) := by decide +kernel
theorem dX3_go_65 : decode cX3_go 65 = .ok (.aload_n 0, 1) := by decide +kernel
theorem dX3_go_66 : decode cX3_go 66 = .ok (.getfield 7, 3) := by decide +kernel
theorem dX3_go_69 : decode cX3_go 69 = .ok (.iload 4, 2) := by decide +kernel
theorem dX3_go_71 : decode cX3_go 71 = .ok (.iaload, 1) := by decide +kernel
theorem dX3_go_72 : decode cX3_go 72 = .ok (.iload_n 2, 1) := by decide +kernel
theorem dX3_go_73 : decode cX3_go 73 = .ok (.if_icmp .ge 13, 3) := by decide +kernel
theorem dX3_go_76 : decode cX3_go 76 = .ok (.aload_n 0, 1) := by decide +kernel
theorem dX3_go_77 : decode cX3_go 77 = .ok (.getfield 22, 3) := by decide +kernel
theorem dX3_go_80 : decode cX3_go 80 = .ok (.iload 4, 2) := by decide +kernel
theorem dX3_go_82 : decode cX3_go 82 = .ok (.iaload, 1) := by decide +kernel
theorem dX3_go_83 : decode cX3_go 83 = .ok (.goto 10, 3) := by decide +kernel
theorem dX3_go_86 : decode cX3_go 86 = .ok (.aload_n 0, 1) := by decide +kernel
theorem dX3_go_87 : decode cX3_go 87 = .ok (.getfield 19, 3) := by decide +kernel
theorem dX3_go_90 : decode cX3_go 90 = .ok (.iload 4, 2) := by decide +kernel
theorem dX3_go_92 : decode cX3_go 92 = .ok (.iaload, 1) := by decide +kernel
theorem dX3_go_93 : decode cX3_go 93 = .ok (.istore 4, 2) := by decide +kernel
theorem dX3_go_95 : decode cX3_go 95 = .ok (.goto (-87), 3) := by decide +kernel
theorem dX3_go_98 : decode cX3_go 98 = .ok (.return_, 1) := by decide +kernel
theorem dX3_find_0 : decode cX3_find 0 = .ok (.iload_n 1, 1) := by decide +kernel
theorem dX3_find_1 : decode cX3_find 1 = .ok (.istore_n 3, 1) := by decide +kernel
theorem dX3_find_2 : decode cX3_find 2 = .ok (.iload_n 3, 1) := by decide +kernel
theorem dX3_find_3 : decode cX3_find 3 = .ok (.ifCond .lt 42, 3) := by decide +kernel
theorem dX3_find_6 : decode cX3_find 6 = .ok (.aload_n 0, 1) := by decide +kernel
theorem dX3_find_7 : decode cX3_find 7 = .ok (.getfield 7, 3) := by decide +kernel
theorem dX3_find_10 : decode cX3_find 10 = .ok (.iload_n 3, 1) := by decide +kernel
theorem dX3_find_11 : decode cX3_find 11 = .ok (.iaload, 1) := by decide +kernel
theorem dX3_find_12 : decode cX3_find 12 = .ok (.iload_n 2, 1) := by decide +kernel
theorem dX3_find_13 : decode cX3_find 13 = .ok (.if_icmp .eq 32, 3) := by decide +kernel
theorem dX3_find_16 : decode cX3_find 16 = .ok (.aload_n 0, 1) := by decide +kernel
theorem dX3_find_17 : decode cX3_find 17 = .ok (.getfield 7, 3) := by decide +kernel
theorem dX3_find_20 : decode cX3_find 20 = .ok (.iload_n 3, 1) := by decide +kernel
theorem dX3_find_21 : decode cX3_find 21 = .ok (.iaload, 1) := by decide +kernel
theorem dX3_find_22 : decode cX3_find 22 = .ok (.iload_n 2, 1) := by decide +kernel
theorem dX3_find_23 : decode cX3_find 23 = .ok (.if_icmp .ge 12, 3) := by decide +kernel
theorem dX3_find_26 : decode cX3_find 26 = .ok (.aload_n 0, 1) := by decide +kernel
theorem dX3_find_27 : decode cX3_find 27 = .ok (.getfield 22, 3) := by decide +kernel
theorem dX3_find_30 : decode cX3_find 30 = .ok (.iload_n 3, 1) := by decide +kernel
theorem dX3_find_31 : decode cX3_find 31 = .ok (.iaload, 1) := by decide +kernel
theorem dX3_find_32 : decode cX3_find 32 = .ok (.goto 9, 3) := by decide +kernel
theorem dX3_find_35 : decode cX3_find 35 = .ok (.aload_n 0, 1) := by decide +kernel
theorem dX3_find_36 : decode cX3_find 36 = .ok (.getfield 19, 3) := by decide +kernel
theorem dX3_find_39 : decode cX3_find 39 = .ok (.iload_n 3, 1) := by decide +kernel
theorem dX3_find_40 : decode cX3_find 40 = .ok (.iaload, 1) := by decide +kernel
theorem dX3_find_41 : decode cX3_find 41 = .ok (.istore_n 3, 1) := by decide +kernel
theorem dX3_find_42 : decode cX3_find 42 = .ok (.goto (-40), 3) := by decide +kernel
theorem dX3_find_45 : decode cX3_find 45 = .ok (.iload_n 3, 1) := by decide +kernel
theorem dX3_find_46 : decode cX3_find 46 = .ok (.ireturn, 1) := by decide +kernel
theorem dX3_freeHandle_0 : decode cX3_freeHandle 0 = .ok (.iconst 0, 1) := by decide +kernel
theorem dX3_freeHandle_1 : decode cX3_freeHandle 1 = .ok (.istore_n 1, 1) := by decide +kernel
theorem dX3_freeHandle_2 : decode cX3_freeHandle 2 = .ok (.iload_n 1, 1) := by decide +kernel
theorem dX3_freeHandle_3 : decode cX3_freeHandle 3 = .ok (.aload_n 0, 1) := by decide +kernel
theorem dX3_freeHandle_4 : decode cX3_freeHandle 4 = .ok (.getfield 48, 3) := by decide +kernel
theorem dX3_freeHandle_7 : decode cX3_freeHandle 7 = .ok (.if_icmp .ge 18, 3) := by decide +kernel
theorem dX3_freeHandle_10 : decode cX3_freeHandle 10 = .ok (.aload_n 0, 1) := by decide +kernel
theorem dX3_freeHandle_11 : decode cX3_freeHandle 11 = .ok (.getfield 35, 3) := by decide +kernel
theorem dX3_freeHandle_14 : decode cX3_freeHandle 14 = .ok (.iload_n 1, 1) := by decide +kernel
theorem dX3_freeHandle_15 : decode cX3_freeHandle 15 = .ok (.baload, 1) := by decide +kernel
theorem dX3_freeHandle_16 : decode cX3_freeHandle 16 = .ok (.ifCond .eq 9, 3) := by decide +kernel
theorem dX3_freeHandle_19 : decode cX3_freeHandle 19 = .ok (.iinc 1 1, 3) := by decide +kernel
theorem dX3_freeHandle_22 : decode cX3_freeHandle 22 = .ok (.goto (-20), 3) := by decide +kernel
theorem dX3_freeHandle_25 : decode cX3_freeHandle 25 = .ok (.iload_n 1, 1) := by decide +kernel
theorem dX3_freeHandle_26 : decode cX3_freeHandle 26 = .ok (.aload_n 0, 1) := by decide +kernel
theorem dX3_freeHandle_27 : decode cX3_freeHandle 27 = .ok (.getfield 48, 3) := by decide +kernel
theorem dX3_freeHandle_30 : decode cX3_freeHandle 30 = .ok (.if_icmp .ge 7, 3) := by decide +kernel
theorem dX3_freeHandle_33 : decode cX3_freeHandle 33 = .ok (.iload_n 1, 1) := by decide +kernel
theorem dX3_freeHandle_34 : decode cX3_freeHandle 34 = .ok (.goto 4, 3) := by decide +kernel
theorem dX3_freeHandle_37 : decode cX3_freeHandle 37 = .ok (.iconst (-1), 1) := by decide +kernel
theorem dX3_freeHandle_38 : decode cX3_freeHandle 38 = .ok (.ireturn, 1) := by decide +kernel
set_option maxRecDepth 20000 in
theorem ggX3_takes_X3_markAll : GoodIn wsX3_takes wsX3_markAll := goodIn_r _ [8, 9, 10, 11, 12, 13, 14, 15, 7, 16, 17, 18, 19, 20, 21, 22, 23, 24, 25, 26, 27, 28, 29, 30, 31, 32, 33, 34, 35, 36, 37, 38, 39, 40, 41, 42, 43, 44] (by decide +kernel) (by decide +kernel)
set_option maxRecDepth 20000 in
theorem gX3_takes_X3_markAll : GoodIn wsX3_takes (wsV RX3 64 RX3 yX3_markAll wsX3_markAll) := goodIn_app (goodIn_of _ (by decide +kernel)) ggX3_takes_X3_markAll
theorem dX3_takes_0 : decode cX3_takes 0 = .ok (.aload_n 0, 1) := by decide +kernel
theorem dX3_takes_1 : decode cX3_takes 1 = .ok (.getfield 91, 3) := by decide +kernel
theorem dX3_takes_4 : decode cX3_takes 4 = .ok (.iload_n 1, 1) := by decide +kernel
theorem dX3_takes_5 : decode cX3_takes 5 = .ok (.iadd, 1) := by decide +kernel
theorem dX3_takes_6 : decode cX3_takes 6 = .ok (.aload_n 0, 1) := by decide +kernel
theorem dX3_takes_7 : decode cX3_takes 7 = .ok (.getfield 44, 3) := by decide +kernel
theorem dX3_takes_10 : decode cX3_takes 10 = .ok (.if_icmp .le 21, 3) := by decide +kernel
theorem dX3_takes_13 : decode cX3_takes 13 = .ok (.aload_n 0, 1) := by decide +kernel
theorem dX3_takes_14 : decode cX3_takes 14 = .ok (.aload_n 0, 1) := by decide +kernel
theorem dX3_takes_15 : decode cX3_takes 15 = .ok (.invokevirtual 64, 3) := by decide +kernel
theorem dX3_takes_18 : decode cX3_takes 18 = .ok (.putfield 91, 3) := by decide +kernel
theorem dX3_takes_21 : decode cX3_takes 21 = .ok (.aload_n 0, 1) := by decide +kernel
theorem dX3_takes_22 : decode cX3_takes 22 = .ok (.dup, 1) := by decide +kernel
theorem dX3_takes_23 : decode cX3_takes 23 = .ok (.getfield 94, 3) := by decide +kernel
theorem dX3_takes_26 : decode cX3_takes 26 = .ok (.iconst 1, 1) := by decide +kernel
theorem dX3_takes_27 : decode cX3_takes 27 = .ok (.iadd, 1) := by decide +kernel
theorem dX3_takes_28 : decode cX3_takes 28 = .ok (.putfield 94, 3) := by decide +kernel
theorem dX3_takes_31 : decode cX3_takes 31 = .ok (.aload_n 0, 1) := by decide +kernel
theorem dX3_takes_32 : decode cX3_takes 32 = .ok (.getfield 91, 3) := by decide +kernel
theorem dX3_takes_35 : decode cX3_takes 35 = .ok (.iload_n 1, 1) := by decide +kernel
theorem dX3_takes_36 : decode cX3_takes 36 = .ok (.iadd, 1) := by decide +kernel
theorem dX3_takes_37 : decode cX3_takes 37 = .ok (.aload_n 0, 1) := by decide +kernel
theorem dX3_takes_38 : decode cX3_takes 38 = .ok (.getfield 44, 3) := by decide +kernel
theorem dX3_takes_41 : decode cX3_takes 41 = .ok (.if_icmp .le 5, 3) := by decide +kernel
theorem dX3_takes_44 : decode cX3_takes 44 = .ok (.iconst 0, 1) := by decide +kernel
theorem dX3_takes_45 : decode cX3_takes 45 = .ok (.ireturn, 1) := by decide +kernel
theorem dX3_takes_46 : decode cX3_takes 46 = .ok (.aload_n 0, 1) := by decide +kernel
theorem dX3_takes_47 : decode cX3_takes 47 = .ok (.aload_n 0, 1) := by decide +kernel
theorem dX3_takes_48 : decode cX3_takes 48 = .ok (.getfield 91, 3) := by decide +kernel
theorem dX3_takes_51 : decode cX3_takes 51 = .ok (.iload_n 1, 1) := by decide +kernel
theorem dX3_takes_52 : decode cX3_takes 52 = .ok (.iadd, 1) := by decide +kernel
theorem dX3_takes_53 : decode cX3_takes 53 = .ok (.putfield 91, 3) := by decide +kernel
theorem dX3_takes_56 : decode cX3_takes 56 = .ok (.iconst 1, 1) := by decide +kernel
theorem dX3_takes_57 : decode cX3_takes 57 = .ok (.ireturn, 1) := by decide +kernel
set_option maxRecDepth 20000 in
theorem ggX3_settle_X3_takes : GoodIn wsX3_settle wsX3_takes := goodIn_r _ [9, 10, 11, 12, 13, 14, 15, 8, 16, 17, 18, 2, 3, 19, 20, 21, 22, 23, 24, 25, 26, 27, 28, 29, 30, 31, 32, 33, 34, 35, 36, 37, 38, 39, 40, 41, 42, 43, 44, 45, 46, 47, 48, 49, 50] (by decide +kernel) (by decide +kernel)
set_option maxRecDepth 20000 in
theorem gX3_settle_X3_takes : GoodIn wsX3_settle (wsV RX3 97 RX3 yX3_takes wsX3_takes) := goodIn_app (goodIn_of _ (by decide +kernel)) ggX3_settle_X3_takes
theorem dX3_settle_0 : decode cX3_settle 0 = .ok (.aload_n 0, 1) := by decide +kernel
theorem dX3_settle_1 : decode cX3_settle 1 = .ok (.aload_n 0, 1) := by decide +kernel
theorem dX3_settle_2 : decode cX3_settle 2 = .ok (.getfield 68, 3) := by decide +kernel
theorem dX3_settle_5 : decode cX3_settle 5 = .ok (.invokevirtual 97, 3) := by decide +kernel
theorem dX3_settle_8 : decode cX3_settle 8 = .ok (.ifCond .ne 6, 3) := by decide +kernel
theorem dX3_settle_11 : decode cX3_settle 11 = .ok (.bipush (-3), 2) := by decide +kernel
theorem dX3_settle_13 : decode cX3_settle 13 = .ok (.ireturn, 1) := by decide +kernel
theorem dX3_settle_14 : decode cX3_settle 14 = .ok (.aload_n 0, 1) := by decide +kernel
theorem dX3_settle_15 : decode cX3_settle 15 = .ok (.getfield 35, 3) := by decide +kernel
theorem dX3_settle_18 : decode cX3_settle 18 = .ok (.iload_n 1, 1) := by decide +kernel
theorem dX3_settle_19 : decode cX3_settle 19 = .ok (.iconst 1, 1) := by decide +kernel
theorem dX3_settle_20 : decode cX3_settle 20 = .ok (.bastore, 1) := by decide +kernel
theorem dX3_settle_21 : decode cX3_settle 21 = .ok (.aload_n 0, 1) := by decide +kernel
theorem dX3_settle_22 : decode cX3_settle 22 = .ok (.getfield 38, 3) := by decide +kernel
theorem dX3_settle_25 : decode cX3_settle 25 = .ok (.iload_n 1, 1) := by decide +kernel
theorem dX3_settle_26 : decode cX3_settle 26 = .ok (.aload_n 0, 1) := by decide +kernel
theorem dX3_settle_27 : decode cX3_settle 27 = .ok (.getfield 74, 3) := by decide +kernel
theorem dX3_settle_30 : decode cX3_settle 30 = .ok (.iastore, 1) := by decide +kernel
theorem dX3_settle_31 : decode cX3_settle 31 = .ok (.iload_n 1, 1) := by decide +kernel
theorem dX3_settle_32 : decode cX3_settle 32 = .ok (.ireturn, 1) := by decide +kernel
set_option maxRecDepth 20000 in
theorem ggX3_putValue_X3_copy : GoodIn wsX3_putValue wsX3_copy := goodIn_r _ [9, 4, 3, 10, 11, 12, 13, 14, 15, 8, 16, 17, 18, 19, 31, 32, 33, 34, 35, 36, 37, 38, 39, 40, 41, 42, 43, 44, 45, 46, 47, 48, 49, 50, 51, 52, 53, 54] (by decide +kernel) (by decide +kernel)
set_option maxRecDepth 20000 in
theorem gX3_putValue_X3_copy : GoodIn wsX3_putValue (wsV RX3 101 RX3 yX3_copy wsX3_copy) := goodIn_app (goodIn_of _ (by decide +kernel)) ggX3_putValue_X3_copy
set_option maxRecDepth 20000 in
theorem ggX3_putValue_X3_hang : GoodIn wsX3_putValue wsX3_hang := goodIn_r _ [23, 24, 25, 26, 12, 11, 31, 32, 33, 34, 35, 36, 37, 38, 39, 40, 41, 42, 43, 44, 45, 46, 47, 48, 49, 50, 51, 52, 53, 54] (by decide +kernel) (by decide +kernel)
set_option maxRecDepth 20000 in
theorem gX3_putValue_X3_hang : GoodIn wsX3_putValue (wsV RX3 105 RX3 yX3_hang wsX3_hang) := goodIn_app (goodIn_of _ (by decide +kernel)) ggX3_putValue_X3_hang
set_option maxRecDepth 20000 in
theorem ggX3_putValue_X3_holeAt : GoodIn wsX3_putValue wsX3_holeAt := goodIn_r _ [30, 24, 26, 31, 32, 33, 34, 35, 36, 37, 38, 39, 40, 41, 42, 43, 44, 45, 46, 47, 48, 49, 50, 51, 52, 53, 54] (by decide +kernel) (by decide +kernel)
set_option maxRecDepth 20000 in
theorem gX3_putValue_X3_holeAt : GoodIn wsX3_putValue (wsV RX3 109 RX3 yX3_holeAt wsX3_holeAt) := goodIn_app (goodIn_of _ (by decide +kernel)) ggX3_putValue_X3_holeAt
theorem dX3_putValue_0 : decode cX3_putValue 0 = .ok (.iconst 0, 1) := by decide +kernel
theorem dX3_putValue_1 : decode cX3_putValue 1 = .ok (.istore_n 3, 1) := by decide +kernel
theorem dX3_putValue_2 : decode cX3_putValue 2 = .ok (.iload_n 3, 1) := by decide +kernel
theorem dX3_putValue_3 : decode cX3_putValue 3 = .ok (.aload_n 0, 1) := by decide +kernel
theorem dX3_putValue_4 : decode cX3_putValue 4 = .ok (.getfield 88, 3) := by decide +kernel
theorem dX3_putValue_7 : decode cX3_putValue 7 = .ok (.if_icmp .ge 77, 3) := by decide +kernel
theorem dX3_putValue_10 : decode cX3_putValue 10 = .ok (.aload_n 0, 1) := by decide +kernel
theorem dX3_putValue_11 : decode cX3_putValue 11 = .ok (.aload_n 0, 1) := by decide +kernel
theorem dX3_putValue_12 : decode cX3_putValue 12 = .ok (.getfield 41, 3) := by decide +kernel
theorem dX3_putValue_15 : decode cX3_putValue 15 = .ok (.iload_n 3, 1) := by decide +kernel
theorem dX3_putValue_16 : decode cX3_putValue 16 = .ok (.iaload, 1) := by decide +kernel
theorem dX3_putValue_17 : decode cX3_putValue 17 = .ok (.invokevirtual 101, 3) := by decide +kernel
theorem dX3_putValue_20 : decode cX3_putValue 20 = .ok (.istore 4, 2) := by decide +kernel
theorem dX3_putValue_22 : decode cX3_putValue 22 = .ok (.aload_n 0, 1) := by decide +kernel
theorem dX3_putValue_23 : decode cX3_putValue 23 = .ok (.iload 4, 2) := by decide +kernel
theorem dX3_putValue_25 : decode cX3_putValue 25 = .ok (.invokevirtual 105, 3) := by decide +kernel
theorem dX3_putValue_28 : decode cX3_putValue 28 = .ok (.aload_n 0, 1) := by decide +kernel
theorem dX3_putValue_29 : decode cX3_putValue 29 = .ok (.getfield 13, 3) := by decide +kernel
theorem dX3_putValue_32 : decode cX3_putValue 32 = .ok (.iload 4, 2) := by decide +kernel
theorem dX3_putValue_34 : decode cX3_putValue 34 = .ok (.iload_n 3, 1) := by decide +kernel
theorem dX3_putValue_35 : decode cX3_putValue 35 = .ok (.aload_n 0, 1) := by decide +kernel
theorem dX3_putValue_36 : decode cX3_putValue 36 = .ok (.getfield 88, 3) := by decide +kernel
theorem dX3_putValue_39 : decode cX3_putValue 39 = .ok (.iconst 1, 1) := by decide +kernel
theorem dX3_putValue_40 : decode cX3_putValue 40 = .ok (.isub, 1) := by decide +kernel
theorem dX3_putValue_41 : decode cX3_putValue 41 = .ok (.if_icmp .ne 7, 3) := by decide +kernel
theorem dX3_putValue_44 : decode cX3_putValue 44 = .ok (.iload_n 2, 1) := by decide +kernel
theorem dX3_putValue_45 : decode cX3_putValue 45 = .ok (.goto 10, 3) := by decide +kernel
theorem dX3_putValue_48 : decode cX3_putValue 48 = .ok (.aload_n 0, 1) := by decide +kernel
theorem dX3_putValue_49 : decode cX3_putValue 49 = .ok (.getfield 13, 3) := by decide +kernel
theorem dX3_putValue_52 : decode cX3_putValue 52 = .ok (.iload 4, 2) := by decide +kernel
theorem dX3_putValue_54 : decode cX3_putValue 54 = .ok (.iaload, 1) := by decide +kernel
theorem dX3_putValue_55 : decode cX3_putValue 55 = .ok (.iastore, 1) := by decide +kernel
theorem dX3_putValue_56 : decode cX3_putValue 56 = .ok (.aload_n 0, 1) := by decide +kernel
theorem dX3_putValue_57 : decode cX3_putValue 57 = .ok (.iload 4, 2) := by decide +kernel
theorem dX3_putValue_59 : decode cX3_putValue 59 = .ok (.aload_n 0, 1) := by decide +kernel
theorem dX3_putValue_60 : decode cX3_putValue 60 = .ok (.getfield 7, 3) := by decide +kernel
theorem dX3_putValue_63 : decode cX3_putValue 63 = .ok (.iload 4, 2) := by decide +kernel
theorem dX3_putValue_65 : decode cX3_putValue 65 = .ok (.iaload, 1) := by decide +kernel
theorem dX3_putValue_66 : decode cX3_putValue 66 = .ok (.iload_n 1, 1) := by decide +kernel
theorem dX3_putValue_67 : decode cX3_putValue 67 = .ok (.if_icmp .ge 7, 3) := by decide +kernel
theorem dX3_putValue_70 : decode cX3_putValue 70 = .ok (.iconst 1, 1) := by decide +kernel
theorem dX3_putValue_71 : decode cX3_putValue 71 = .ok (.goto 4, 3) := by decide +kernel
theorem dX3_putValue_74 : decode cX3_putValue 74 = .ok (.iconst 0, 1) := by decide +kernel
theorem dX3_putValue_75 : decode cX3_putValue 75 = .ok (.invokevirtual 109, 3) := by decide +kernel
theorem dX3_putValue_78 : decode cX3_putValue 78 = .ok (.iinc 3 1, 3) := by decide +kernel
theorem dX3_putValue_81 : decode cX3_putValue 81 = .ok (.goto (-79), 3) := by decide +kernel
theorem dX3_putValue_84 : decode cX3_putValue 84 = .ok (.return_, 1) := by decide +kernel
set_option maxRecDepth 20000 in
theorem ggX3_putNew_X3_make : GoodIn wsX3_putNew wsX3_make := goodIn_r _ [12, 13, 14, 15, 5, 16, 17, 6, 7, 37, 38, 39, 40, 41, 42, 43, 44, 45, 46, 47, 48, 49, 50, 51, 52, 53, 54, 55, 56, 57, 58, 59, 60] (by decide +kernel) (by decide +kernel)
set_option maxRecDepth 20000 in
theorem gX3_putNew_X3_make : GoodIn wsX3_putNew (wsV RX3 80 RX3 yX3_make wsX3_make) := goodIn_app (goodIn_of _ (by decide +kernel)) ggX3_putNew_X3_make
set_option maxRecDepth 20000 in
theorem ggX3_putNew_X3_above : GoodIn wsX3_putNew wsX3_above := goodIn_r _ [21, 17, 5, 37, 38, 39, 40, 41, 42, 43, 44, 45, 46, 47, 48, 49, 50, 51, 52, 53, 54, 55, 56, 57, 58, 59, 60] (by decide +kernel) (by decide +kernel)
set_option maxRecDepth 20000 in
theorem gX3_putNew_X3_above : GoodIn wsX3_putNew (wsV RX3 114 RX3 yX3_above wsX3_above) := goodIn_app (goodIn_of _ (by decide +kernel)) ggX3_putNew_X3_above
set_option maxRecDepth 20000 in
theorem ggX3_putNew_X3_copy : GoodIn wsX3_putNew wsX3_copy := goodIn_r _ [25, 5, 16, 17, 6, 7, 8, 9, 10, 11, 12, 13, 14, 15, 37, 38, 39, 40, 41, 42, 43, 44, 45, 46, 47, 48, 49, 50, 51, 52, 53, 54, 55, 56, 57, 58, 59, 60] (by decide +kernel) (by decide +kernel)
set_option maxRecDepth 20000 in
theorem gX3_putNew_X3_copy : GoodIn wsX3_putNew (wsV RX3 101 RX3 yX3_copy wsX3_copy) := goodIn_app (goodIn_of _ (by decide +kernel)) ggX3_putNew_X3_copy
set_option maxRecDepth 20000 in
theorem ggX3_putNew_X3_hang : GoodIn wsX3_putNew wsX3_hang := goodIn_r _ [29, 30, 31, 32, 7, 6, 37, 38, 39, 40, 41, 42, 43, 44, 45, 46, 47, 48, 49, 50, 51, 52, 53, 54, 55, 56, 57, 58, 59, 60] (by decide +kernel) (by decide +kernel)
set_option maxRecDepth 20000 in
theorem gX3_putNew_X3_hang : GoodIn wsX3_putNew (wsV RX3 105 RX3 yX3_hang wsX3_hang) := goodIn_app (goodIn_of _ (by decide +kernel)) ggX3_putNew_X3_hang
set_option maxRecDepth 20000 in
theorem ggX3_putNew_X3_holeAt : GoodIn wsX3_putNew wsX3_holeAt := goodIn_r _ [36, 30, 32, 37, 38, 39, 40, 41, 42, 43, 44, 45, 46, 47, 48, 49, 50, 51, 52, 53, 54, 55, 56, 57, 58, 59, 60] (by decide +kernel) (by decide +kernel)
set_option maxRecDepth 20000 in
theorem gX3_putNew_X3_holeAt : GoodIn wsX3_putNew (wsV RX3 109 RX3 yX3_holeAt wsX3_holeAt) := goodIn_app (goodIn_of _ (by decide +kernel)) ggX3_putNew_X3_holeAt
theorem dX3_putNew_0 : decode cX3_putNew 0 = .ok (.aload_n 0, 1) := by decide +kernel
theorem dX3_putNew_1 : decode cX3_putNew 1 = .ok (.aload_n 0, 1) := by decide +kernel
theorem dX3_putNew_2 : decode cX3_putNew 2 = .ok (.getfield 51, 3) := by decide +kernel
theorem dX3_putNew_5 : decode cX3_putNew 5 = .ok (.ldc 113, 2) := by decide +kernel
theorem dX3_putNew_7 : decode cX3_putNew 7 = .ok (.imul, 1) := by decide +kernel
theorem dX3_putNew_8 : decode cX3_putNew 8 = .ok (.sipush 12345, 3) := by decide +kernel
theorem dX3_putNew_11 : decode cX3_putNew 11 = .ok (.iadd, 1) := by decide +kernel
theorem dX3_putNew_12 : decode cX3_putNew 12 = .ok (.putfield 51, 3) := by decide +kernel
theorem dX3_putNew_15 : decode cX3_putNew 15 = .ok (.aload_n 0, 1) := by decide +kernel
theorem dX3_putNew_16 : decode cX3_putNew 16 = .ok (.iload_n 1, 1) := by decide +kernel
theorem dX3_putNew_17 : decode cX3_putNew 17 = .ok (.iload_n 2, 1) := by decide +kernel
theorem dX3_putNew_18 : decode cX3_putNew 18 = .ok (.aload_n 0, 1) := by decide +kernel
theorem dX3_putNew_19 : decode cX3_putNew 19 = .ok (.getfield 51, 3) := by decide +kernel
theorem dX3_putNew_22 : decode cX3_putNew 22 = .ok (.bipush 16, 2) := by decide +kernel
theorem dX3_putNew_24 : decode cX3_putNew 24 = .ok (.ishr, 1) := by decide +kernel
theorem dX3_putNew_25 : decode cX3_putNew 25 = .ok (.bipush 15, 2) := by decide +kernel
theorem dX3_putNew_27 : decode cX3_putNew 27 = .ok (.iand, 1) := by decide +kernel
theorem dX3_putNew_28 : decode cX3_putNew 28 = .ok (.iconst (-1), 1) := by decide +kernel
theorem dX3_putNew_29 : decode cX3_putNew 29 = .ok (.iconst (-1), 1) := by decide +kernel
theorem dX3_putNew_30 : decode cX3_putNew 30 = .ok (.invokevirtual 80, 3) := by decide +kernel
theorem dX3_putNew_33 : decode cX3_putNew 33 = .ok (.istore_n 3, 1) := by decide +kernel
theorem dX3_putNew_34 : decode cX3_putNew 34 = .ok (.iconst 0, 1) := by decide +kernel
theorem dX3_putNew_35 : decode cX3_putNew 35 = .ok (.istore 4, 2) := by decide +kernel
theorem dX3_putNew_37 : decode cX3_putNew 37 = .ok (.iload 4, 2) := by decide +kernel
theorem dX3_putNew_39 : decode cX3_putNew 39 = .ok (.aload_n 0, 1) := by decide +kernel
theorem dX3_putNew_40 : decode cX3_putNew 40 = .ok (.getfield 88, 3) := by decide +kernel
theorem dX3_putNew_43 : decode cX3_putNew 43 = .ok (.if_icmp .ge 65, 3) := by decide +kernel
theorem dX3_putNew_46 : decode cX3_putNew 46 = .ok (.aload_n 0, 1) := by decide +kernel
theorem dX3_putNew_47 : decode cX3_putNew 47 = .ok (.aload_n 0, 1) := by decide +kernel
theorem dX3_putNew_48 : decode cX3_putNew 48 = .ok (.getfield 41, 3) := by decide +kernel
theorem dX3_putNew_51 : decode cX3_putNew 51 = .ok (.iload 4, 2) := by decide +kernel
theorem dX3_putNew_53 : decode cX3_putNew 53 = .ok (.iaload, 1) := by decide +kernel
theorem dX3_putNew_54 : decode cX3_putNew 54 = .ok (.iload_n 3, 1) := by decide +kernel
theorem dX3_putNew_55 : decode cX3_putNew 55 = .ok (.invokevirtual 114, 3) := by decide +kernel
theorem dX3_putNew_58 : decode cX3_putNew 58 = .ok (.ifCond .eq 50, 3) := by decide +kernel
theorem dX3_putNew_61 : decode cX3_putNew 61 = .ok (.aload_n 0, 1) := by decide +kernel
theorem dX3_putNew_62 : decode cX3_putNew 62 = .ok (.aload_n 0, 1) := by decide +kernel
theorem dX3_putNew_63 : decode cX3_putNew 63 = .ok (.getfield 41, 3) := by decide +kernel
theorem dX3_putNew_66 : decode cX3_putNew 66 = .ok (.iload 4, 2) := by decide +kernel
theorem dX3_putNew_68 : decode cX3_putNew 68 = .ok (.iaload, 1) := by decide +kernel
theorem dX3_putNew_69 : decode cX3_putNew 69 = .ok (.invokevirtual 101, 3) := by decide +kernel
theorem dX3_putNew_72 : decode cX3_putNew 72 = .ok (.istore 5, 2) := by decide +kernel
theorem dX3_putNew_74 : decode cX3_putNew 74 = .ok (.aload_n 0, 1) := by decide +kernel
theorem dX3_putNew_75 : decode cX3_putNew 75 = .ok (.iload 5, 2) := by decide +kernel
theorem dX3_putNew_77 : decode cX3_putNew 77 = .ok (.invokevirtual 105, 3) := by decide +kernel
theorem dX3_putNew_80 : decode cX3_putNew 80 = .ok (.aload_n 0, 1) := by decide +kernel
theorem dX3_putNew_81 : decode cX3_putNew 81 = .ok (.iload 5, 2) := by decide +kernel
theorem dX3_putNew_83 : decode cX3_putNew 83 = .ok (.aload_n 0, 1) := by decide +kernel
theorem dX3_putNew_84 : decode cX3_putNew 84 = .ok (.getfield 7, 3) := by decide +kernel
theorem dX3_putNew_87 : decode cX3_putNew 87 = .ok (.iload 5, 2) := by decide +kernel
theorem dX3_putNew_89 : decode cX3_putNew 89 = .ok (.iaload, 1) := by decide +kernel
theorem dX3_putNew_90 : decode cX3_putNew 90 = .ok (.iload_n 1, 1) := by decide +kernel
theorem dX3_putNew_91 : decode cX3_putNew 91 = .ok (.if_icmp .ge 7, 3) := by decide +kernel
theorem dX3_putNew_94 : decode cX3_putNew 94 = .ok (.iconst 1, 1) := by decide +kernel
theorem dX3_putNew_95 : decode cX3_putNew 95 = .ok (.goto 4, 3) := by decide +kernel
theorem dX3_putNew_98 : decode cX3_putNew 98 = .ok (.iconst 0, 1) := by decide +kernel
theorem dX3_putNew_99 : decode cX3_putNew 99 = .ok (.invokevirtual 109, 3) := by decide +kernel
theorem dX3_putNew_102 : decode cX3_putNew 102 = .ok (.iinc 4 1, 3) := by decide +kernel
theorem dX3_putNew_105 : decode cX3_putNew 105 = .ok (.goto (-68), 3) := by decide +kernel
theorem dX3_putNew_108 : decode cX3_putNew 108 = .ok (.aload_n 0, 1) := by decide +kernel
theorem dX3_putNew_109 : decode cX3_putNew 109 = .ok (.iload_n 3, 1) := by decide +kernel
theorem dX3_putNew_110 : decode cX3_putNew 110 = .ok (.invokevirtual 105, 3) := by decide +kernel
theorem dX3_putNew_113 : decode cX3_putNew 113 = .ok (.iconst (-1), 1) := by decide +kernel
theorem dX3_putNew_114 : decode cX3_putNew 114 = .ok (.istore 5, 2) := by decide +kernel
theorem dX3_putNew_116 : decode cX3_putNew 116 = .ok (.iconst (-1), 1) := by decide +kernel
theorem dX3_putNew_117 : decode cX3_putNew 117 = .ok (.istore 6, 2) := by decide +kernel
theorem dX3_putNew_119 : decode cX3_putNew 119 = .ok (.iload 4, 2) := by decide +kernel
theorem dX3_putNew_121 : decode cX3_putNew 121 = .ok (.aload_n 0, 1) := by decide +kernel
theorem dX3_putNew_122 : decode cX3_putNew 122 = .ok (.getfield 88, 3) := by decide +kernel
theorem dX3_putNew_125 : decode cX3_putNew 125 = .ok (.if_icmp .ge 110, 3) := by decide +kernel
theorem dX3_putNew_128 : decode cX3_putNew 128 = .ok (.aload_n 0, 1) := by decide +kernel
theorem dX3_putNew_129 : decode cX3_putNew 129 = .ok (.aload_n 0, 1) := by decide +kernel
theorem dX3_putNew_130 : decode cX3_putNew 130 = .ok (.getfield 41, 3) := by decide +kernel
theorem dX3_putNew_133 : decode cX3_putNew 133 = .ok (.iload 4, 2) := by decide +kernel
theorem dX3_putNew_135 : decode cX3_putNew 135 = .ok (.iaload, 1) := by decide +kernel
theorem dX3_putNew_136 : decode cX3_putNew 136 = .ok (.invokevirtual 101, 3) := by decide +kernel
theorem dX3_putNew_139 : decode cX3_putNew 139 = .ok (.istore 7, 2) := by decide +kernel
theorem dX3_putNew_141 : decode cX3_putNew 141 = .ok (.aload_n 0, 1) := by decide +kernel
theorem dX3_putNew_142 : decode cX3_putNew 142 = .ok (.getfield 7, 3) := by decide +kernel
theorem dX3_putNew_145 : decode cX3_putNew 145 = .ok (.iload 7, 2) := by decide +kernel
theorem dX3_putNew_147 : decode cX3_putNew 147 = .ok (.iaload, 1) := by decide +kernel
theorem dX3_putNew_148 : decode cX3_putNew 148 = .ok (.iload_n 1, 1) := by decide +kernel
theorem dX3_putNew_149 : decode cX3_putNew 149 = .ok (.if_icmp .ge 43, 3) := by decide +kernel
theorem dX3_putNew_152 : decode cX3_putNew 152 = .ok (.iload 5, 2) := by decide +kernel
theorem dX3_putNew_154 : decode cX3_putNew 154 = .ok (.ifCond .ge 14, 3) := by decide +kernel
theorem dX3_putNew_157 : decode cX3_putNew 157 = .ok (.aload_n 0, 1) := by decide +kernel
theorem dX3_putNew_158 : decode cX3_putNew 158 = .ok (.getfield 19, 3) := by decide +kernel
theorem dX3_putNew_161 : decode cX3_putNew 161 = .ok (.iload_n 3, 1) := by decide +kernel
theorem dX3_putNew_162 : decode cX3_putNew 162 = .ok (.iload 7, 2) := by decide +kernel
theorem dX3_putNew_164 : decode cX3_putNew 164 = .ok (.iastore, 1) := by decide +kernel
theorem dX3_putNew_165 : decode cX3_putNew 165 = .ok (.goto 12, 3) := by decide +kernel
theorem dX3_putNew_168 : decode cX3_putNew 168 = .ok (.aload_n 0, 1) := by decide +kernel
theorem dX3_putNew_169 : decode cX3_putNew 169 = .ok (.getfield 22, 3) := by decide +kernel
theorem dX3_putNew_172 : decode cX3_putNew 172 = .ok (.iload 5, 2) := by decide +kernel
theorem dX3_putNew_174 : decode cX3_putNew 174 = .ok (.iload 7, 2) := by decide +kernel
theorem dX3_putNew_176 : decode cX3_putNew 176 = .ok (.iastore, 1) := by decide +kernel
theorem dX3_putNew_177 : decode cX3_putNew 177 = .ok (.aload_n 0, 1) := by decide +kernel
theorem dX3_putNew_178 : decode cX3_putNew 178 = .ok (.getfield 22, 3) := by decide +kernel
theorem dX3_putNew_181 : decode cX3_putNew 181 = .ok (.iload 7, 2) := by decide +kernel
theorem dX3_putNew_183 : decode cX3_putNew 183 = .ok (.iconst (-1), 1) := by decide +kernel
theorem dX3_putNew_184 : decode cX3_putNew 184 = .ok (.iastore, 1) := by decide +kernel
theorem dX3_putNew_185 : decode cX3_putNew 185 = .ok (.iload 7, 2) := by decide +kernel
theorem dX3_putNew_187 : decode cX3_putNew 187 = .ok (.istore 5, 2) := by decide +kernel
theorem dX3_putNew_189 : decode cX3_putNew 189 = .ok (.goto 40, 3) := by decide +kernel
theorem dX3_putNew_192 : decode cX3_putNew 192 = .ok (.iload 6, 2) := by decide +kernel
theorem dX3_putNew_194 : decode cX3_putNew 194 = .ok (.ifCond .ge 14, 3) := by decide +kernel
theorem dX3_putNew_197 : decode cX3_putNew 197 = .ok (.aload_n 0, 1) := by decide +kernel
theorem dX3_putNew_198 : decode cX3_putNew 198 = .ok (.getfield 22, 3) := by decide +kernel
theorem dX3_putNew_201 : decode cX3_putNew 201 = .ok (.iload_n 3, 1) := by decide +kernel
theorem dX3_putNew_202 : decode cX3_putNew 202 = .ok (.iload 7, 2) := by decide +kernel
theorem dX3_putNew_204 : decode cX3_putNew 204 = .ok (.iastore, 1) := by decide +kernel
theorem dX3_putNew_205 : decode cX3_putNew 205 = .ok (.goto 12, 3) := by decide +kernel
theorem dX3_putNew_208 : decode cX3_putNew 208 = .ok (.aload_n 0, 1) := by decide +kernel
theorem dX3_putNew_209 : decode cX3_putNew 209 = .ok (.getfield 19, 3) := by decide +kernel
theorem dX3_putNew_212 : decode cX3_putNew 212 = .ok (.iload 6, 2) := by decide +kernel
theorem dX3_putNew_214 : decode cX3_putNew 214 = .ok (.iload 7, 2) := by decide +kernel
theorem dX3_putNew_216 : decode cX3_putNew 216 = .ok (.iastore, 1) := by decide +kernel
theorem dX3_putNew_217 : decode cX3_putNew 217 = .ok (.aload_n 0, 1) := by decide +kernel
theorem dX3_putNew_218 : decode cX3_putNew 218 = .ok (.getfield 19, 3) := by decide +kernel
theorem dX3_putNew_221 : decode cX3_putNew 221 = .ok (.iload 7, 2) := by decide +kernel
theorem dX3_putNew_223 : decode cX3_putNew 223 = .ok (.iconst (-1), 1) := by decide +kernel
theorem dX3_putNew_224 : decode cX3_putNew 224 = .ok (.iastore, 1) := by decide +kernel
theorem dX3_putNew_225 : decode cX3_putNew 225 = .ok (.iload 7, 2) := by decide +kernel
theorem dX3_putNew_227 : decode cX3_putNew 227 = .ok (.istore 6, 2) := by decide +kernel
theorem dX3_putNew_229 : decode cX3_putNew 229 = .ok (.iinc 4 1, 3) := by decide +kernel
theorem dX3_putNew_232 : decode cX3_putNew 232 = .ok (.goto (-113), 3) := by decide +kernel
theorem dX3_putNew_235 : decode cX3_putNew 235 = .ok (.return_, 1) := by decide +kernel
set_option maxRecDepth 20000 in
theorem ggX3_put_X3_has : GoodIn wsX3_put wsX3_has := goodIn_r _ [10, 11, 4, 86, 87, 88, 89, 90, 91, 92, 93, 94, 95, 96, 97, 98, 99, 100, 101, 102, 103, 104, 105, 106, 107, 108, 109] (by decide +kernel) (by decide +kernel)
set_option maxRecDepth 20000 in
theorem gX3_put_X3_has : GoodIn wsX3_put (wsV RX3 118 RX3 yX3_has wsX3_has) := goodIn_app (goodIn_of _ (by decide +kernel)) ggX3_put_X3_has
set_option maxRecDepth 20000 in
theorem ggX3_put_X3_freeHandle : GoodIn wsX3_put wsX3_freeHandle := goodIn_r _ [15, 11, 4, 86, 87, 88, 89, 90, 91, 92, 93, 94, 95, 96, 97, 98, 99, 100, 101, 102, 103, 104, 105, 106, 107, 108, 109] (by decide +kernel) (by decide +kernel)
set_option maxRecDepth 20000 in
theorem gX3_put_X3_freeHandle : GoodIn wsX3_put (wsV RX3 121 RX3 yX3_freeHandle wsX3_freeHandle) := goodIn_app (goodIn_of _ (by decide +kernel)) ggX3_put_X3_freeHandle
set_option maxRecDepth 20000 in
theorem ggX3_put_X3_begin : GoodIn wsX3_put wsX3_begin := goodIn_r _ [19, 20, 21, 5, 22, 23, 24, 25, 9, 26, 27, 11, 4, 2, 28, 29, 30, 31, 32, 33, 34, 35, 86, 87, 88, 89, 90, 91, 92, 93, 94, 95, 96, 97, 98, 99, 100, 101, 102, 103, 104, 105, 106, 107, 108, 109] (by decide +kernel) (by decide +kernel)
set_option maxRecDepth 20000 in
theorem gX3_put_X3_begin : GoodIn wsX3_put (wsV RX3 124 RX3 yX3_begin wsX3_begin) := goodIn_app (goodIn_of _ (by decide +kernel)) ggX3_put_X3_begin
set_option maxRecDepth 20000 in
theorem ggX3_put_X3_find : GoodIn wsX3_put wsX3_find := goodIn_r _ [39, 40, 35, 34, 86, 87, 88, 89, 90, 91, 92, 93, 94, 95, 96, 97, 98, 99, 100, 101, 102, 103, 104, 105, 106, 107, 108, 109] (by decide +kernel) (by decide +kernel)
set_option maxRecDepth 20000 in
theorem gX3_put_X3_find : GoodIn wsX3_put (wsV RX3 127 RX3 yX3_find wsX3_find) := goodIn_app (goodIn_of _ (by decide +kernel)) ggX3_put_X3_find
set_option maxRecDepth 20000 in
theorem ggX3_put_X3_go : GoodIn wsX3_put wsX3_go := goodIn_r _ [44, 3, 45, 40, 35, 34, 86, 87, 88, 89, 90, 91, 92, 93, 94, 95, 96, 97, 98, 99, 100, 101, 102, 103, 104, 105, 106, 107, 108, 109] (by decide +kernel) (by decide +kernel)
set_option maxRecDepth 20000 in
theorem gX3_put_X3_go : GoodIn wsX3_put (wsV RX3 131 RX3 yX3_go wsX3_go) := goodIn_app (goodIn_of _ (by decide +kernel)) ggX3_put_X3_go
set_option maxRecDepth 20000 in
theorem ggX3_put_X3_takes : GoodIn wsX3_put wsX3_takes := goodIn_r _ [49, 50, 51, 52, 23, 24, 25, 9, 26, 27, 11, 4, 2, 28, 29, 30, 31, 32, 33, 34, 35, 86, 87, 88, 89, 90, 91, 92, 93, 94, 95, 96, 97, 98, 99, 100, 101, 102, 103, 104, 105, 106, 107, 108, 109] (by decide +kernel) (by decide +kernel)
set_option maxRecDepth 20000 in
theorem gX3_put_X3_takes : GoodIn wsX3_put (wsV RX3 97 RX3 yX3_takes wsX3_takes) := goodIn_app (goodIn_of _ (by decide +kernel)) ggX3_put_X3_takes
set_option maxRecDepth 20000 in
theorem ggX3_put_X3_putValue : GoodIn wsX3_put wsX3_putValue := goodIn_r _ [56, 3, 45, 57, 40, 58, 59, 60, 9, 61, 62, 34, 35, 63, 64, 65, 66, 27, 21, 20, 67, 68, 69, 70, 22, 5, 71, 72, 73, 74, 75, 86, 87, 88, 89, 90, 91, 92, 93, 94, 95, 96, 97, 98, 99, 100, 101, 102, 103, 104, 105, 106, 107, 108, 109] (by decide +kernel) (by decide +kernel)
set_option maxRecDepth 20000 in
theorem gX3_put_X3_putValue : GoodIn wsX3_put (wsV RX3 135 RX3 yX3_putValue wsX3_putValue) := goodIn_app (goodIn_of _ (by decide +kernel)) ggX3_put_X3_putValue
set_option maxRecDepth 20000 in
theorem ggX3_put_X3_putNew : GoodIn wsX3_put wsX3_putNew := goodIn_r _ [79, 80, 81, 3, 45, 40, 34, 35, 63, 64, 65, 9, 66, 27, 21, 20, 57, 62, 82, 83, 84, 85, 58, 59, 60, 61, 67, 68, 69, 70, 22, 5, 71, 72, 73, 74, 75, 86, 87, 88, 89, 90, 91, 92, 93, 94, 95, 96, 97, 98, 99, 100, 101, 102, 103, 104, 105, 106, 107, 108, 109] (by decide +kernel) (by decide +kernel)
set_option maxRecDepth 20000 in
theorem gX3_put_X3_putNew : GoodIn wsX3_put (wsV RX3 139 RX3 yX3_putNew wsX3_putNew) := goodIn_app (goodIn_of _ (by decide +kernel)) ggX3_put_X3_putNew
theorem dX3_put_0 : decode cX3_put 0 = .ok (.aload_n 0, 1) := by decide +kernel
theorem dX3_put_1 : decode cX3_put 1 = .ok (.iconst 0, 1) := by decide +kernel
theorem dX3_put_2 : decode cX3_put 2 = .ok (.putfield 54, 3) := by decide +kernel
theorem dX3_put_5 : decode cX3_put 5 = .ok (.aload_n 0, 1) := by decide +kernel
theorem dX3_put_6 : decode cX3_put 6 = .ok (.iload_n 1, 1) := by decide +kernel
theorem dX3_put_7 : decode cX3_put 7 = .ok (.invokevirtual 118, 3) := by decide +kernel
theorem dX3_put_10 : decode cX3_put 10 = .ok (.ifCond .ne 5, 3) := by decide +kernel
theorem dX3_put_13 : decode cX3_put 13 = .ok (.iconst (-1), 1) := by decide +kernel
theorem dX3_put_14 : decode cX3_put 14 = .ok (.ireturn, 1) := by decide +kernel
theorem dX3_put_15 : decode cX3_put 15 = .ok (.aload_n 0, 1) := by decide +kernel
theorem dX3_put_16 : decode cX3_put 16 = .ok (.invokevirtual 121, 3) := by decide +kernel
theorem dX3_put_19 : decode cX3_put 19 = .ok (.istore 4, 2) := by decide +kernel
theorem dX3_put_21 : decode cX3_put 21 = .ok (.iload 4, 2) := by decide +kernel
theorem dX3_put_23 : decode cX3_put 23 = .ok (.ifCond .ge 6, 3) := by decide +kernel
theorem dX3_put_26 : decode cX3_put 26 = .ok (.bipush (-2), 2) := by decide +kernel
theorem dX3_put_28 : decode cX3_put 28 = .ok (.ireturn, 1) := by decide +kernel
theorem dX3_put_29 : decode cX3_put 29 = .ok (.aload_n 0, 1) := by decide +kernel
theorem dX3_put_30 : decode cX3_put 30 = .ok (.invokevirtual 124, 3) := by decide +kernel
theorem dX3_put_33 : decode cX3_put 33 = .ok (.aload_n 0, 1) := by decide +kernel
theorem dX3_put_34 : decode cX3_put 34 = .ok (.aload_n 0, 1) := by decide +kernel
theorem dX3_put_35 : decode cX3_put 35 = .ok (.getfield 38, 3) := by decide +kernel
theorem dX3_put_38 : decode cX3_put 38 = .ok (.iload_n 1, 1) := by decide +kernel
theorem dX3_put_39 : decode cX3_put 39 = .ok (.iaload, 1) := by decide +kernel
theorem dX3_put_40 : decode cX3_put 40 = .ok (.iload_n 2, 1) := by decide +kernel
theorem dX3_put_41 : decode cX3_put 41 = .ok (.invokevirtual 127, 3) := by decide +kernel
theorem dX3_put_44 : decode cX3_put 44 = .ok (.ifCond .lt 7, 3) := by decide +kernel
theorem dX3_put_47 : decode cX3_put 47 = .ok (.iconst 1, 1) := by decide +kernel
theorem dX3_put_48 : decode cX3_put 48 = .ok (.goto 4, 3) := by decide +kernel
theorem dX3_put_51 : decode cX3_put 51 = .ok (.iconst 0, 1) := by decide +kernel
theorem dX3_put_52 : decode cX3_put 52 = .ok (.istore 5, 2) := by decide +kernel
theorem dX3_put_54 : decode cX3_put 54 = .ok (.aload_n 0, 1) := by decide +kernel
theorem dX3_put_55 : decode cX3_put 55 = .ok (.aload_n 0, 1) := by decide +kernel
theorem dX3_put_56 : decode cX3_put 56 = .ok (.getfield 38, 3) := by decide +kernel
theorem dX3_put_59 : decode cX3_put 59 = .ok (.iload_n 1, 1) := by decide +kernel
theorem dX3_put_60 : decode cX3_put 60 = .ok (.iaload, 1) := by decide +kernel
theorem dX3_put_61 : decode cX3_put 61 = .ok (.iload_n 2, 1) := by decide +kernel
theorem dX3_put_62 : decode cX3_put 62 = .ok (.iload 5, 2) := by decide +kernel
theorem dX3_put_64 : decode cX3_put 64 = .ok (.invokevirtual 131, 3) := by decide +kernel
theorem dX3_put_67 : decode cX3_put 67 = .ok (.aload_n 0, 1) := by decide +kernel
theorem dX3_put_68 : decode cX3_put 68 = .ok (.iload 5, 2) := by decide +kernel
theorem dX3_put_70 : decode cX3_put 70 = .ok (.ifCond .eq 10, 3) := by decide +kernel
theorem dX3_put_73 : decode cX3_put 73 = .ok (.aload_n 0, 1) := by decide +kernel
theorem dX3_put_74 : decode cX3_put 74 = .ok (.getfield 88, 3) := by decide +kernel
theorem dX3_put_77 : decode cX3_put 77 = .ok (.goto 9, 3) := by decide +kernel
theorem dX3_put_80 : decode cX3_put 80 = .ok (.aload_n 0, 1) := by decide +kernel
theorem dX3_put_81 : decode cX3_put 81 = .ok (.getfield 88, 3) := by decide +kernel
theorem dX3_put_84 : decode cX3_put 84 = .ok (.iconst 1, 1) := by decide +kernel
theorem dX3_put_85 : decode cX3_put 85 = .ok (.iadd, 1) := by decide +kernel
theorem dX3_put_86 : decode cX3_put 86 = .ok (.invokevirtual 97, 3) := by decide +kernel
theorem dX3_put_89 : decode cX3_put 89 = .ok (.ifCond .ne 6, 3) := by decide +kernel
theorem dX3_put_92 : decode cX3_put 92 = .ok (.bipush (-3), 2) := by decide +kernel
theorem dX3_put_94 : decode cX3_put 94 = .ok (.ireturn, 1) := by decide +kernel
theorem dX3_put_95 : decode cX3_put 95 = .ok (.iload 5, 2) := by decide +kernel
theorem dX3_put_97 : decode cX3_put 97 = .ok (.ifCond .eq 12, 3) := by decide +kernel
theorem dX3_put_100 : decode cX3_put 100 = .ok (.aload_n 0, 1) := by decide +kernel
theorem dX3_put_101 : decode cX3_put 101 = .ok (.iload_n 2, 1) := by decide +kernel
theorem dX3_put_102 : decode cX3_put 102 = .ok (.iload_n 3, 1) := by decide +kernel
theorem dX3_put_103 : decode cX3_put 103 = .ok (.invokevirtual 135, 3) := by decide +kernel
theorem dX3_put_106 : decode cX3_put 106 = .ok (.goto 9, 3) := by decide +kernel
theorem dX3_put_109 : decode cX3_put 109 = .ok (.aload_n 0, 1) := by decide +kernel
theorem dX3_put_110 : decode cX3_put 110 = .ok (.iload_n 2, 1) := by decide +kernel
theorem dX3_put_111 : decode cX3_put 111 = .ok (.iload_n 3, 1) := by decide +kernel
theorem dX3_put_112 : decode cX3_put 112 = .ok (.invokevirtual 139, 3) := by decide +kernel
theorem dX3_put_115 : decode cX3_put 115 = .ok (.aload_n 0, 1) := by decide +kernel
theorem dX3_put_116 : decode cX3_put 116 = .ok (.getfield 35, 3) := by decide +kernel
theorem dX3_put_119 : decode cX3_put 119 = .ok (.iload 4, 2) := by decide +kernel
theorem dX3_put_121 : decode cX3_put 121 = .ok (.iconst 1, 1) := by decide +kernel
theorem dX3_put_122 : decode cX3_put 122 = .ok (.bastore, 1) := by decide +kernel
theorem dX3_put_123 : decode cX3_put 123 = .ok (.aload_n 0, 1) := by decide +kernel
theorem dX3_put_124 : decode cX3_put 124 = .ok (.getfield 38, 3) := by decide +kernel
theorem dX3_put_127 : decode cX3_put 127 = .ok (.iload 4, 2) := by decide +kernel
theorem dX3_put_129 : decode cX3_put 129 = .ok (.aload_n 0, 1) := by decide +kernel
theorem dX3_put_130 : decode cX3_put 130 = .ok (.getfield 74, 3) := by decide +kernel
theorem dX3_put_133 : decode cX3_put 133 = .ok (.iastore, 1) := by decide +kernel
theorem dX3_put_134 : decode cX3_put 134 = .ok (.iload 4, 2) := by decide +kernel
theorem dX3_put_136 : decode cX3_put 136 = .ok (.ireturn, 1) := by decide +kernel
set_option maxRecDepth 20000 in
theorem ggX3_joint_X3_above : GoodIn wsX3_joint wsX3_above := goodIn_r _ [7, 8, 9, 33, 34, 35, 36, 37, 38, 39, 40, 41, 42, 43, 44, 45, 46, 47, 48, 49, 50, 51, 52, 53, 54, 55, 56] (by decide +kernel) (by decide +kernel)
set_option maxRecDepth 20000 in
theorem gX3_joint_X3_above : GoodIn wsX3_joint (wsV RX3 114 RX3 yX3_above wsX3_above) := goodIn_app (goodIn_of _ (by decide +kernel)) ggX3_joint_X3_above
set_option maxRecDepth 20000 in
theorem ggX3_joint_X3_copy : GoodIn wsX3_joint wsX3_copy := goodIn_r _ [13, 9, 14, 8, 2, 1, 15, 16, 17, 6, 18, 19, 20, 21, 33, 34, 35, 36, 37, 38, 39, 40, 41, 42, 43, 44, 45, 46, 47, 48, 49, 50, 51, 52, 53, 54, 55, 56] (by decide +kernel) (by decide +kernel)
set_option maxRecDepth 20000 in
theorem gX3_joint_X3_copy : GoodIn wsX3_joint (wsV RX3 101 RX3 yX3_copy wsX3_copy) := goodIn_app (goodIn_of _ (by decide +kernel)) ggX3_joint_X3_copy
set_option maxRecDepth 20000 in
theorem ggX3_joint_X3_hang : GoodIn wsX3_joint wsX3_hang := goodIn_r _ [25, 26, 27, 28, 1, 2, 33, 34, 35, 36, 37, 38, 39, 40, 41, 42, 43, 44, 45, 46, 47, 48, 49, 50, 51, 52, 53, 54, 55, 56] (by decide +kernel) (by decide +kernel)
set_option maxRecDepth 20000 in
theorem gX3_joint_X3_hang : GoodIn wsX3_joint (wsV RX3 105 RX3 yX3_hang wsX3_hang) := goodIn_app (goodIn_of _ (by decide +kernel)) ggX3_joint_X3_hang
set_option maxRecDepth 20000 in
theorem ggX3_joint_X3_holeAt : GoodIn wsX3_joint wsX3_holeAt := goodIn_r _ [32, 26, 28, 33, 34, 35, 36, 37, 38, 39, 40, 41, 42, 43, 44, 45, 46, 47, 48, 49, 50, 51, 52, 53, 54, 55, 56] (by decide +kernel) (by decide +kernel)
set_option maxRecDepth 20000 in
theorem gX3_joint_X3_holeAt : GoodIn wsX3_joint (wsV RX3 109 RX3 yX3_holeAt wsX3_holeAt) := goodIn_app (goodIn_of _ (by decide +kernel)) ggX3_joint_X3_holeAt
theorem dX3_joint_0 : decode cX3_joint 0 = .ok (.iload_n 1, 1) := by decide +kernel
theorem dX3_joint_1 : decode cX3_joint 1 = .ok (.istore_n 3, 1) := by decide +kernel
theorem dX3_joint_2 : decode cX3_joint 2 = .ok (.iload_n 2, 1) := by decide +kernel
theorem dX3_joint_3 : decode cX3_joint 3 = .ok (.istore 4, 2) := by decide +kernel
theorem dX3_joint_5 : decode cX3_joint 5 = .ok (.iload_n 3, 1) := by decide +kernel
theorem dX3_joint_6 : decode cX3_joint 6 = .ok (.ifCond .lt 86, 3) := by decide +kernel
theorem dX3_joint_9 : decode cX3_joint 9 = .ok (.iload 4, 2) := by decide +kernel
theorem dX3_joint_11 : decode cX3_joint 11 = .ok (.ifCond .lt 81, 3) := by decide +kernel
theorem dX3_joint_14 : decode cX3_joint 14 = .ok (.aload_n 0, 1) := by decide +kernel
theorem dX3_joint_15 : decode cX3_joint 15 = .ok (.iload_n 3, 1) := by decide +kernel
theorem dX3_joint_16 : decode cX3_joint 16 = .ok (.iload 4, 2) := by decide +kernel
theorem dX3_joint_18 : decode cX3_joint 18 = .ok (.invokevirtual 114, 3) := by decide +kernel
theorem dX3_joint_21 : decode cX3_joint 21 = .ok (.istore 5, 2) := by decide +kernel
theorem dX3_joint_23 : decode cX3_joint 23 = .ok (.aload_n 0, 1) := by decide +kernel
theorem dX3_joint_24 : decode cX3_joint 24 = .ok (.iload 5, 2) := by decide +kernel
theorem dX3_joint_26 : decode cX3_joint 26 = .ok (.ifCond .eq 7, 3) := by decide +kernel
theorem dX3_joint_29 : decode cX3_joint 29 = .ok (.iload_n 3, 1) := by decide +kernel
theorem dX3_joint_30 : decode cX3_joint 30 = .ok (.goto 5, 3) := by decide +kernel
theorem dX3_joint_33 : decode cX3_joint 33 = .ok (.iload 4, 2) := by decide +kernel
theorem dX3_joint_35 : decode cX3_joint 35 = .ok (.invokevirtual 101, 3) := by decide +kernel
theorem dX3_joint_38 : decode cX3_joint 38 = .ok (.istore 6, 2) := by decide +kernel
theorem dX3_joint_40 : decode cX3_joint 40 = .ok (.aload_n 0, 1) := by decide +kernel
theorem dX3_joint_41 : decode cX3_joint 41 = .ok (.iload 6, 2) := by decide +kernel
theorem dX3_joint_43 : decode cX3_joint 43 = .ok (.invokevirtual 105, 3) := by decide +kernel
theorem dX3_joint_46 : decode cX3_joint 46 = .ok (.aload_n 0, 1) := by decide +kernel
theorem dX3_joint_47 : decode cX3_joint 47 = .ok (.iload 6, 2) := by decide +kernel
theorem dX3_joint_49 : decode cX3_joint 49 = .ok (.iload 5, 2) := by decide +kernel
theorem dX3_joint_51 : decode cX3_joint 51 = .ok (.invokevirtual 109, 3) := by decide +kernel
theorem dX3_joint_54 : decode cX3_joint 54 = .ok (.iload 5, 2) := by decide +kernel
theorem dX3_joint_56 : decode cX3_joint 56 = .ok (.ifCond .eq 12, 3) := by decide +kernel
theorem dX3_joint_59 : decode cX3_joint 59 = .ok (.aload_n 0, 1) := by decide +kernel
theorem dX3_joint_60 : decode cX3_joint 60 = .ok (.getfield 22, 3) := by decide +kernel
theorem dX3_joint_63 : decode cX3_joint 63 = .ok (.iload_n 3, 1) := by decide +kernel
theorem dX3_joint_64 : decode cX3_joint 64 = .ok (.iaload, 1) := by decide +kernel
theorem dX3_joint_65 : decode cX3_joint 65 = .ok (.goto 4, 3) := by decide +kernel
theorem dX3_joint_68 : decode cX3_joint 68 = .ok (.iload_n 3, 1) := by decide +kernel
theorem dX3_joint_69 : decode cX3_joint 69 = .ok (.istore_n 3, 1) := by decide +kernel
theorem dX3_joint_70 : decode cX3_joint 70 = .ok (.iload 5, 2) := by decide +kernel
theorem dX3_joint_72 : decode cX3_joint 72 = .ok (.ifCond .eq 8, 3) := by decide +kernel
theorem dX3_joint_75 : decode cX3_joint 75 = .ok (.iload 4, 2) := by decide +kernel
theorem dX3_joint_77 : decode cX3_joint 77 = .ok (.goto 10, 3) := by decide +kernel
theorem dX3_joint_80 : decode cX3_joint 80 = .ok (.aload_n 0, 1) := by decide +kernel
theorem dX3_joint_81 : decode cX3_joint 81 = .ok (.getfield 19, 3) := by decide +kernel
theorem dX3_joint_84 : decode cX3_joint 84 = .ok (.iload 4, 2) := by decide +kernel
theorem dX3_joint_86 : decode cX3_joint 86 = .ok (.iaload, 1) := by decide +kernel
theorem dX3_joint_87 : decode cX3_joint 87 = .ok (.istore 4, 2) := by decide +kernel
theorem dX3_joint_89 : decode cX3_joint 89 = .ok (.goto (-84), 3) := by decide +kernel
theorem dX3_joint_92 : decode cX3_joint 92 = .ok (.aload_n 0, 1) := by decide +kernel
theorem dX3_joint_93 : decode cX3_joint 93 = .ok (.iload_n 3, 1) := by decide +kernel
theorem dX3_joint_94 : decode cX3_joint 94 = .ok (.ifCond .lt 7, 3) := by decide +kernel
theorem dX3_joint_97 : decode cX3_joint 97 = .ok (.iload_n 3, 1) := by decide +kernel
theorem dX3_joint_98 : decode cX3_joint 98 = .ok (.goto 5, 3) := by decide +kernel
theorem dX3_joint_101 : decode cX3_joint 101 = .ok (.iload 4, 2) := by decide +kernel
theorem dX3_joint_103 : decode cX3_joint 103 = .ok (.invokevirtual 105, 3) := by decide +kernel
theorem dX3_joint_106 : decode cX3_joint 106 = .ok (.return_, 1) := by decide +kernel
set_option maxRecDepth 20000 in
theorem ggX3_remove_X3_has : GoodIn wsX3_remove wsX3_has := goodIn_r _ [13, 14, 15, 84, 85, 86, 87, 88, 89, 90, 91, 92, 93, 94, 95, 96, 97, 98, 99, 100, 101, 102, 103, 104, 105, 106, 107] (by decide +kernel) (by decide +kernel)
set_option maxRecDepth 20000 in
theorem gX3_remove_X3_has : GoodIn wsX3_remove (wsV RX3 118 RX3 yX3_has wsX3_has) := goodIn_app (goodIn_of _ (by decide +kernel)) ggX3_remove_X3_has
set_option maxRecDepth 20000 in
theorem ggX3_remove_X3_freeHandle : GoodIn wsX3_remove wsX3_freeHandle := goodIn_r _ [19, 14, 15, 84, 85, 86, 87, 88, 89, 90, 91, 92, 93, 94, 95, 96, 97, 98, 99, 100, 101, 102, 103, 104, 105, 106, 107] (by decide +kernel) (by decide +kernel)
set_option maxRecDepth 20000 in
theorem gX3_remove_X3_freeHandle : GoodIn wsX3_remove (wsV RX3 121 RX3 yX3_freeHandle wsX3_freeHandle) := goodIn_app (goodIn_of _ (by decide +kernel)) ggX3_remove_X3_freeHandle
set_option maxRecDepth 20000 in
theorem ggX3_remove_X3_begin : GoodIn wsX3_remove wsX3_begin := goodIn_r _ [23, 24, 25, 3, 26, 27, 28, 29, 12, 30, 31, 14, 15, 2, 32, 33, 34, 35, 36, 37, 7, 8, 84, 85, 86, 87, 88, 89, 90, 91, 92, 93, 94, 95, 96, 97, 98, 99, 100, 101, 102, 103, 104, 105, 106, 107] (by decide +kernel) (by decide +kernel)
set_option maxRecDepth 20000 in
theorem gX3_remove_X3_begin : GoodIn wsX3_remove (wsV RX3 124 RX3 yX3_begin wsX3_begin) := goodIn_app (goodIn_of _ (by decide +kernel)) ggX3_remove_X3_begin
set_option maxRecDepth 20000 in
theorem ggX3_remove_X3_find : GoodIn wsX3_remove wsX3_find := goodIn_r _ [41, 6, 8, 7, 84, 85, 86, 87, 88, 89, 90, 91, 92, 93, 94, 95, 96, 97, 98, 99, 100, 101, 102, 103, 104, 105, 106, 107] (by decide +kernel) (by decide +kernel)
set_option maxRecDepth 20000 in
theorem gX3_remove_X3_find : GoodIn wsX3_remove (wsV RX3 127 RX3 yX3_find wsX3_find) := goodIn_app (goodIn_of _ (by decide +kernel)) ggX3_remove_X3_find
set_option maxRecDepth 20000 in
theorem ggX3_remove_X3_settle : GoodIn wsX3_remove wsX3_settle := goodIn_r _ [45, 24, 15, 2, 3, 46, 47, 48, 12, 49, 50, 51, 52, 27, 28, 29, 30, 31, 14, 32, 33, 34, 35, 36, 37, 7, 8, 84, 85, 86, 87, 88, 89, 90, 91, 92, 93, 94, 95, 96, 97, 98, 99, 100, 101, 102, 103, 104, 105, 106, 107] (by decide +kernel) (by decide +kernel)
set_option maxRecDepth 20000 in
theorem gX3_remove_X3_settle : GoodIn wsX3_remove (wsV RX3 142 RX3 yX3_settle wsX3_settle) := goodIn_app (goodIn_of _ (by decide +kernel)) ggX3_remove_X3_settle
set_option maxRecDepth 20000 in
theorem ggX3_remove_X3_go : GoodIn wsX3_remove wsX3_go := goodIn_r _ [56, 4, 5, 6, 8, 7, 84, 85, 86, 87, 88, 89, 90, 91, 92, 93, 94, 95, 96, 97, 98, 99, 100, 101, 102, 103, 104, 105, 106, 107] (by decide +kernel) (by decide +kernel)
set_option maxRecDepth 20000 in
theorem gX3_remove_X3_go : GoodIn wsX3_remove (wsV RX3 131 RX3 yX3_go wsX3_go) := goodIn_app (goodIn_of _ (by decide +kernel)) ggX3_remove_X3_go
set_option maxRecDepth 20000 in
theorem ggX3_remove_X3_copy : GoodIn wsX3_remove wsX3_copy := goodIn_r _ [60, 6, 61, 62, 7, 8, 63, 64, 65, 12, 66, 31, 25, 24, 84, 85, 86, 87, 88, 89, 90, 91, 92, 93, 94, 95, 96, 97, 98, 99, 100, 101, 102, 103, 104, 105, 106, 107] (by decide +kernel) (by decide +kernel)
set_option maxRecDepth 20000 in
theorem gX3_remove_X3_copy : GoodIn wsX3_remove (wsV RX3 101 RX3 yX3_copy wsX3_copy) := goodIn_app (goodIn_of _ (by decide +kernel)) ggX3_remove_X3_copy
set_option maxRecDepth 20000 in
theorem ggX3_remove_X3_hang : GoodIn wsX3_remove wsX3_hang := goodIn_r _ [70, 26, 3, 71, 8, 7, 84, 85, 86, 87, 88, 89, 90, 91, 92, 93, 94, 95, 96, 97, 98, 99, 100, 101, 102, 103, 104, 105, 106, 107] (by decide +kernel) (by decide +kernel)
set_option maxRecDepth 20000 in
theorem gX3_remove_X3_hang : GoodIn wsX3_remove (wsV RX3 105 RX3 yX3_hang wsX3_hang) := goodIn_app (goodIn_of _ (by decide +kernel)) ggX3_remove_X3_hang
set_option maxRecDepth 20000 in
theorem ggX3_remove_X3_holeAt : GoodIn wsX3_remove wsX3_holeAt := goodIn_r _ [75, 26, 71, 84, 85, 86, 87, 88, 89, 90, 91, 92, 93, 94, 95, 96, 97, 98, 99, 100, 101, 102, 103, 104, 105, 106, 107] (by decide +kernel) (by decide +kernel)
set_option maxRecDepth 20000 in
theorem gX3_remove_X3_holeAt : GoodIn wsX3_remove (wsV RX3 109 RX3 yX3_holeAt wsX3_holeAt) := goodIn_app (goodIn_of _ (by decide +kernel)) ggX3_remove_X3_holeAt
set_option maxRecDepth 20000 in
theorem ggX3_remove_X3_joint : GoodIn wsX3_remove wsX3_joint := goodIn_r _ [79, 8, 7, 80, 81, 82, 12, 83, 62, 6, 57, 58, 59, 60, 61, 63, 64, 65, 66, 31, 25, 24, 67, 68, 69, 70, 26, 3, 71, 72, 73, 74, 75, 84, 85, 86, 87, 88, 89, 90, 91, 92, 93, 94, 95, 96, 97, 98, 99, 100, 101, 102, 103, 104, 105, 106, 107] (by decide +kernel) (by decide +kernel)
set_option maxRecDepth 20000 in
theorem gX3_remove_X3_joint : GoodIn wsX3_remove (wsV RX3 145 RX3 yX3_joint wsX3_joint) := goodIn_app (goodIn_of _ (by decide +kernel)) ggX3_remove_X3_joint
theorem dX3_remove_0 : decode cX3_remove 0 = .ok (.aload_n 0, 1) := by decide +kernel
theorem dX3_remove_1 : decode cX3_remove 1 = .ok (.iconst 0, 1) := by decide +kernel
theorem dX3_remove_2 : decode cX3_remove 2 = .ok (.putfield 54, 3) := by decide +kernel
theorem dX3_remove_5 : decode cX3_remove 5 = .ok (.aload_n 0, 1) := by decide +kernel
theorem dX3_remove_6 : decode cX3_remove 6 = .ok (.iload_n 1, 1) := by decide +kernel
theorem dX3_remove_7 : decode cX3_remove 7 = .ok (.invokevirtual 118, 3) := by decide +kernel
theorem dX3_remove_10 : decode cX3_remove 10 = .ok (.ifCond .ne 5, 3) := by decide +kernel
theorem dX3_remove_13 : decode cX3_remove 13 = .ok (.iconst (-1), 1) := by decide +kernel
theorem dX3_remove_14 : decode cX3_remove 14 = .ok (.ireturn, 1) := by decide +kernel
theorem dX3_remove_15 : decode cX3_remove 15 = .ok (.aload_n 0, 1) := by decide +kernel
theorem dX3_remove_16 : decode cX3_remove 16 = .ok (.invokevirtual 121, 3) := by decide +kernel
theorem dX3_remove_19 : decode cX3_remove 19 = .ok (.istore_n 3, 1) := by decide +kernel
theorem dX3_remove_20 : decode cX3_remove 20 = .ok (.iload_n 3, 1) := by decide +kernel
theorem dX3_remove_21 : decode cX3_remove 21 = .ok (.ifCond .ge 6, 3) := by decide +kernel
theorem dX3_remove_24 : decode cX3_remove 24 = .ok (.bipush (-2), 2) := by decide +kernel
theorem dX3_remove_26 : decode cX3_remove 26 = .ok (.ireturn, 1) := by decide +kernel
theorem dX3_remove_27 : decode cX3_remove 27 = .ok (.aload_n 0, 1) := by decide +kernel
theorem dX3_remove_28 : decode cX3_remove 28 = .ok (.invokevirtual 124, 3) := by decide +kernel
theorem dX3_remove_31 : decode cX3_remove 31 = .ok (.aload_n 0, 1) := by decide +kernel
theorem dX3_remove_32 : decode cX3_remove 32 = .ok (.aload_n 0, 1) := by decide +kernel
theorem dX3_remove_33 : decode cX3_remove 33 = .ok (.getfield 38, 3) := by decide +kernel
theorem dX3_remove_36 : decode cX3_remove 36 = .ok (.iload_n 1, 1) := by decide +kernel
theorem dX3_remove_37 : decode cX3_remove 37 = .ok (.iaload, 1) := by decide +kernel
theorem dX3_remove_38 : decode cX3_remove 38 = .ok (.iload_n 2, 1) := by decide +kernel
theorem dX3_remove_39 : decode cX3_remove 39 = .ok (.invokevirtual 127, 3) := by decide +kernel
theorem dX3_remove_42 : decode cX3_remove 42 = .ok (.istore 4, 2) := by decide +kernel
theorem dX3_remove_44 : decode cX3_remove 44 = .ok (.iload 4, 2) := by decide +kernel
theorem dX3_remove_46 : decode cX3_remove 46 = .ok (.ifCond .ge 19, 3) := by decide +kernel
theorem dX3_remove_49 : decode cX3_remove 49 = .ok (.aload_n 0, 1) := by decide +kernel
theorem dX3_remove_50 : decode cX3_remove 50 = .ok (.aload_n 0, 1) := by decide +kernel
theorem dX3_remove_51 : decode cX3_remove 51 = .ok (.getfield 38, 3) := by decide +kernel
theorem dX3_remove_54 : decode cX3_remove 54 = .ok (.iload_n 1, 1) := by decide +kernel
theorem dX3_remove_55 : decode cX3_remove 55 = .ok (.iaload, 1) := by decide +kernel
theorem dX3_remove_56 : decode cX3_remove 56 = .ok (.putfield 74, 3) := by decide +kernel
theorem dX3_remove_59 : decode cX3_remove 59 = .ok (.aload_n 0, 1) := by decide +kernel
theorem dX3_remove_60 : decode cX3_remove 60 = .ok (.iload_n 3, 1) := by decide +kernel
theorem dX3_remove_61 : decode cX3_remove 61 = .ok (.invokevirtual 142, 3) := by decide +kernel
theorem dX3_remove_64 : decode cX3_remove 64 = .ok (.ireturn, 1) := by decide +kernel
theorem dX3_remove_65 : decode cX3_remove 65 = .ok (.aload_n 0, 1) := by decide +kernel
theorem dX3_remove_66 : decode cX3_remove 66 = .ok (.aload_n 0, 1) := by decide +kernel
theorem dX3_remove_67 : decode cX3_remove 67 = .ok (.getfield 38, 3) := by decide +kernel
theorem dX3_remove_70 : decode cX3_remove 70 = .ok (.iload_n 1, 1) := by decide +kernel
theorem dX3_remove_71 : decode cX3_remove 71 = .ok (.iaload, 1) := by decide +kernel
theorem dX3_remove_72 : decode cX3_remove 72 = .ok (.iload_n 2, 1) := by decide +kernel
theorem dX3_remove_73 : decode cX3_remove 73 = .ok (.iconst 1, 1) := by decide +kernel
theorem dX3_remove_74 : decode cX3_remove 74 = .ok (.invokevirtual 131, 3) := by decide +kernel
theorem dX3_remove_77 : decode cX3_remove 77 = .ok (.iconst 0, 1) := by decide +kernel
theorem dX3_remove_78 : decode cX3_remove 78 = .ok (.istore 5, 2) := by decide +kernel
theorem dX3_remove_80 : decode cX3_remove 80 = .ok (.iload 5, 2) := by decide +kernel
theorem dX3_remove_82 : decode cX3_remove 82 = .ok (.aload_n 0, 1) := by decide +kernel
theorem dX3_remove_83 : decode cX3_remove 83 = .ok (.getfield 88, 3) := by decide +kernel
theorem dX3_remove_86 : decode cX3_remove 86 = .ok (.iconst 1, 1) := by decide +kernel
theorem dX3_remove_87 : decode cX3_remove 87 = .ok (.isub, 1) := by decide +kernel
theorem dX3_remove_88 : decode cX3_remove 88 = .ok (.if_icmp .ge 50, 3) := by decide +kernel
theorem dX3_remove_91 : decode cX3_remove 91 = .ok (.aload_n 0, 1) := by decide +kernel
theorem dX3_remove_92 : decode cX3_remove 92 = .ok (.aload_n 0, 1) := by decide +kernel
theorem dX3_remove_93 : decode cX3_remove 93 = .ok (.getfield 41, 3) := by decide +kernel
theorem dX3_remove_96 : decode cX3_remove 96 = .ok (.iload 5, 2) := by decide +kernel
theorem dX3_remove_98 : decode cX3_remove 98 = .ok (.iaload, 1) := by decide +kernel
theorem dX3_remove_99 : decode cX3_remove 99 = .ok (.invokevirtual 101, 3) := by decide +kernel
theorem dX3_remove_102 : decode cX3_remove 102 = .ok (.istore 6, 2) := by decide +kernel
theorem dX3_remove_104 : decode cX3_remove 104 = .ok (.aload_n 0, 1) := by decide +kernel
theorem dX3_remove_105 : decode cX3_remove 105 = .ok (.iload 6, 2) := by decide +kernel
theorem dX3_remove_107 : decode cX3_remove 107 = .ok (.invokevirtual 105, 3) := by decide +kernel
theorem dX3_remove_110 : decode cX3_remove 110 = .ok (.aload_n 0, 1) := by decide +kernel
theorem dX3_remove_111 : decode cX3_remove 111 = .ok (.iload 6, 2) := by decide +kernel
theorem dX3_remove_113 : decode cX3_remove 113 = .ok (.aload_n 0, 1) := by decide +kernel
theorem dX3_remove_114 : decode cX3_remove 114 = .ok (.getfield 7, 3) := by decide +kernel
theorem dX3_remove_117 : decode cX3_remove 117 = .ok (.iload 6, 2) := by decide +kernel
theorem dX3_remove_119 : decode cX3_remove 119 = .ok (.iaload, 1) := by decide +kernel
theorem dX3_remove_120 : decode cX3_remove 120 = .ok (.iload_n 2, 1) := by decide +kernel
theorem dX3_remove_121 : decode cX3_remove 121 = .ok (.if_icmp .ge 7, 3) := by decide +kernel
theorem dX3_remove_124 : decode cX3_remove 124 = .ok (.iconst 1, 1) := by decide +kernel
theorem dX3_remove_125 : decode cX3_remove 125 = .ok (.goto 4, 3) := by decide +kernel
theorem dX3_remove_128 : decode cX3_remove 128 = .ok (.iconst 0, 1) := by decide +kernel
theorem dX3_remove_129 : decode cX3_remove 129 = .ok (.invokevirtual 109, 3) := by decide +kernel
theorem dX3_remove_132 : decode cX3_remove 132 = .ok (.iinc 5 1, 3) := by decide +kernel
theorem dX3_remove_135 : decode cX3_remove 135 = .ok (.goto (-55), 3) := by decide +kernel
theorem dX3_remove_138 : decode cX3_remove 138 = .ok (.aload_n 0, 1) := by decide +kernel
theorem dX3_remove_139 : decode cX3_remove 139 = .ok (.aload_n 0, 1) := by decide +kernel
theorem dX3_remove_140 : decode cX3_remove 140 = .ok (.getfield 19, 3) := by decide +kernel
theorem dX3_remove_143 : decode cX3_remove 143 = .ok (.iload 4, 2) := by decide +kernel
theorem dX3_remove_145 : decode cX3_remove 145 = .ok (.iaload, 1) := by decide +kernel
theorem dX3_remove_146 : decode cX3_remove 146 = .ok (.aload_n 0, 1) := by decide +kernel
theorem dX3_remove_147 : decode cX3_remove 147 = .ok (.getfield 22, 3) := by decide +kernel
theorem dX3_remove_150 : decode cX3_remove 150 = .ok (.iload 4, 2) := by decide +kernel
theorem dX3_remove_152 : decode cX3_remove 152 = .ok (.iaload, 1) := by decide +kernel
theorem dX3_remove_153 : decode cX3_remove 153 = .ok (.invokevirtual 145, 3) := by decide +kernel
theorem dX3_remove_156 : decode cX3_remove 156 = .ok (.aload_n 0, 1) := by decide +kernel
theorem dX3_remove_157 : decode cX3_remove 157 = .ok (.iload_n 3, 1) := by decide +kernel
theorem dX3_remove_158 : decode cX3_remove 158 = .ok (.invokevirtual 142, 3) := by decide +kernel
theorem dX3_remove_161 : decode cX3_remove 161 = .ok (.ireturn, 1) := by decide +kernel
set_option maxRecDepth 20000 in
theorem ggX3_below_X3_has : GoodIn wsX3_below wsX3_has := goodIn_r _ [11, 12, 13, 72, 73, 74, 75, 76, 77, 78, 79, 80, 81, 82, 83, 84, 85, 86, 87, 88, 89, 90, 91, 92, 93, 94, 95] (by decide +kernel) (by decide +kernel)
set_option maxRecDepth 20000 in
theorem gX3_below_X3_has : GoodIn wsX3_below (wsV RX3 118 RX3 yX3_has wsX3_has) := goodIn_app (goodIn_of _ (by decide +kernel)) ggX3_below_X3_has
set_option maxRecDepth 20000 in
theorem ggX3_below_X3_freeHandle : GoodIn wsX3_below wsX3_freeHandle := goodIn_r _ [17, 12, 13, 72, 73, 74, 75, 76, 77, 78, 79, 80, 81, 82, 83, 84, 85, 86, 87, 88, 89, 90, 91, 92, 93, 94, 95] (by decide +kernel) (by decide +kernel)
set_option maxRecDepth 20000 in
theorem gX3_below_X3_freeHandle : GoodIn wsX3_below (wsV RX3 121 RX3 yX3_freeHandle wsX3_freeHandle) := goodIn_app (goodIn_of _ (by decide +kernel)) ggX3_below_X3_freeHandle
set_option maxRecDepth 20000 in
theorem ggX3_below_X3_begin : GoodIn wsX3_below wsX3_begin := goodIn_r _ [21, 22, 23, 24, 25, 26, 27, 28, 10, 29, 30, 12, 13, 2, 31, 32, 33, 34, 35, 36, 37, 6, 72, 73, 74, 75, 76, 77, 78, 79, 80, 81, 82, 83, 84, 85, 86, 87, 88, 89, 90, 91, 92, 93, 94, 95] (by decide +kernel) (by decide +kernel)
set_option maxRecDepth 20000 in
theorem gX3_below_X3_begin : GoodIn wsX3_below (wsV RX3 124 RX3 yX3_begin wsX3_begin) := goodIn_app (goodIn_of _ (by decide +kernel)) ggX3_below_X3_begin
set_option maxRecDepth 20000 in
theorem ggX3_below_X3_go : GoodIn wsX3_below wsX3_go := goodIn_r _ [41, 3, 5, 4, 6, 37, 72, 73, 74, 75, 76, 77, 78, 79, 80, 81, 82, 83, 84, 85, 86, 87, 88, 89, 90, 91, 92, 93, 94, 95] (by decide +kernel) (by decide +kernel)
set_option maxRecDepth 20000 in
theorem gX3_below_X3_go : GoodIn wsX3_below (wsV RX3 131 RX3 yX3_go wsX3_go) := goodIn_app (goodIn_of _ (by decide +kernel)) ggX3_below_X3_go
set_option maxRecDepth 20000 in
theorem ggX3_below_X3_copy : GoodIn wsX3_below wsX3_copy := goodIn_r _ [45, 4, 46, 47, 37, 6, 48, 49, 50, 10, 51, 30, 23, 22, 72, 73, 74, 75, 76, 77, 78, 79, 80, 81, 82, 83, 84, 85, 86, 87, 88, 89, 90, 91, 92, 93, 94, 95] (by decide +kernel) (by decide +kernel)
set_option maxRecDepth 20000 in
theorem gX3_below_X3_copy : GoodIn wsX3_below (wsV RX3 101 RX3 yX3_copy wsX3_copy) := goodIn_app (goodIn_of _ (by decide +kernel)) ggX3_below_X3_copy
set_option maxRecDepth 20000 in
theorem ggX3_below_X3_hang : GoodIn wsX3_below wsX3_hang := goodIn_r _ [55, 25, 24, 56, 6, 37, 72, 73, 74, 75, 76, 77, 78, 79, 80, 81, 82, 83, 84, 85, 86, 87, 88, 89, 90, 91, 92, 93, 94, 95] (by decide +kernel) (by decide +kernel)
set_option maxRecDepth 20000 in
theorem gX3_below_X3_hang : GoodIn wsX3_below (wsV RX3 105 RX3 yX3_hang wsX3_hang) := goodIn_app (goodIn_of _ (by decide +kernel)) ggX3_below_X3_hang
set_option maxRecDepth 20000 in
theorem ggX3_below_X3_holeAt : GoodIn wsX3_below wsX3_holeAt := goodIn_r _ [60, 25, 56, 72, 73, 74, 75, 76, 77, 78, 79, 80, 81, 82, 83, 84, 85, 86, 87, 88, 89, 90, 91, 92, 93, 94, 95] (by decide +kernel) (by decide +kernel)
set_option maxRecDepth 20000 in
theorem gX3_below_X3_holeAt : GoodIn wsX3_below (wsV RX3 109 RX3 yX3_holeAt wsX3_holeAt) := goodIn_app (goodIn_of _ (by decide +kernel)) ggX3_below_X3_holeAt
set_option maxRecDepth 20000 in
theorem ggX3_below_X3_settle : GoodIn wsX3_below wsX3_settle := goodIn_r _ [64, 22, 13, 2, 24, 65, 66, 67, 10, 68, 69, 70, 71, 26, 27, 28, 29, 30, 12, 31, 32, 33, 34, 35, 36, 37, 6, 72, 73, 74, 75, 76, 77, 78, 79, 80, 81, 82, 83, 84, 85, 86, 87, 88, 89, 90, 91, 92, 93, 94, 95] (by decide +kernel) (by decide +kernel)
set_option maxRecDepth 20000 in
theorem gX3_below_X3_settle : GoodIn wsX3_below (wsV RX3 142 RX3 yX3_settle wsX3_settle) := goodIn_app (goodIn_of _ (by decide +kernel)) ggX3_below_X3_settle
theorem dX3_below_0 : decode cX3_below 0 = .ok (.aload_n 0, 1) := by decide +kernel
theorem dX3_below_1 : decode cX3_below 1 = .ok (.iconst 0, 1) := by decide +kernel
theorem dX3_below_2 : decode cX3_below 2 = .ok (.putfield 54, 3) := by decide +kernel
theorem dX3_below_5 : decode cX3_below 5 = .ok (.aload_n 0, 1) := by decide +kernel
theorem dX3_below_6 : decode cX3_below 6 = .ok (.iload_n 1, 1) := by decide +kernel
theorem dX3_below_7 : decode cX3_below 7 = .ok (.invokevirtual 118, 3) := by decide +kernel
theorem dX3_below_10 : decode cX3_below 10 = .ok (.ifCond .ne 5, 3) := by decide +kernel
theorem dX3_below_13 : decode cX3_below 13 = .ok (.iconst (-1), 1) := by decide +kernel
theorem dX3_below_14 : decode cX3_below 14 = .ok (.ireturn, 1) := by decide +kernel
theorem dX3_below_15 : decode cX3_below 15 = .ok (.aload_n 0, 1) := by decide +kernel
theorem dX3_below_16 : decode cX3_below 16 = .ok (.invokevirtual 121, 3) := by decide +kernel
theorem dX3_below_19 : decode cX3_below 19 = .ok (.istore_n 3, 1) := by decide +kernel
theorem dX3_below_20 : decode cX3_below 20 = .ok (.iload_n 3, 1) := by decide +kernel
theorem dX3_below_21 : decode cX3_below 21 = .ok (.ifCond .ge 6, 3) := by decide +kernel
theorem dX3_below_24 : decode cX3_below 24 = .ok (.bipush (-2), 2) := by decide +kernel
theorem dX3_below_26 : decode cX3_below 26 = .ok (.ireturn, 1) := by decide +kernel
theorem dX3_below_27 : decode cX3_below 27 = .ok (.aload_n 0, 1) := by decide +kernel
theorem dX3_below_28 : decode cX3_below 28 = .ok (.invokevirtual 124, 3) := by decide +kernel
theorem dX3_below_31 : decode cX3_below 31 = .ok (.aload_n 0, 1) := by decide +kernel
theorem dX3_below_32 : decode cX3_below 32 = .ok (.aload_n 0, 1) := by decide +kernel
theorem dX3_below_33 : decode cX3_below 33 = .ok (.getfield 38, 3) := by decide +kernel
theorem dX3_below_36 : decode cX3_below 36 = .ok (.iload_n 1, 1) := by decide +kernel
theorem dX3_below_37 : decode cX3_below 37 = .ok (.iaload, 1) := by decide +kernel
theorem dX3_below_38 : decode cX3_below 38 = .ok (.iload_n 2, 1) := by decide +kernel
theorem dX3_below_39 : decode cX3_below 39 = .ok (.iconst 0, 1) := by decide +kernel
theorem dX3_below_40 : decode cX3_below 40 = .ok (.invokevirtual 131, 3) := by decide +kernel
theorem dX3_below_43 : decode cX3_below 43 = .ok (.iconst 0, 1) := by decide +kernel
theorem dX3_below_44 : decode cX3_below 44 = .ok (.istore 4, 2) := by decide +kernel
theorem dX3_below_46 : decode cX3_below 46 = .ok (.iload 4, 2) := by decide +kernel
theorem dX3_below_48 : decode cX3_below 48 = .ok (.aload_n 0, 1) := by decide +kernel
theorem dX3_below_49 : decode cX3_below 49 = .ok (.getfield 88, 3) := by decide +kernel
theorem dX3_below_52 : decode cX3_below 52 = .ok (.if_icmp .ge 59, 3) := by decide +kernel
theorem dX3_below_55 : decode cX3_below 55 = .ok (.aload_n 0, 1) := by decide +kernel
theorem dX3_below_56 : decode cX3_below 56 = .ok (.getfield 7, 3) := by decide +kernel
theorem dX3_below_59 : decode cX3_below 59 = .ok (.aload_n 0, 1) := by decide +kernel
theorem dX3_below_60 : decode cX3_below 60 = .ok (.getfield 41, 3) := by decide +kernel
theorem dX3_below_63 : decode cX3_below 63 = .ok (.iload 4, 2) := by decide +kernel
theorem dX3_below_65 : decode cX3_below 65 = .ok (.iaload, 1) := by decide +kernel
theorem dX3_below_66 : decode cX3_below 66 = .ok (.iaload, 1) := by decide +kernel
theorem dX3_below_67 : decode cX3_below 67 = .ok (.iload_n 2, 1) := by decide +kernel
theorem dX3_below_68 : decode cX3_below 68 = .ok (.if_icmp .ge 37, 3) := by decide +kernel
theorem dX3_below_71 : decode cX3_below 71 = .ok (.aload_n 0, 1) := by decide +kernel
theorem dX3_below_72 : decode cX3_below 72 = .ok (.aload_n 0, 1) := by decide +kernel
theorem dX3_below_73 : decode cX3_below 73 = .ok (.getfield 41, 3) := by decide +kernel
theorem dX3_below_76 : decode cX3_below 76 = .ok (.iload 4, 2) := by decide +kernel
theorem dX3_below_78 : decode cX3_below 78 = .ok (.iaload, 1) := by decide +kernel
theorem dX3_below_79 : decode cX3_below 79 = .ok (.invokevirtual 101, 3) := by decide +kernel
theorem dX3_below_82 : decode cX3_below 82 = .ok (.istore 5, 2) := by decide +kernel
theorem dX3_below_84 : decode cX3_below 84 = .ok (.aload_n 0, 1) := by decide +kernel
theorem dX3_below_85 : decode cX3_below 85 = .ok (.getfield 22, 3) := by decide +kernel
theorem dX3_below_88 : decode cX3_below 88 = .ok (.iload 5, 2) := by decide +kernel
theorem dX3_below_90 : decode cX3_below 90 = .ok (.iconst (-1), 1) := by decide +kernel
theorem dX3_below_91 : decode cX3_below 91 = .ok (.iastore, 1) := by decide +kernel
theorem dX3_below_92 : decode cX3_below 92 = .ok (.aload_n 0, 1) := by decide +kernel
theorem dX3_below_93 : decode cX3_below 93 = .ok (.iload 5, 2) := by decide +kernel
theorem dX3_below_95 : decode cX3_below 95 = .ok (.invokevirtual 105, 3) := by decide +kernel
theorem dX3_below_98 : decode cX3_below 98 = .ok (.aload_n 0, 1) := by decide +kernel
theorem dX3_below_99 : decode cX3_below 99 = .ok (.iload 5, 2) := by decide +kernel
theorem dX3_below_101 : decode cX3_below 101 = .ok (.iconst 1, 1) := by decide +kernel
theorem dX3_below_102 : decode cX3_below 102 = .ok (.invokevirtual 109, 3) := by decide +kernel
theorem dX3_below_105 : decode cX3_below 105 = .ok (.iinc 4 1, 3) := by decide +kernel
theorem dX3_below_108 : decode cX3_below 108 = .ok (.goto (-62), 3) := by decide +kernel
theorem dX3_below_111 : decode cX3_below 111 = .ok (.aload_n 0, 1) := by decide +kernel
theorem dX3_below_112 : decode cX3_below 112 = .ok (.iload_n 3, 1) := by decide +kernel
theorem dX3_below_113 : decode cX3_below 113 = .ok (.invokevirtual 142, 3) := by decide +kernel
theorem dX3_below_116 : decode cX3_below 116 = .ok (.ireturn, 1) := by decide +kernel
theorem dX3_least_0 : decode cX3_least 0 = .ok (.iload_n 1, 1) := by decide +kernel
theorem dX3_least_1 : decode cX3_least 1 = .ok (.istore_n 2, 1) := by decide +kernel
theorem dX3_least_2 : decode cX3_least 2 = .ok (.aload_n 0, 1) := by decide +kernel
theorem dX3_least_3 : decode cX3_least 3 = .ok (.getfield 19, 3) := by decide +kernel
theorem dX3_least_6 : decode cX3_least 6 = .ok (.iload_n 2, 1) := by decide +kernel
theorem dX3_least_7 : decode cX3_least 7 = .ok (.iaload, 1) := by decide +kernel
theorem dX3_least_8 : decode cX3_least 8 = .ok (.ifCond .lt 13, 3) := by decide +kernel
theorem dX3_least_11 : decode cX3_least 11 = .ok (.aload_n 0, 1) := by decide +kernel
theorem dX3_least_12 : decode cX3_least 12 = .ok (.getfield 19, 3) := by decide +kernel
theorem dX3_least_15 : decode cX3_least 15 = .ok (.iload_n 2, 1) := by decide +kernel
theorem dX3_least_16 : decode cX3_least 16 = .ok (.iaload, 1) := by decide +kernel
theorem dX3_least_17 : decode cX3_least 17 = .ok (.istore_n 2, 1) := by decide +kernel
theorem dX3_least_18 : decode cX3_least 18 = .ok (.goto (-16), 3) := by decide +kernel
theorem dX3_least_21 : decode cX3_least 21 = .ok (.aload_n 0, 1) := by decide +kernel
theorem dX3_least_22 : decode cX3_least 22 = .ok (.getfield 7, 3) := by decide +kernel
theorem dX3_least_25 : decode cX3_least 25 = .ok (.iload_n 2, 1) := by decide +kernel
theorem dX3_least_26 : decode cX3_least 26 = .ok (.iaload, 1) := by decide +kernel
theorem dX3_least_27 : decode cX3_least 27 = .ok (.ireturn, 1) := by decide +kernel
theorem dX3_greatest_0 : decode cX3_greatest 0 = .ok (.iload_n 1, 1) := by decide +kernel
theorem dX3_greatest_1 : decode cX3_greatest 1 = .ok (.istore_n 2, 1) := by decide +kernel
theorem dX3_greatest_2 : decode cX3_greatest 2 = .ok (.aload_n 0, 1) := by decide +kernel
theorem dX3_greatest_3 : decode cX3_greatest 3 = .ok (.getfield 22, 3) := by decide +kernel
theorem dX3_greatest_6 : decode cX3_greatest 6 = .ok (.iload_n 2, 1) := by decide +kernel
theorem dX3_greatest_7 : decode cX3_greatest 7 = .ok (.iaload, 1) := by decide +kernel
theorem dX3_greatest_8 : decode cX3_greatest 8 = .ok (.ifCond .lt 13, 3) := by decide +kernel
theorem dX3_greatest_11 : decode cX3_greatest 11 = .ok (.aload_n 0, 1) := by decide +kernel
theorem dX3_greatest_12 : decode cX3_greatest 12 = .ok (.getfield 22, 3) := by decide +kernel
theorem dX3_greatest_15 : decode cX3_greatest 15 = .ok (.iload_n 2, 1) := by decide +kernel
theorem dX3_greatest_16 : decode cX3_greatest 16 = .ok (.iaload, 1) := by decide +kernel
theorem dX3_greatest_17 : decode cX3_greatest 17 = .ok (.istore_n 2, 1) := by decide +kernel
theorem dX3_greatest_18 : decode cX3_greatest 18 = .ok (.goto (-16), 3) := by decide +kernel
theorem dX3_greatest_21 : decode cX3_greatest 21 = .ok (.aload_n 0, 1) := by decide +kernel
theorem dX3_greatest_22 : decode cX3_greatest 22 = .ok (.getfield 7, 3) := by decide +kernel
theorem dX3_greatest_25 : decode cX3_greatest 25 = .ok (.iload_n 2, 1) := by decide +kernel
theorem dX3_greatest_26 : decode cX3_greatest 26 = .ok (.iaload, 1) := by decide +kernel
theorem dX3_greatest_27 : decode cX3_greatest 27 = .ok (.ireturn, 1) := by decide +kernel
set_option maxRecDepth 20000 in
theorem ggX3_join_X3_has : GoodIn wsX3_join wsX3_has := goodIn_r _ [7, 8, 9, 82, 83, 84, 85, 86, 87, 88, 89, 90, 91, 92, 93, 94, 95, 96, 97, 98, 99, 100, 101, 102, 103, 104, 105] (by decide +kernel) (by decide +kernel)
set_option maxRecDepth 20000 in
theorem gX3_join_X3_has : GoodIn wsX3_join (wsV RX3 118 RX3 yX3_has wsX3_has) := goodIn_app (goodIn_of _ (by decide +kernel)) ggX3_join_X3_has
set_option maxRecDepth 20000 in
theorem ggX3_join_X3_greatest : GoodIn wsX3_join wsX3_greatest := goodIn_r _ [13, 14, 15, 82, 83, 84, 85, 86, 87, 88, 89, 90, 91, 92, 93, 94, 95, 96, 97, 98, 99, 100, 101, 102, 103, 104, 105] (by decide +kernel) (by decide +kernel)
set_option maxRecDepth 20000 in
theorem gX3_join_X3_greatest : GoodIn wsX3_join (wsV RX3 148 RX3 yX3_greatest wsX3_greatest) := goodIn_app (goodIn_of _ (by decide +kernel)) ggX3_join_X3_greatest
set_option maxRecDepth 20000 in
theorem ggX3_join_X3_least : GoodIn wsX3_join wsX3_least := goodIn_r _ [19, 20, 15, 82, 83, 84, 85, 86, 87, 88, 89, 90, 91, 92, 93, 94, 95, 96, 97, 98, 99, 100, 101, 102, 103, 104, 105] (by decide +kernel) (by decide +kernel)
set_option maxRecDepth 20000 in
theorem gX3_join_X3_least : GoodIn wsX3_join (wsV RX3 151 RX3 yX3_least wsX3_least) := goodIn_app (goodIn_of _ (by decide +kernel)) ggX3_join_X3_least
set_option maxRecDepth 20000 in
theorem ggX3_join_X3_freeHandle : GoodIn wsX3_join wsX3_freeHandle := goodIn_r _ [24, 8, 9, 82, 83, 84, 85, 86, 87, 88, 89, 90, 91, 92, 93, 94, 95, 96, 97, 98, 99, 100, 101, 102, 103, 104, 105] (by decide +kernel) (by decide +kernel)
set_option maxRecDepth 20000 in
theorem gX3_join_X3_freeHandle : GoodIn wsX3_join (wsV RX3 121 RX3 yX3_freeHandle wsX3_freeHandle) := goodIn_app (goodIn_of _ (by decide +kernel)) ggX3_join_X3_freeHandle
set_option maxRecDepth 20000 in
theorem ggX3_join_X3_begin : GoodIn wsX3_join wsX3_begin := goodIn_r _ [28, 29, 30, 31, 32, 33, 34, 35, 6, 36, 37, 8, 9, 2, 38, 39, 40, 41, 42, 43, 20, 14, 82, 83, 84, 85, 86, 87, 88, 89, 90, 91, 92, 93, 94, 95, 96, 97, 98, 99, 100, 101, 102, 103, 104, 105] (by decide +kernel) (by decide +kernel)
set_option maxRecDepth 20000 in
theorem gX3_join_X3_begin : GoodIn wsX3_join (wsV RX3 124 RX3 yX3_begin wsX3_begin) := goodIn_app (goodIn_of _ (by decide +kernel)) ggX3_join_X3_begin
set_option maxRecDepth 20000 in
theorem ggX3_join_X3_joint : GoodIn wsX3_join wsX3_joint := goodIn_r _ [47, 14, 20, 48, 49, 50, 6, 51, 52, 15, 53, 54, 55, 56, 57, 58, 59, 60, 61, 37, 30, 29, 62, 63, 64, 65, 32, 31, 66, 67, 68, 69, 70, 82, 83, 84, 85, 86, 87, 88, 89, 90, 91, 92, 93, 94, 95, 96, 97, 98, 99, 100, 101, 102, 103, 104, 105] (by decide +kernel) (by decide +kernel)
set_option maxRecDepth 20000 in
theorem gX3_join_X3_joint : GoodIn wsX3_join (wsV RX3 145 RX3 yX3_joint wsX3_joint) := goodIn_app (goodIn_of _ (by decide +kernel)) ggX3_join_X3_joint
set_option maxRecDepth 20000 in
theorem ggX3_join_X3_settle : GoodIn wsX3_join wsX3_settle := goodIn_r _ [74, 29, 9, 2, 31, 75, 76, 77, 6, 78, 79, 80, 81, 33, 34, 35, 36, 37, 8, 38, 39, 40, 41, 42, 43, 20, 14, 82, 83, 84, 85, 86, 87, 88, 89, 90, 91, 92, 93, 94, 95, 96, 97, 98, 99, 100, 101, 102, 103, 104, 105] (by decide +kernel) (by decide +kernel)
set_option maxRecDepth 20000 in
theorem gX3_join_X3_settle : GoodIn wsX3_join (wsV RX3 142 RX3 yX3_settle wsX3_settle) := goodIn_app (goodIn_of _ (by decide +kernel)) ggX3_join_X3_settle
theorem dX3_join_0 : decode cX3_join 0 = .ok (.aload_n 0, 1) := by decide +kernel
theorem dX3_join_1 : decode cX3_join 1 = .ok (.iconst 0, 1) := by decide +kernel
theorem dX3_join_2 : decode cX3_join 2 = .ok (.putfield 54, 3) := by decide +kernel
theorem dX3_join_5 : decode cX3_join 5 = .ok (.aload_n 0, 1) := by decide +kernel
theorem dX3_join_6 : decode cX3_join 6 = .ok (.iload_n 1, 1) := by decide +kernel
theorem dX3_join_7 : decode cX3_join 7 = .ok (.invokevirtual 118, 3) := by decide +kernel
theorem dX3_join_10 : decode cX3_join 10 = .ok (.ifCond .eq 11, 3) := by decide +kernel
theorem dX3_join_13 : decode cX3_join 13 = .ok (.aload_n 0, 1) := by decide +kernel
theorem dX3_join_14 : decode cX3_join 14 = .ok (.iload_n 2, 1) := by decide +kernel
theorem dX3_join_15 : decode cX3_join 15 = .ok (.invokevirtual 118, 3) := by decide +kernel
theorem dX3_join_18 : decode cX3_join 18 = .ok (.ifCond .ne 5, 3) := by decide +kernel
theorem dX3_join_21 : decode cX3_join 21 = .ok (.iconst (-1), 1) := by decide +kernel
theorem dX3_join_22 : decode cX3_join 22 = .ok (.ireturn, 1) := by decide +kernel
theorem dX3_join_23 : decode cX3_join 23 = .ok (.aload_n 0, 1) := by decide +kernel
theorem dX3_join_24 : decode cX3_join 24 = .ok (.getfield 38, 3) := by decide +kernel
theorem dX3_join_27 : decode cX3_join 27 = .ok (.iload_n 1, 1) := by decide +kernel
theorem dX3_join_28 : decode cX3_join 28 = .ok (.iaload, 1) := by decide +kernel
theorem dX3_join_29 : decode cX3_join 29 = .ok (.ifCond .lt 38, 3) := by decide +kernel
theorem dX3_join_32 : decode cX3_join 32 = .ok (.aload_n 0, 1) := by decide +kernel
theorem dX3_join_33 : decode cX3_join 33 = .ok (.getfield 38, 3) := by decide +kernel
theorem dX3_join_36 : decode cX3_join 36 = .ok (.iload_n 2, 1) := by decide +kernel
theorem dX3_join_37 : decode cX3_join 37 = .ok (.iaload, 1) := by decide +kernel
theorem dX3_join_38 : decode cX3_join 38 = .ok (.ifCond .lt 29, 3) := by decide +kernel
theorem dX3_join_41 : decode cX3_join 41 = .ok (.aload_n 0, 1) := by decide +kernel
theorem dX3_join_42 : decode cX3_join 42 = .ok (.aload_n 0, 1) := by decide +kernel
theorem dX3_join_43 : decode cX3_join 43 = .ok (.getfield 38, 3) := by decide +kernel
theorem dX3_join_46 : decode cX3_join 46 = .ok (.iload_n 1, 1) := by decide +kernel
theorem dX3_join_47 : decode cX3_join 47 = .ok (.iaload, 1) := by decide +kernel
theorem dX3_join_48 : decode cX3_join 48 = .ok (.invokevirtual 148, 3) := by decide +kernel
theorem dX3_join_51 : decode cX3_join 51 = .ok (.aload_n 0, 1) := by decide +kernel
theorem dX3_join_52 : decode cX3_join 52 = .ok (.aload_n 0, 1) := by decide +kernel
theorem dX3_join_53 : decode cX3_join 53 = .ok (.getfield 38, 3) := by decide +kernel
theorem dX3_join_56 : decode cX3_join 56 = .ok (.iload_n 2, 1) := by decide +kernel
theorem dX3_join_57 : decode cX3_join 57 = .ok (.iaload, 1) := by decide +kernel
theorem dX3_join_58 : decode cX3_join 58 = .ok (.invokevirtual 151, 3) := by decide +kernel
theorem dX3_join_61 : decode cX3_join 61 = .ok (.if_icmp .lt 6, 3) := by decide +kernel
theorem dX3_join_64 : decode cX3_join 64 = .ok (.bipush (-4), 2) := by decide +kernel
theorem dX3_join_66 : decode cX3_join 66 = .ok (.ireturn, 1) := by decide +kernel
theorem dX3_join_67 : decode cX3_join 67 = .ok (.aload_n 0, 1) := by decide +kernel
theorem dX3_join_68 : decode cX3_join 68 = .ok (.invokevirtual 121, 3) := by decide +kernel
theorem dX3_join_71 : decode cX3_join 71 = .ok (.istore_n 3, 1) := by decide +kernel
theorem dX3_join_72 : decode cX3_join 72 = .ok (.iload_n 3, 1) := by decide +kernel
theorem dX3_join_73 : decode cX3_join 73 = .ok (.ifCond .ge 6, 3) := by decide +kernel
theorem dX3_join_76 : decode cX3_join 76 = .ok (.bipush (-2), 2) := by decide +kernel
theorem dX3_join_78 : decode cX3_join 78 = .ok (.ireturn, 1) := by decide +kernel
theorem dX3_join_79 : decode cX3_join 79 = .ok (.aload_n 0, 1) := by decide +kernel
theorem dX3_join_80 : decode cX3_join 80 = .ok (.invokevirtual 124, 3) := by decide +kernel
theorem dX3_join_83 : decode cX3_join 83 = .ok (.aload_n 0, 1) := by decide +kernel
theorem dX3_join_84 : decode cX3_join 84 = .ok (.aload_n 0, 1) := by decide +kernel
theorem dX3_join_85 : decode cX3_join 85 = .ok (.getfield 38, 3) := by decide +kernel
theorem dX3_join_88 : decode cX3_join 88 = .ok (.iload_n 1, 1) := by decide +kernel
theorem dX3_join_89 : decode cX3_join 89 = .ok (.iaload, 1) := by decide +kernel
theorem dX3_join_90 : decode cX3_join 90 = .ok (.aload_n 0, 1) := by decide +kernel
theorem dX3_join_91 : decode cX3_join 91 = .ok (.getfield 38, 3) := by decide +kernel
theorem dX3_join_94 : decode cX3_join 94 = .ok (.iload_n 2, 1) := by decide +kernel
theorem dX3_join_95 : decode cX3_join 95 = .ok (.iaload, 1) := by decide +kernel
theorem dX3_join_96 : decode cX3_join 96 = .ok (.invokevirtual 145, 3) := by decide +kernel
theorem dX3_join_99 : decode cX3_join 99 = .ok (.aload_n 0, 1) := by decide +kernel
theorem dX3_join_100 : decode cX3_join 100 = .ok (.iload_n 3, 1) := by decide +kernel
theorem dX3_join_101 : decode cX3_join 101 = .ok (.invokevirtual 142, 3) := by decide +kernel
theorem dX3_join_104 : decode cX3_join 104 = .ok (.ireturn, 1) := by decide +kernel
set_option maxRecDepth 20000 in
theorem ggX3_drop_X3_has : GoodIn wsX3_drop wsX3_has := goodIn_r _ [8, 9, 2, 10, 11, 12, 13, 14, 15, 16, 17, 18, 19, 20, 21, 22, 23, 24, 25, 26, 27, 28, 29, 30, 31, 32, 33] (by decide +kernel) (by decide +kernel)
set_option maxRecDepth 20000 in
theorem gX3_drop_X3_has : GoodIn wsX3_drop (wsV RX3 118 RX3 yX3_has wsX3_has) := goodIn_app (goodIn_of _ (by decide +kernel)) ggX3_drop_X3_has
theorem dX3_drop_0 : decode cX3_drop 0 = .ok (.aload_n 0, 1) := by decide +kernel
theorem dX3_drop_1 : decode cX3_drop 1 = .ok (.iconst 0, 1) := by decide +kernel
theorem dX3_drop_2 : decode cX3_drop 2 = .ok (.putfield 54, 3) := by decide +kernel
theorem dX3_drop_5 : decode cX3_drop 5 = .ok (.aload_n 0, 1) := by decide +kernel
theorem dX3_drop_6 : decode cX3_drop 6 = .ok (.iload_n 1, 1) := by decide +kernel
theorem dX3_drop_7 : decode cX3_drop 7 = .ok (.invokevirtual 118, 3) := by decide +kernel
theorem dX3_drop_10 : decode cX3_drop 10 = .ok (.ifCond .ne 5, 3) := by decide +kernel
theorem dX3_drop_13 : decode cX3_drop 13 = .ok (.iconst 0, 1) := by decide +kernel
theorem dX3_drop_14 : decode cX3_drop 14 = .ok (.ireturn, 1) := by decide +kernel
theorem dX3_drop_15 : decode cX3_drop 15 = .ok (.aload_n 0, 1) := by decide +kernel
theorem dX3_drop_16 : decode cX3_drop 16 = .ok (.getfield 35, 3) := by decide +kernel
theorem dX3_drop_19 : decode cX3_drop 19 = .ok (.iload_n 1, 1) := by decide +kernel
theorem dX3_drop_20 : decode cX3_drop 20 = .ok (.iconst 0, 1) := by decide +kernel
theorem dX3_drop_21 : decode cX3_drop 21 = .ok (.bastore, 1) := by decide +kernel
theorem dX3_drop_22 : decode cX3_drop 22 = .ok (.aload_n 0, 1) := by decide +kernel
theorem dX3_drop_23 : decode cX3_drop 23 = .ok (.getfield 38, 3) := by decide +kernel
theorem dX3_drop_26 : decode cX3_drop 26 = .ok (.iload_n 1, 1) := by decide +kernel
theorem dX3_drop_27 : decode cX3_drop 27 = .ok (.iconst (-1), 1) := by decide +kernel
theorem dX3_drop_28 : decode cX3_drop 28 = .ok (.iastore, 1) := by decide +kernel
theorem dX3_drop_29 : decode cX3_drop 29 = .ok (.iconst 1, 1) := by decide +kernel
theorem dX3_drop_30 : decode cX3_drop 30 = .ok (.ireturn, 1) := by decide +kernel
set_option maxRecDepth 20000 in
theorem ggX3_isLive_X3_has : GoodIn wsX3_isLive wsX3_has := goodIn_r _ [6, 7, 8, 9, 10, 11, 12, 13, 14, 15, 16, 17, 18, 19, 20, 21, 22, 23, 24, 25, 26, 27, 28, 29, 30, 31, 32] (by decide +kernel) (by decide +kernel)
set_option maxRecDepth 20000 in
theorem gX3_isLive_X3_has : GoodIn wsX3_isLive (wsV RX3 118 RX3 yX3_has wsX3_has) := goodIn_app (goodIn_of _ (by decide +kernel)) ggX3_isLive_X3_has
theorem dX3_isLive_0 : decode cX3_isLive 0 = .ok (.aload_n 0, 1) := by decide +kernel
theorem dX3_isLive_1 : decode cX3_isLive 1 = .ok (.iconst 0, 1) := by decide +kernel
theorem dX3_isLive_2 : decode cX3_isLive 2 = .ok (.putfield 54, 3) := by decide +kernel
theorem dX3_isLive_5 : decode cX3_isLive 5 = .ok (.aload_n 0, 1) := by decide +kernel
theorem dX3_isLive_6 : decode cX3_isLive 6 = .ok (.iload_n 1, 1) := by decide +kernel
theorem dX3_isLive_7 : decode cX3_isLive 7 = .ok (.invokevirtual 118, 3) := by decide +kernel
theorem dX3_isLive_10 : decode cX3_isLive 10 = .ok (.ireturn, 1) := by decide +kernel
set_option maxRecDepth 20000 in
theorem ggX3_get_X3_has : GoodIn wsX3_get wsX3_has := goodIn_r _ [8, 9, 10, 18, 19, 20, 21, 22, 23, 24, 25, 26, 27, 28, 29, 30, 31, 32, 33, 34, 35, 36, 37, 38, 39, 40, 41] (by decide +kernel) (by decide +kernel)
set_option maxRecDepth 20000 in
theorem gX3_get_X3_has : GoodIn wsX3_get (wsV RX3 118 RX3 yX3_has wsX3_has) := goodIn_app (goodIn_of _ (by decide +kernel)) ggX3_get_X3_has
set_option maxRecDepth 20000 in
theorem ggX3_get_X3_find : GoodIn wsX3_get wsX3_find := goodIn_r _ [14, 15, 16, 17, 18, 19, 20, 21, 22, 23, 24, 25, 26, 27, 28, 29, 30, 31, 32, 33, 34, 35, 36, 37, 38, 39, 40, 41] (by decide +kernel) (by decide +kernel)
set_option maxRecDepth 20000 in
theorem gX3_get_X3_find : GoodIn wsX3_get (wsV RX3 127 RX3 yX3_find wsX3_find) := goodIn_app (goodIn_of _ (by decide +kernel)) ggX3_get_X3_find
theorem dX3_get_0 : decode cX3_get 0 = .ok (.aload_n 0, 1) := by decide +kernel
theorem dX3_get_1 : decode cX3_get 1 = .ok (.iload_n 1, 1) := by decide +kernel
theorem dX3_get_2 : decode cX3_get 2 = .ok (.invokevirtual 118, 3) := by decide +kernel
theorem dX3_get_5 : decode cX3_get 5 = .ok (.ifCond .eq 17, 3) := by decide +kernel
theorem dX3_get_8 : decode cX3_get 8 = .ok (.aload_n 0, 1) := by decide +kernel
theorem dX3_get_9 : decode cX3_get 9 = .ok (.aload_n 0, 1) := by decide +kernel
theorem dX3_get_10 : decode cX3_get 10 = .ok (.getfield 38, 3) := by decide +kernel
theorem dX3_get_13 : decode cX3_get 13 = .ok (.iload_n 1, 1) := by decide +kernel
theorem dX3_get_14 : decode cX3_get 14 = .ok (.iaload, 1) := by decide +kernel
theorem dX3_get_15 : decode cX3_get 15 = .ok (.iload_n 2, 1) := by decide +kernel
theorem dX3_get_16 : decode cX3_get 16 = .ok (.invokevirtual 127, 3) := by decide +kernel
theorem dX3_get_19 : decode cX3_get 19 = .ok (.goto 4, 3) := by decide +kernel
theorem dX3_get_22 : decode cX3_get 22 = .ok (.iconst (-1), 1) := by decide +kernel
theorem dX3_get_23 : decode cX3_get 23 = .ok (.istore_n 3, 1) := by decide +kernel
theorem dX3_get_24 : decode cX3_get 24 = .ok (.aload_n 0, 1) := by decide +kernel
theorem dX3_get_25 : decode cX3_get 25 = .ok (.iload_n 3, 1) := by decide +kernel
theorem dX3_get_26 : decode cX3_get 26 = .ok (.ifCond .ge 7, 3) := by decide +kernel
theorem dX3_get_29 : decode cX3_get 29 = .ok (.iconst 1, 1) := by decide +kernel
theorem dX3_get_30 : decode cX3_get 30 = .ok (.goto 4, 3) := by decide +kernel
theorem dX3_get_33 : decode cX3_get 33 = .ok (.iconst 0, 1) := by decide +kernel
theorem dX3_get_34 : decode cX3_get 34 = .ok (.putfield 54, 3) := by decide +kernel
theorem dX3_get_37 : decode cX3_get 37 = .ok (.iload_n 3, 1) := by decide +kernel
theorem dX3_get_38 : decode cX3_get 38 = .ok (.ifCond .ge 7, 3) := by decide +kernel
theorem dX3_get_41 : decode cX3_get 41 = .ok (.iconst 0, 1) := by decide +kernel
theorem dX3_get_42 : decode cX3_get 42 = .ok (.goto 9, 3) := by decide +kernel
theorem dX3_get_45 : decode cX3_get 45 = .ok (.aload_n 0, 1) := by decide +kernel
theorem dX3_get_46 : decode cX3_get 46 = .ok (.getfield 13, 3) := by decide +kernel
theorem dX3_get_49 : decode cX3_get 49 = .ok (.iload_n 3, 1) := by decide +kernel
theorem dX3_get_50 : decode cX3_get 50 = .ok (.iaload, 1) := by decide +kernel
theorem dX3_get_51 : decode cX3_get 51 = .ok (.ireturn, 1) := by decide +kernel
set_option maxRecDepth 20000 in
theorem ggX3_contains_X3_has : GoodIn wsX3_contains wsX3_has := goodIn_r _ [7, 8, 9, 17, 18, 19, 20, 21, 22, 23, 24, 25, 26, 27, 28, 29, 30, 31, 32, 33, 34, 35, 36, 37, 38, 39, 40] (by decide +kernel) (by decide +kernel)
set_option maxRecDepth 20000 in
theorem gX3_contains_X3_has : GoodIn wsX3_contains (wsV RX3 118 RX3 yX3_has wsX3_has) := goodIn_app (goodIn_of _ (by decide +kernel)) ggX3_contains_X3_has
set_option maxRecDepth 20000 in
theorem ggX3_contains_X3_find : GoodIn wsX3_contains wsX3_find := goodIn_r _ [13, 14, 15, 16, 17, 18, 19, 20, 21, 22, 23, 24, 25, 26, 27, 28, 29, 30, 31, 32, 33, 34, 35, 36, 37, 38, 39, 40] (by decide +kernel) (by decide +kernel)
set_option maxRecDepth 20000 in
theorem gX3_contains_X3_find : GoodIn wsX3_contains (wsV RX3 127 RX3 yX3_find wsX3_find) := goodIn_app (goodIn_of _ (by decide +kernel)) ggX3_contains_X3_find
theorem dX3_contains_0 : decode cX3_contains 0 = .ok (.aload_n 0, 1) := by decide +kernel
theorem dX3_contains_1 : decode cX3_contains 1 = .ok (.iconst 0, 1) := by decide +kernel
theorem dX3_contains_2 : decode cX3_contains 2 = .ok (.putfield 54, 3) := by decide +kernel
theorem dX3_contains_5 : decode cX3_contains 5 = .ok (.aload_n 0, 1) := by decide +kernel
theorem dX3_contains_6 : decode cX3_contains 6 = .ok (.iload_n 1, 1) := by decide +kernel
theorem dX3_contains_7 : decode cX3_contains 7 = .ok (.invokevirtual 118, 3) := by decide +kernel
theorem dX3_contains_10 : decode cX3_contains 10 = .ok (.ifCond .eq 21, 3) := by decide +kernel
theorem dX3_contains_13 : decode cX3_contains 13 = .ok (.aload_n 0, 1) := by decide +kernel
theorem dX3_contains_14 : decode cX3_contains 14 = .ok (.aload_n 0, 1) := by decide +kernel
theorem dX3_contains_15 : decode cX3_contains 15 = .ok (.getfield 38, 3) := by decide +kernel
theorem dX3_contains_18 : decode cX3_contains 18 = .ok (.iload_n 1, 1) := by decide +kernel
theorem dX3_contains_19 : decode cX3_contains 19 = .ok (.iaload, 1) := by decide +kernel
theorem dX3_contains_20 : decode cX3_contains 20 = .ok (.iload_n 2, 1) := by decide +kernel
theorem dX3_contains_21 : decode cX3_contains 21 = .ok (.invokevirtual 127, 3) := by decide +kernel
theorem dX3_contains_24 : decode cX3_contains 24 = .ok (.ifCond .lt 7, 3) := by decide +kernel
theorem dX3_contains_27 : decode cX3_contains 27 = .ok (.iconst 1, 1) := by decide +kernel
theorem dX3_contains_28 : decode cX3_contains 28 = .ok (.goto 4, 3) := by decide +kernel
theorem dX3_contains_31 : decode cX3_contains 31 = .ok (.iconst 0, 1) := by decide +kernel
theorem dX3_contains_32 : decode cX3_contains 32 = .ok (.ireturn, 1) := by decide +kernel
theorem dX3_clear_0 : decode cX3_clear 0 = .ok (.iconst 0, 1) := by decide +kernel
theorem dX3_clear_1 : decode cX3_clear 1 = .ok (.istore_n 1, 1) := by decide +kernel
theorem dX3_clear_2 : decode cX3_clear 2 = .ok (.iload_n 1, 1) := by decide +kernel
theorem dX3_clear_3 : decode cX3_clear 3 = .ok (.sipush 160, 3) := by decide +kernel
theorem dX3_clear_6 : decode cX3_clear 6 = .ok (.if_icmp .ge 16, 3) := by decide +kernel
theorem dX3_clear_9 : decode cX3_clear 9 = .ok (.aload_n 0, 1) := by decide +kernel
theorem dX3_clear_10 : decode cX3_clear 10 = .ok (.getfield 29, 3) := by decide +kernel
theorem dX3_clear_13 : decode cX3_clear 13 = .ok (.iload_n 1, 1) := by decide +kernel
theorem dX3_clear_14 : decode cX3_clear 14 = .ok (.iconst 0, 1) := by decide +kernel
theorem dX3_clear_15 : decode cX3_clear 15 = .ok (.bastore, 1) := by decide +kernel
theorem dX3_clear_16 : decode cX3_clear 16 = .ok (.iinc 1 1, 3) := by decide +kernel
theorem dX3_clear_19 : decode cX3_clear 19 = .ok (.goto (-17), 3) := by decide +kernel
theorem dX3_clear_22 : decode cX3_clear 22 = .ok (.return_, 1) := by decide +kernel
set_option maxRecDepth 20000 in
theorem ggX3_size_X3_clear : GoodIn wsX3_size wsX3_clear := goodIn_r _ [8, 3, 23, 24, 25, 26, 27, 28, 29, 30, 31, 32, 33, 34, 35, 36, 37, 38, 39, 40, 41, 42, 43, 44, 45, 46] (by decide +kernel) (by decide +kernel)
set_option maxRecDepth 20000 in
theorem gX3_size_X3_clear : GoodIn wsX3_size (wsV RX3 154 RX3 yX3_clear wsX3_clear) := goodIn_app (goodIn_of _ (by decide +kernel)) ggX3_size_X3_clear
set_option maxRecDepth 20000 in
theorem ggX3_size_X3_has : GoodIn wsX3_size wsX3_has := goodIn_r _ [12, 13, 14, 23, 24, 25, 26, 27, 28, 29, 30, 31, 32, 33, 34, 35, 36, 37, 38, 39, 40, 41, 42, 43, 44, 45, 46] (by decide +kernel) (by decide +kernel)
set_option maxRecDepth 20000 in
theorem gX3_size_X3_has : GoodIn wsX3_size (wsV RX3 118 RX3 yX3_has wsX3_has) := goodIn_app (goodIn_of _ (by decide +kernel)) ggX3_size_X3_has
set_option maxRecDepth 20000 in
theorem ggX3_size_X3_mark : GoodIn wsX3_size wsX3_mark := goodIn_r _ [18, 19, 20, 21, 22, 23, 24, 25, 26, 27, 28, 29, 30, 31, 32, 33, 34, 35, 36, 37, 38, 39, 40, 41, 42, 43, 44, 45, 46] (by decide +kernel) (by decide +kernel)
set_option maxRecDepth 20000 in
theorem gX3_size_X3_mark : GoodIn wsX3_size (wsV RX3 60 RX3 yX3_mark wsX3_mark) := goodIn_app (goodIn_of _ (by decide +kernel)) ggX3_size_X3_mark
theorem dX3_size_0 : decode cX3_size 0 = .ok (.aload_n 0, 1) := by decide +kernel
theorem dX3_size_1 : decode cX3_size 1 = .ok (.iconst 0, 1) := by decide +kernel
theorem dX3_size_2 : decode cX3_size 2 = .ok (.putfield 54, 3) := by decide +kernel
theorem dX3_size_5 : decode cX3_size 5 = .ok (.aload_n 0, 1) := by decide +kernel
theorem dX3_size_6 : decode cX3_size 6 = .ok (.invokevirtual 154, 3) := by decide +kernel
theorem dX3_size_9 : decode cX3_size 9 = .ok (.aload_n 0, 1) := by decide +kernel
theorem dX3_size_10 : decode cX3_size 10 = .ok (.iload_n 1, 1) := by decide +kernel
theorem dX3_size_11 : decode cX3_size 11 = .ok (.invokevirtual 118, 3) := by decide +kernel
theorem dX3_size_14 : decode cX3_size 14 = .ok (.ifCond .eq 20, 3) := by decide +kernel
theorem dX3_size_17 : decode cX3_size 17 = .ok (.aload_n 0, 1) := by decide +kernel
theorem dX3_size_18 : decode cX3_size 18 = .ok (.aload_n 0, 1) := by decide +kernel
theorem dX3_size_19 : decode cX3_size 19 = .ok (.getfield 38, 3) := by decide +kernel
theorem dX3_size_22 : decode cX3_size 22 = .ok (.iload_n 1, 1) := by decide +kernel
theorem dX3_size_23 : decode cX3_size 23 = .ok (.iaload, 1) := by decide +kernel
theorem dX3_size_24 : decode cX3_size 24 = .ok (.aload_n 0, 1) := by decide +kernel
theorem dX3_size_25 : decode cX3_size 25 = .ok (.getfield 29, 3) := by decide +kernel
theorem dX3_size_28 : decode cX3_size 28 = .ok (.invokevirtual 60, 3) := by decide +kernel
theorem dX3_size_31 : decode cX3_size 31 = .ok (.goto 4, 3) := by decide +kernel
theorem dX3_size_34 : decode cX3_size 34 = .ok (.iconst (-1), 1) := by decide +kernel
theorem dX3_size_35 : decode cX3_size 35 = .ok (.ireturn, 1) := by decide +kernel
set_option maxRecDepth 20000 in
theorem ggX3_floor_X3_has : GoodIn wsX3_floor wsX3_has := goodIn_r _ [10, 11, 12, 13, 14, 15, 16, 17, 18, 19, 20, 21, 22, 23, 24, 25, 26, 27, 28, 29, 30, 31, 32, 33, 34, 35, 36] (by decide +kernel) (by decide +kernel)
set_option maxRecDepth 20000 in
theorem gX3_floor_X3_has : GoodIn wsX3_floor (wsV RX3 118 RX3 yX3_has wsX3_has) := goodIn_app (goodIn_of _ (by decide +kernel)) ggX3_floor_X3_has
theorem dX3_floor_0 : decode cX3_floor 0 = .ok (.aload_n 0, 1) := by decide +kernel
theorem dX3_floor_1 : decode cX3_floor 1 = .ok (.iconst 1, 1) := by decide +kernel
theorem dX3_floor_2 : decode cX3_floor 2 = .ok (.putfield 54, 3) := by decide +kernel
theorem dX3_floor_5 : decode cX3_floor 5 = .ok (.iconst 0, 1) := by decide +kernel
theorem dX3_floor_6 : decode cX3_floor 6 = .ok (.istore_n 3, 1) := by decide +kernel
theorem dX3_floor_7 : decode cX3_floor 7 = .ok (.aload_n 0, 1) := by decide +kernel
theorem dX3_floor_8 : decode cX3_floor 8 = .ok (.iload_n 1, 1) := by decide +kernel
theorem dX3_floor_9 : decode cX3_floor 9 = .ok (.invokevirtual 118, 3) := by decide +kernel
theorem dX3_floor_12 : decode cX3_floor 12 = .ok (.ifCond .eq 12, 3) := by decide +kernel
theorem dX3_floor_15 : decode cX3_floor 15 = .ok (.aload_n 0, 1) := by decide +kernel
theorem dX3_floor_16 : decode cX3_floor 16 = .ok (.getfield 38, 3) := by decide +kernel
theorem dX3_floor_19 : decode cX3_floor 19 = .ok (.iload_n 1, 1) := by decide +kernel
theorem dX3_floor_20 : decode cX3_floor 20 = .ok (.iaload, 1) := by decide +kernel
theorem dX3_floor_21 : decode cX3_floor 21 = .ok (.goto 4, 3) := by decide +kernel
theorem dX3_floor_24 : decode cX3_floor 24 = .ok (.iconst (-1), 1) := by decide +kernel
theorem dX3_floor_25 : decode cX3_floor 25 = .ok (.istore 4, 2) := by decide +kernel
theorem dX3_floor_27 : decode cX3_floor 27 = .ok (.iload 4, 2) := by decide +kernel
theorem dX3_floor_29 : decode cX3_floor 29 = .ok (.ifCond .lt 82, 3) := by decide +kernel
theorem dX3_floor_32 : decode cX3_floor 32 = .ok (.aload_n 0, 1) := by decide +kernel
theorem dX3_floor_33 : decode cX3_floor 33 = .ok (.getfield 7, 3) := by decide +kernel
theorem dX3_floor_36 : decode cX3_floor 36 = .ok (.iload 4, 2) := by decide +kernel
theorem dX3_floor_38 : decode cX3_floor 38 = .ok (.iaload, 1) := by decide +kernel
theorem dX3_floor_39 : decode cX3_floor 39 = .ok (.iload_n 2, 1) := by decide +kernel
theorem dX3_floor_40 : decode cX3_floor 40 = .ok (.if_icmp .gt 7, 3) := by decide +kernel
theorem dX3_floor_43 : decode cX3_floor 43 = .ok (.iconst 1, 1) := by decide +kernel
theorem dX3_floor_44 : decode cX3_floor 44 = .ok (.goto 4, 3) := by decide +kernel
theorem dX3_floor_47 : decode cX3_floor 47 = .ok (.iconst 0, 1) := by decide +kernel
theorem dX3_floor_48 : decode cX3_floor 48 = .ok (.istore 5, 2) := by decide +kernel
theorem dX3_floor_50 : decode cX3_floor 50 = .ok (.iload 5, 2) := by decide +kernel
theorem dX3_floor_52 : decode cX3_floor 52 = .ok (.ifCond .eq 13, 3) := by decide +kernel
theorem dX3_floor_55 : decode cX3_floor 55 = .ok (.aload_n 0, 1) := by decide +kernel
theorem dX3_floor_56 : decode cX3_floor 56 = .ok (.getfield 7, 3) := by decide +kernel
theorem dX3_floor_59 : decode cX3_floor 59 = .ok (.iload 4, 2) := by decide +kernel
theorem dX3_floor_61 : decode cX3_floor 61 = .ok (.iaload, 1) := by decide +kernel
theorem dX3_floor_62 : decode cX3_floor 62 = .ok (.goto 4, 3) := by decide +kernel
theorem dX3_floor_65 : decode cX3_floor 65 = .ok (.iload_n 3, 1) := by decide +kernel
theorem dX3_floor_66 : decode cX3_floor 66 = .ok (.istore_n 3, 1) := by decide +kernel
theorem dX3_floor_67 : decode cX3_floor 67 = .ok (.aload_n 0, 1) := by decide +kernel
theorem dX3_floor_68 : decode cX3_floor 68 = .ok (.iload 5, 2) := by decide +kernel
theorem dX3_floor_70 : decode cX3_floor 70 = .ok (.ifCond .eq 7, 3) := by decide +kernel
theorem dX3_floor_73 : decode cX3_floor 73 = .ok (.iconst 0, 1) := by decide +kernel
theorem dX3_floor_74 : decode cX3_floor 74 = .ok (.goto 7, 3) := by decide +kernel
theorem dX3_floor_77 : decode cX3_floor 77 = .ok (.aload_n 0, 1) := by decide +kernel
theorem dX3_floor_78 : decode cX3_floor 78 = .ok (.getfield 54, 3) := by decide +kernel
theorem dX3_floor_81 : decode cX3_floor 81 = .ok (.putfield 54, 3) := by decide +kernel
theorem dX3_floor_84 : decode cX3_floor 84 = .ok (.iload 5, 2) := by decide +kernel
theorem dX3_floor_86 : decode cX3_floor 86 = .ok (.ifCond .eq 13, 3) := by decide +kernel
theorem dX3_floor_89 : decode cX3_floor 89 = .ok (.aload_n 0, 1) := by decide +kernel
theorem dX3_floor_90 : decode cX3_floor 90 = .ok (.getfield 22, 3) := by decide +kernel
theorem dX3_floor_93 : decode cX3_floor 93 = .ok (.iload 4, 2) := by decide +kernel
theorem dX3_floor_95 : decode cX3_floor 95 = .ok (.iaload, 1) := by decide +kernel
theorem dX3_floor_96 : decode cX3_floor 96 = .ok (.goto 10, 3) := by decide +kernel
theorem dX3_floor_99 : decode cX3_floor 99 = .ok (.aload_n 0, 1) := by decide +kernel
theorem dX3_floor_100 : decode cX3_floor 100 = .ok (.getfield 19, 3) := by decide +kernel
theorem dX3_floor_103 : decode cX3_floor 103 = .ok (.iload 4, 2) := by decide +kernel
theorem dX3_floor_105 : decode cX3_floor 105 = .ok (.iaload, 1) := by decide +kernel
theorem dX3_floor_106 : decode cX3_floor 106 = .ok (.istore 4, 2) := by decide +kernel
theorem dX3_floor_108 : decode cX3_floor 108 = .ok (.goto (-81), 3) := by decide +kernel
theorem dX3_floor_111 : decode cX3_floor 111 = .ok (.iload_n 3, 1) := by decide +kernel
theorem dX3_floor_112 : decode cX3_floor 112 = .ok (.ireturn, 1) := by decide +kernel
theorem dX3_rank_0 : decode cX3_rank 0 = .ok (.iconst 0, 1) := by decide +kernel
theorem dX3_rank_1 : decode cX3_rank 1 = .ok (.istore_n 2, 1) := by decide +kernel
theorem dX3_rank_2 : decode cX3_rank 2 = .ok (.iconst 0, 1) := by decide +kernel
theorem dX3_rank_3 : decode cX3_rank 3 = .ok (.istore_n 3, 1) := by decide +kernel
theorem dX3_rank_4 : decode cX3_rank 4 = .ok (.iload_n 3, 1) := by decide +kernel
theorem dX3_rank_5 : decode cX3_rank 5 = .ok (.sipush 160, 3) := by decide +kernel
theorem dX3_rank_8 : decode cX3_rank 8 = .ok (.if_icmp .ge 36, 3) := by decide +kernel
theorem dX3_rank_11 : decode cX3_rank 11 = .ok (.aload_n 0, 1) := by decide +kernel
theorem dX3_rank_12 : decode cX3_rank 12 = .ok (.getfield 29, 3) := by decide +kernel
theorem dX3_rank_15 : decode cX3_rank 15 = .ok (.iload_n 3, 1) := by decide +kernel
theorem dX3_rank_16 : decode cX3_rank 16 = .ok (.baload, 1) := by decide +kernel
theorem dX3_rank_17 : decode cX3_rank 17 = .ok (.ifCond .eq 19, 3) := by decide +kernel
theorem dX3_rank_20 : decode cX3_rank 20 = .ok (.aload_n 0, 1) := by decide +kernel
theorem dX3_rank_21 : decode cX3_rank 21 = .ok (.getfield 7, 3) := by decide +kernel
theorem dX3_rank_24 : decode cX3_rank 24 = .ok (.iload_n 3, 1) := by decide +kernel
theorem dX3_rank_25 : decode cX3_rank 25 = .ok (.iaload, 1) := by decide +kernel
theorem dX3_rank_26 : decode cX3_rank 26 = .ok (.iload_n 1, 1) := by decide +kernel
theorem dX3_rank_27 : decode cX3_rank 27 = .ok (.if_icmp .ge 9, 3) := by decide +kernel
theorem dX3_rank_30 : decode cX3_rank 30 = .ok (.iload_n 2, 1) := by decide +kernel
theorem dX3_rank_31 : decode cX3_rank 31 = .ok (.iconst 1, 1) := by decide +kernel
theorem dX3_rank_32 : decode cX3_rank 32 = .ok (.iadd, 1) := by decide +kernel
theorem dX3_rank_33 : decode cX3_rank 33 = .ok (.goto 4, 3) := by decide +kernel
theorem dX3_rank_36 : decode cX3_rank 36 = .ok (.iload_n 2, 1) := by decide +kernel
theorem dX3_rank_37 : decode cX3_rank 37 = .ok (.istore_n 2, 1) := by decide +kernel
theorem dX3_rank_38 : decode cX3_rank 38 = .ok (.iinc 3 1, 3) := by decide +kernel
theorem dX3_rank_41 : decode cX3_rank 41 = .ok (.goto (-37), 3) := by decide +kernel
theorem dX3_rank_44 : decode cX3_rank 44 = .ok (.iload_n 2, 1) := by decide +kernel
theorem dX3_rank_45 : decode cX3_rank 45 = .ok (.ireturn, 1) := by decide +kernel
set_option maxRecDepth 20000 in
theorem ggX3_keyAt_X3_has : GoodIn wsX3_keyAt wsX3_has := goodIn_r _ [9, 10, 11, 32, 33, 34, 35, 36, 37, 38, 39, 40, 41, 42, 43, 44, 45, 46, 47, 48, 49, 50, 51, 52, 53, 54, 55] (by decide +kernel) (by decide +kernel)
set_option maxRecDepth 20000 in
theorem gX3_keyAt_X3_has : GoodIn wsX3_keyAt (wsV RX3 118 RX3 yX3_has wsX3_has) := goodIn_app (goodIn_of _ (by decide +kernel)) ggX3_keyAt_X3_has
set_option maxRecDepth 20000 in
theorem ggX3_keyAt_X3_fail : GoodIn wsX3_keyAt wsX3_fail := goodIn_r _ [15, 1, 32, 33, 34, 35, 36, 37, 38, 39, 40, 41, 42, 43, 44, 45, 46, 47, 48, 49, 50, 51, 52, 53, 54, 55] (by decide +kernel) (by decide +kernel)
set_option maxRecDepth 20000 in
theorem gX3_keyAt_X3_fail : GoodIn wsX3_keyAt (wsV RX3 157 RX3 yX3_fail wsX3_fail) := goodIn_app (goodIn_of _ (by decide +kernel)) ggX3_keyAt_X3_fail
set_option maxRecDepth 20000 in
theorem ggX3_keyAt_X3_clear : GoodIn wsX3_keyAt wsX3_clear := goodIn_r _ [19, 3, 32, 33, 34, 35, 36, 37, 38, 39, 40, 41, 42, 43, 44, 45, 46, 47, 48, 49, 50, 51, 52, 53, 54, 55] (by decide +kernel) (by decide +kernel)
set_option maxRecDepth 20000 in
theorem gX3_keyAt_X3_clear : GoodIn wsX3_keyAt (wsV RX3 154 RX3 yX3_clear wsX3_clear) := goodIn_app (goodIn_of _ (by decide +kernel)) ggX3_keyAt_X3_clear
set_option maxRecDepth 20000 in
theorem ggX3_keyAt_X3_mark : GoodIn wsX3_keyAt wsX3_mark := goodIn_r _ [23, 24, 25, 26, 27, 32, 33, 34, 35, 36, 37, 38, 39, 40, 41, 42, 43, 44, 45, 46, 47, 48, 49, 50, 51, 52, 53, 54, 55] (by decide +kernel) (by decide +kernel)
set_option maxRecDepth 20000 in
theorem gX3_keyAt_X3_mark : GoodIn wsX3_keyAt (wsV RX3 60 RX3 yX3_mark wsX3_mark) := goodIn_app (goodIn_of _ (by decide +kernel)) ggX3_keyAt_X3_mark
set_option maxRecDepth 20000 in
theorem ggX3_keyAt_X3_rank : GoodIn wsX3_keyAt wsX3_rank := goodIn_r _ [31, 3, 4, 32, 33, 34, 35, 36, 37, 38, 39, 40, 41, 42, 43, 44, 45, 46, 47, 48, 49, 50, 51, 52, 53, 54, 55] (by decide +kernel) (by decide +kernel)
set_option maxRecDepth 20000 in
theorem gX3_keyAt_X3_rank : GoodIn wsX3_keyAt (wsV RX3 160 RX3 yX3_rank wsX3_rank) := goodIn_app (goodIn_of _ (by decide +kernel)) ggX3_keyAt_X3_rank
theorem dX3_keyAt_0 : decode cX3_keyAt 0 = .ok (.aload_n 0, 1) := by decide +kernel
theorem dX3_keyAt_1 : decode cX3_keyAt 1 = .ok (.iconst 0, 1) := by decide +kernel
theorem dX3_keyAt_2 : decode cX3_keyAt 2 = .ok (.putfield 54, 3) := by decide +kernel
theorem dX3_keyAt_5 : decode cX3_keyAt 5 = .ok (.aload_n 0, 1) := by decide +kernel
theorem dX3_keyAt_6 : decode cX3_keyAt 6 = .ok (.iload_n 1, 1) := by decide +kernel
theorem dX3_keyAt_7 : decode cX3_keyAt 7 = .ok (.invokevirtual 118, 3) := by decide +kernel
theorem dX3_keyAt_10 : decode cX3_keyAt 10 = .ok (.ifCond .ne 9, 3) := by decide +kernel
theorem dX3_keyAt_13 : decode cX3_keyAt 13 = .ok (.aload_n 0, 1) := by decide +kernel
theorem dX3_keyAt_14 : decode cX3_keyAt 14 = .ok (.iconst 1, 1) := by decide +kernel
theorem dX3_keyAt_15 : decode cX3_keyAt 15 = .ok (.invokevirtual 157, 3) := by decide +kernel
theorem dX3_keyAt_18 : decode cX3_keyAt 18 = .ok (.ireturn, 1) := by decide +kernel
theorem dX3_keyAt_19 : decode cX3_keyAt 19 = .ok (.aload_n 0, 1) := by decide +kernel
theorem dX3_keyAt_20 : decode cX3_keyAt 20 = .ok (.invokevirtual 154, 3) := by decide +kernel
theorem dX3_keyAt_23 : decode cX3_keyAt 23 = .ok (.aload_n 0, 1) := by decide +kernel
theorem dX3_keyAt_24 : decode cX3_keyAt 24 = .ok (.aload_n 0, 1) := by decide +kernel
theorem dX3_keyAt_25 : decode cX3_keyAt 25 = .ok (.getfield 38, 3) := by decide +kernel
theorem dX3_keyAt_28 : decode cX3_keyAt 28 = .ok (.iload_n 1, 1) := by decide +kernel
theorem dX3_keyAt_29 : decode cX3_keyAt 29 = .ok (.iaload, 1) := by decide +kernel
theorem dX3_keyAt_30 : decode cX3_keyAt 30 = .ok (.aload_n 0, 1) := by decide +kernel
theorem dX3_keyAt_31 : decode cX3_keyAt 31 = .ok (.getfield 29, 3) := by decide +kernel
theorem dX3_keyAt_34 : decode cX3_keyAt 34 = .ok (.invokevirtual 60, 3) := by decide +kernel
theorem dX3_keyAt_37 : decode cX3_keyAt 37 = .ok (.pop, 1) := by decide +kernel
theorem dX3_keyAt_38 : decode cX3_keyAt 38 = .ok (.iconst 0, 1) := by decide +kernel
theorem dX3_keyAt_39 : decode cX3_keyAt 39 = .ok (.istore_n 3, 1) := by decide +kernel
theorem dX3_keyAt_40 : decode cX3_keyAt 40 = .ok (.iload_n 3, 1) := by decide +kernel
theorem dX3_keyAt_41 : decode cX3_keyAt 41 = .ok (.sipush 160, 3) := by decide +kernel
theorem dX3_keyAt_44 : decode cX3_keyAt 44 = .ok (.if_icmp .ge 39, 3) := by decide +kernel
theorem dX3_keyAt_47 : decode cX3_keyAt 47 = .ok (.aload_n 0, 1) := by decide +kernel
theorem dX3_keyAt_48 : decode cX3_keyAt 48 = .ok (.getfield 29, 3) := by decide +kernel
theorem dX3_keyAt_51 : decode cX3_keyAt 51 = .ok (.iload_n 3, 1) := by decide +kernel
theorem dX3_keyAt_52 : decode cX3_keyAt 52 = .ok (.baload, 1) := by decide +kernel
theorem dX3_keyAt_53 : decode cX3_keyAt 53 = .ok (.ifCond .eq 24, 3) := by decide +kernel
theorem dX3_keyAt_56 : decode cX3_keyAt 56 = .ok (.aload_n 0, 1) := by decide +kernel
theorem dX3_keyAt_57 : decode cX3_keyAt 57 = .ok (.aload_n 0, 1) := by decide +kernel
theorem dX3_keyAt_58 : decode cX3_keyAt 58 = .ok (.getfield 7, 3) := by decide +kernel
theorem dX3_keyAt_61 : decode cX3_keyAt 61 = .ok (.iload_n 3, 1) := by decide +kernel
theorem dX3_keyAt_62 : decode cX3_keyAt 62 = .ok (.iaload, 1) := by decide +kernel
theorem dX3_keyAt_63 : decode cX3_keyAt 63 = .ok (.invokevirtual 160, 3) := by decide +kernel
theorem dX3_keyAt_66 : decode cX3_keyAt 66 = .ok (.iload_n 2, 1) := by decide +kernel
theorem dX3_keyAt_67 : decode cX3_keyAt 67 = .ok (.if_icmp .ne 10, 3) := by decide +kernel
theorem dX3_keyAt_70 : decode cX3_keyAt 70 = .ok (.aload_n 0, 1) := by decide +kernel
theorem dX3_keyAt_71 : decode cX3_keyAt 71 = .ok (.getfield 7, 3) := by decide +kernel
theorem dX3_keyAt_74 : decode cX3_keyAt 74 = .ok (.iload_n 3, 1) := by decide +kernel
theorem dX3_keyAt_75 : decode cX3_keyAt 75 = .ok (.iaload, 1) := by decide +kernel
theorem dX3_keyAt_76 : decode cX3_keyAt 76 = .ok (.ireturn, 1) := by decide +kernel
theorem dX3_keyAt_77 : decode cX3_keyAt 77 = .ok (.iinc 3 1, 3) := by decide +kernel
theorem dX3_keyAt_80 : decode cX3_keyAt 80 = .ok (.goto (-40), 3) := by decide +kernel
theorem dX3_keyAt_83 : decode cX3_keyAt 83 = .ok (.aload_n 0, 1) := by decide +kernel
theorem dX3_keyAt_84 : decode cX3_keyAt 84 = .ok (.iconst 2, 1) := by decide +kernel
theorem dX3_keyAt_85 : decode cX3_keyAt 85 = .ok (.invokevirtual 157, 3) := by decide +kernel
theorem dX3_keyAt_88 : decode cX3_keyAt 88 = .ok (.ireturn, 1) := by decide +kernel
set_option maxRecDepth 20000 in
theorem ggX3_sum_X3_clear : GoodIn wsX3_sum wsX3_clear := goodIn_r _ [10, 3, 25, 26, 27, 28, 29, 30, 31, 32, 33, 34, 35, 36, 37, 38, 39, 40, 41, 42, 43, 44, 45, 46, 47, 48] (by decide +kernel) (by decide +kernel)
set_option maxRecDepth 20000 in
theorem gX3_sum_X3_clear : GoodIn wsX3_sum (wsV RX3 154 RX3 yX3_clear wsX3_clear) := goodIn_app (goodIn_of _ (by decide +kernel)) ggX3_sum_X3_clear
set_option maxRecDepth 20000 in
theorem ggX3_sum_X3_has : GoodIn wsX3_sum wsX3_has := goodIn_r _ [14, 15, 16, 25, 26, 27, 28, 29, 30, 31, 32, 33, 34, 35, 36, 37, 38, 39, 40, 41, 42, 43, 44, 45, 46, 47, 48] (by decide +kernel) (by decide +kernel)
set_option maxRecDepth 20000 in
theorem gX3_sum_X3_has : GoodIn wsX3_sum (wsV RX3 118 RX3 yX3_has wsX3_has) := goodIn_app (goodIn_of _ (by decide +kernel)) ggX3_sum_X3_has
set_option maxRecDepth 20000 in
theorem ggX3_sum_X3_mark : GoodIn wsX3_sum wsX3_mark := goodIn_r _ [20, 21, 22, 23, 24, 25, 26, 27, 28, 29, 30, 31, 32, 33, 34, 35, 36, 37, 38, 39, 40, 41, 42, 43, 44, 45, 46, 47, 48] (by decide +kernel) (by decide +kernel)
set_option maxRecDepth 20000 in
theorem gX3_sum_X3_mark : GoodIn wsX3_sum (wsV RX3 60 RX3 yX3_mark wsX3_mark) := goodIn_app (goodIn_of _ (by decide +kernel)) ggX3_sum_X3_mark
theorem dX3_sum_0 : decode cX3_sum 0 = .ok (.aload_n 0, 1) := by decide +kernel
theorem dX3_sum_1 : decode cX3_sum 1 = .ok (.iconst 0, 1) := by decide +kernel
theorem dX3_sum_2 : decode cX3_sum 2 = .ok (.putfield 54, 3) := by decide +kernel
theorem dX3_sum_5 : decode cX3_sum 5 = .ok (.aload_n 0, 1) := by decide +kernel
theorem dX3_sum_6 : decode cX3_sum 6 = .ok (.invokevirtual 154, 3) := by decide +kernel
theorem dX3_sum_9 : decode cX3_sum 9 = .ok (.aload_n 0, 1) := by decide +kernel
theorem dX3_sum_10 : decode cX3_sum 10 = .ok (.iload_n 1, 1) := by decide +kernel
theorem dX3_sum_11 : decode cX3_sum 11 = .ok (.invokevirtual 118, 3) := by decide +kernel
theorem dX3_sum_14 : decode cX3_sum 14 = .ok (.ifCond .eq 20, 3) := by decide +kernel
theorem dX3_sum_17 : decode cX3_sum 17 = .ok (.aload_n 0, 1) := by decide +kernel
theorem dX3_sum_18 : decode cX3_sum 18 = .ok (.aload_n 0, 1) := by decide +kernel
theorem dX3_sum_19 : decode cX3_sum 19 = .ok (.getfield 38, 3) := by decide +kernel
theorem dX3_sum_22 : decode cX3_sum 22 = .ok (.iload_n 1, 1) := by decide +kernel
theorem dX3_sum_23 : decode cX3_sum 23 = .ok (.iaload, 1) := by decide +kernel
theorem dX3_sum_24 : decode cX3_sum 24 = .ok (.aload_n 0, 1) := by decide +kernel
theorem dX3_sum_25 : decode cX3_sum 25 = .ok (.getfield 29, 3) := by decide +kernel
theorem dX3_sum_28 : decode cX3_sum 28 = .ok (.invokevirtual 60, 3) := by decide +kernel
theorem dX3_sum_31 : decode cX3_sum 31 = .ok (.goto 4, 3) := by decide +kernel
theorem dX3_sum_34 : decode cX3_sum 34 = .ok (.iconst 0, 1) := by decide +kernel
theorem dX3_sum_35 : decode cX3_sum 35 = .ok (.istore 4, 2) := by decide +kernel
theorem dX3_sum_37 : decode cX3_sum 37 = .ok (.lconst 0, 1) := by decide +kernel
theorem dX3_sum_38 : decode cX3_sum 38 = .ok (.lstore 5, 2) := by decide +kernel
theorem dX3_sum_40 : decode cX3_sum 40 = .ok (.iconst 0, 1) := by decide +kernel
theorem dX3_sum_41 : decode cX3_sum 41 = .ok (.istore 7, 2) := by decide +kernel
theorem dX3_sum_43 : decode cX3_sum 43 = .ok (.iload 7, 2) := by decide +kernel
theorem dX3_sum_45 : decode cX3_sum 45 = .ok (.sipush 160, 3) := by decide +kernel
theorem dX3_sum_48 : decode cX3_sum 48 = .ok (.if_icmp .ge 64, 3) := by decide +kernel
theorem dX3_sum_51 : decode cX3_sum 51 = .ok (.iload 4, 2) := by decide +kernel
theorem dX3_sum_53 : decode cX3_sum 53 = .ok (.ifCond .le 59, 3) := by decide +kernel
theorem dX3_sum_56 : decode cX3_sum 56 = .ok (.aload_n 0, 1) := by decide +kernel
theorem dX3_sum_57 : decode cX3_sum 57 = .ok (.getfield 29, 3) := by decide +kernel
theorem dX3_sum_60 : decode cX3_sum 60 = .ok (.iload 7, 2) := by decide +kernel
theorem dX3_sum_62 : decode cX3_sum 62 = .ok (.baload, 1) := by decide +kernel
theorem dX3_sum_63 : decode cX3_sum 63 = .ok (.ifCond .eq 39, 3) := by decide +kernel
theorem dX3_sum_66 : decode cX3_sum 66 = .ok (.aload_n 0, 1) := by decide +kernel
theorem dX3_sum_67 : decode cX3_sum 67 = .ok (.getfield 7, 3) := by decide +kernel
theorem dX3_sum_70 : decode cX3_sum 70 = .ok (.iload 7, 2) := by decide +kernel
theorem dX3_sum_72 : decode cX3_sum 72 = .ok (.iaload, 1) := by decide +kernel
theorem dX3_sum_73 : decode cX3_sum 73 = .ok (.iload_n 2, 1) := by decide +kernel
theorem dX3_sum_74 : decode cX3_sum 74 = .ok (.if_icmp .lt 28, 3) := by decide +kernel
theorem dX3_sum_77 : decode cX3_sum 77 = .ok (.aload_n 0, 1) := by decide +kernel
theorem dX3_sum_78 : decode cX3_sum 78 = .ok (.getfield 7, 3) := by decide +kernel
theorem dX3_sum_81 : decode cX3_sum 81 = .ok (.iload 7, 2) := by decide +kernel
theorem dX3_sum_83 : decode cX3_sum 83 = .ok (.iaload, 1) := by decide +kernel
theorem dX3_sum_84 : decode cX3_sum 84 = .ok (.iload_n 3, 1) := by decide +kernel
theorem dX3_sum_85 : decode cX3_sum 85 = .ok (.if_icmp .gt 17, 3) := by decide +kernel
theorem dX3_sum_88 : decode cX3_sum 88 = .ok (.lload 5, 2) := by decide +kernel
theorem dX3_sum_90 : decode cX3_sum 90 = .ok (.aload_n 0, 1) := by decide +kernel
theorem dX3_sum_91 : decode cX3_sum 91 = .ok (.getfield 13, 3) := by decide +kernel
theorem dX3_sum_94 : decode cX3_sum 94 = .ok (.iload 7, 2) := by decide +kernel
theorem dX3_sum_96 : decode cX3_sum 96 = .ok (.iaload, 1) := by decide +kernel
theorem dX3_sum_97 : decode cX3_sum 97 = .ok (.i2l, 1) := by decide +kernel
theorem dX3_sum_98 : decode cX3_sum 98 = .ok (.ladd, 1) := by decide +kernel
theorem dX3_sum_99 : decode cX3_sum 99 = .ok (.goto 5, 3) := by decide +kernel
theorem dX3_sum_102 : decode cX3_sum 102 = .ok (.lload 5, 2) := by decide +kernel
theorem dX3_sum_104 : decode cX3_sum 104 = .ok (.lstore 5, 2) := by decide +kernel
theorem dX3_sum_106 : decode cX3_sum 106 = .ok (.iinc 7 1, 3) := by decide +kernel
theorem dX3_sum_109 : decode cX3_sum 109 = .ok (.goto (-66), 3) := by decide +kernel
theorem dX3_sum_112 : decode cX3_sum 112 = .ok (.lload 5, 2) := by decide +kernel
theorem dX3_sum_114 : decode cX3_sum 114 = .ok (.lreturn, 1) := by decide +kernel
set_option maxRecDepth 20000 in
theorem ggX3_depth_X3_has : GoodIn wsX3_depth wsX3_has := goodIn_r _ [8, 9, 10, 23, 24, 25, 26, 27, 28, 29, 30, 31, 32, 33, 34, 35, 36, 37, 38, 39, 40, 41, 42, 43, 44, 45, 46] (by decide +kernel) (by decide +kernel)
set_option maxRecDepth 20000 in
theorem gX3_depth_X3_has : GoodIn wsX3_depth (wsV RX3 118 RX3 yX3_has wsX3_has) := goodIn_app (goodIn_of _ (by decide +kernel)) ggX3_depth_X3_has
set_option maxRecDepth 20000 in
theorem ggX3_depth_X3_find : GoodIn wsX3_depth wsX3_find := goodIn_r _ [14, 15, 16, 17, 23, 24, 25, 26, 27, 28, 29, 30, 31, 32, 33, 34, 35, 36, 37, 38, 39, 40, 41, 42, 43, 44, 45, 46] (by decide +kernel) (by decide +kernel)
set_option maxRecDepth 20000 in
theorem gX3_depth_X3_find : GoodIn wsX3_depth (wsV RX3 127 RX3 yX3_find wsX3_find) := goodIn_app (goodIn_of _ (by decide +kernel)) ggX3_depth_X3_find
set_option maxRecDepth 20000 in
theorem ggX3_depth_X3_go : GoodIn wsX3_depth wsX3_go := goodIn_r _ [21, 3, 22, 15, 16, 17, 23, 24, 25, 26, 27, 28, 29, 30, 31, 32, 33, 34, 35, 36, 37, 38, 39, 40, 41, 42, 43, 44, 45, 46] (by decide +kernel) (by decide +kernel)
set_option maxRecDepth 20000 in
theorem gX3_depth_X3_go : GoodIn wsX3_depth (wsV RX3 131 RX3 yX3_go wsX3_go) := goodIn_app (goodIn_of _ (by decide +kernel)) ggX3_depth_X3_go
theorem dX3_depth_0 : decode cX3_depth 0 = .ok (.aload_n 0, 1) := by decide +kernel
theorem dX3_depth_1 : decode cX3_depth 1 = .ok (.iload_n 1, 1) := by decide +kernel
theorem dX3_depth_2 : decode cX3_depth 2 = .ok (.invokevirtual 118, 3) := by decide +kernel
theorem dX3_depth_5 : decode cX3_depth 5 = .ok (.ifCond .eq 17, 3) := by decide +kernel
theorem dX3_depth_8 : decode cX3_depth 8 = .ok (.aload_n 0, 1) := by decide +kernel
theorem dX3_depth_9 : decode cX3_depth 9 = .ok (.aload_n 0, 1) := by decide +kernel
theorem dX3_depth_10 : decode cX3_depth 10 = .ok (.getfield 38, 3) := by decide +kernel
theorem dX3_depth_13 : decode cX3_depth 13 = .ok (.iload_n 1, 1) := by decide +kernel
theorem dX3_depth_14 : decode cX3_depth 14 = .ok (.iaload, 1) := by decide +kernel
theorem dX3_depth_15 : decode cX3_depth 15 = .ok (.iload_n 2, 1) := by decide +kernel
theorem dX3_depth_16 : decode cX3_depth 16 = .ok (.invokevirtual 127, 3) := by decide +kernel
theorem dX3_depth_19 : decode cX3_depth 19 = .ok (.goto 4, 3) := by decide +kernel
theorem dX3_depth_22 : decode cX3_depth 22 = .ok (.iconst (-1), 1) := by decide +kernel
theorem dX3_depth_23 : decode cX3_depth 23 = .ok (.istore_n 3, 1) := by decide +kernel
theorem dX3_depth_24 : decode cX3_depth 24 = .ok (.aload_n 0, 1) := by decide +kernel
theorem dX3_depth_25 : decode cX3_depth 25 = .ok (.iload_n 3, 1) := by decide +kernel
theorem dX3_depth_26 : decode cX3_depth 26 = .ok (.ifCond .ge 7, 3) := by decide +kernel
theorem dX3_depth_29 : decode cX3_depth 29 = .ok (.iconst 1, 1) := by decide +kernel
theorem dX3_depth_30 : decode cX3_depth 30 = .ok (.goto 4, 3) := by decide +kernel
theorem dX3_depth_33 : decode cX3_depth 33 = .ok (.iconst 0, 1) := by decide +kernel
theorem dX3_depth_34 : decode cX3_depth 34 = .ok (.putfield 54, 3) := by decide +kernel
theorem dX3_depth_37 : decode cX3_depth 37 = .ok (.iload_n 3, 1) := by decide +kernel
theorem dX3_depth_38 : decode cX3_depth 38 = .ok (.ifCond .ge 5, 3) := by decide +kernel
theorem dX3_depth_41 : decode cX3_depth 41 = .ok (.iconst 0, 1) := by decide +kernel
theorem dX3_depth_42 : decode cX3_depth 42 = .ok (.ireturn, 1) := by decide +kernel
theorem dX3_depth_43 : decode cX3_depth 43 = .ok (.aload_n 0, 1) := by decide +kernel
theorem dX3_depth_44 : decode cX3_depth 44 = .ok (.aload_n 0, 1) := by decide +kernel
theorem dX3_depth_45 : decode cX3_depth 45 = .ok (.getfield 38, 3) := by decide +kernel
theorem dX3_depth_48 : decode cX3_depth 48 = .ok (.iload_n 1, 1) := by decide +kernel
theorem dX3_depth_49 : decode cX3_depth 49 = .ok (.iaload, 1) := by decide +kernel
theorem dX3_depth_50 : decode cX3_depth 50 = .ok (.iload_n 2, 1) := by decide +kernel
theorem dX3_depth_51 : decode cX3_depth 51 = .ok (.iconst 1, 1) := by decide +kernel
theorem dX3_depth_52 : decode cX3_depth 52 = .ok (.invokevirtual 131, 3) := by decide +kernel
theorem dX3_depth_55 : decode cX3_depth 55 = .ok (.aload_n 0, 1) := by decide +kernel
theorem dX3_depth_56 : decode cX3_depth 56 = .ok (.getfield 88, 3) := by decide +kernel
theorem dX3_depth_59 : decode cX3_depth 59 = .ok (.iconst 1, 1) := by decide +kernel
theorem dX3_depth_60 : decode cX3_depth 60 = .ok (.isub, 1) := by decide +kernel
theorem dX3_depth_61 : decode cX3_depth 61 = .ok (.ireturn, 1) := by decide +kernel
set_option maxRecDepth 20000 in
theorem ggX3_shared_X3_has : GoodIn wsX3_shared wsX3_has := goodIn_r _ [8, 9, 10, 31, 32, 33, 34, 35, 36, 37, 38, 39, 40, 41, 42, 43, 44, 45, 46, 47, 48, 49, 50, 51, 52, 53, 54] (by decide +kernel) (by decide +kernel)
set_option maxRecDepth 20000 in
theorem gX3_shared_X3_has : GoodIn wsX3_shared (wsV RX3 118 RX3 yX3_has wsX3_has) := goodIn_app (goodIn_of _ (by decide +kernel)) ggX3_shared_X3_has
set_option maxRecDepth 20000 in
theorem ggX3_shared_X3_clear : GoodIn wsX3_shared wsX3_clear := goodIn_r _ [14, 3, 31, 32, 33, 34, 35, 36, 37, 38, 39, 40, 41, 42, 43, 44, 45, 46, 47, 48, 49, 50, 51, 52, 53, 54] (by decide +kernel) (by decide +kernel)
set_option maxRecDepth 20000 in
theorem gX3_shared_X3_clear : GoodIn wsX3_shared (wsV RX3 154 RX3 yX3_clear wsX3_clear) := goodIn_app (goodIn_of _ (by decide +kernel)) ggX3_shared_X3_clear
set_option maxRecDepth 20000 in
theorem ggX3_shared_X3_mark : GoodIn wsX3_shared wsX3_mark := goodIn_r _ [18, 19, 20, 21, 22, 31, 32, 33, 34, 35, 36, 37, 38, 39, 40, 41, 42, 43, 44, 45, 46, 47, 48, 49, 50, 51, 52, 53, 54] (by decide +kernel) (by decide +kernel)
set_option maxRecDepth 20000 in
theorem gX3_shared_X3_mark : GoodIn wsX3_shared (wsV RX3 60 RX3 yX3_mark wsX3_mark) := goodIn_app (goodIn_of _ (by decide +kernel)) ggX3_shared_X3_mark
set_option maxRecDepth 20000 in
theorem ggX3_shared_X3_size : GoodIn wsX3_shared wsX3_size := goodIn_r _ [26, 1, 2, 3, 11, 12, 13, 7, 14, 4, 5, 6, 8, 9, 10, 15, 16, 17, 18, 19, 20, 21, 22, 31, 32, 33, 34, 35, 36, 37, 38, 39, 40, 41, 42, 43, 44, 45, 46, 47, 48, 49, 50, 51, 52, 53, 54] (by decide +kernel) (by decide +kernel)
set_option maxRecDepth 20000 in
theorem gX3_shared_X3_size : GoodIn wsX3_shared (wsV RX3 163 RX3 yX3_size wsX3_size) := goodIn_app (goodIn_of _ (by decide +kernel)) ggX3_shared_X3_size
set_option maxRecDepth 20000 in
theorem ggX3_shared_X3_union : GoodIn wsX3_shared wsX3_union := goodIn_r _ [30, 2, 3, 11, 12, 13, 7, 14, 15, 16, 17, 18, 19, 20, 21, 22, 31, 32, 33, 34, 35, 36, 37, 38, 39, 40, 41, 42, 43, 44, 45, 46, 47, 48, 49, 50, 51, 52, 53, 54] (by decide +kernel) (by decide +kernel)
set_option maxRecDepth 20000 in
theorem gX3_shared_X3_union : GoodIn wsX3_shared (wsV RX3 166 RX3 yX3_union wsX3_union) := goodIn_app (goodIn_of _ (by decide +kernel)) ggX3_shared_X3_union
theorem dX3_shared_0 : decode cX3_shared 0 = .ok (.aload_n 0, 1) := by decide +kernel
theorem dX3_shared_1 : decode cX3_shared 1 = .ok (.iconst 0, 1) := by decide +kernel
theorem dX3_shared_2 : decode cX3_shared 2 = .ok (.putfield 54, 3) := by decide +kernel
theorem dX3_shared_5 : decode cX3_shared 5 = .ok (.aload_n 0, 1) := by decide +kernel
theorem dX3_shared_6 : decode cX3_shared 6 = .ok (.iload_n 1, 1) := by decide +kernel
theorem dX3_shared_7 : decode cX3_shared 7 = .ok (.invokevirtual 118, 3) := by decide +kernel
theorem dX3_shared_10 : decode cX3_shared 10 = .ok (.ifCond .eq 11, 3) := by decide +kernel
theorem dX3_shared_13 : decode cX3_shared 13 = .ok (.aload_n 0, 1) := by decide +kernel
theorem dX3_shared_14 : decode cX3_shared 14 = .ok (.iload_n 2, 1) := by decide +kernel
theorem dX3_shared_15 : decode cX3_shared 15 = .ok (.invokevirtual 118, 3) := by decide +kernel
theorem dX3_shared_18 : decode cX3_shared 18 = .ok (.ifCond .ne 5, 3) := by decide +kernel
theorem dX3_shared_21 : decode cX3_shared 21 = .ok (.iconst (-1), 1) := by decide +kernel
theorem dX3_shared_22 : decode cX3_shared 22 = .ok (.ireturn, 1) := by decide +kernel
theorem dX3_shared_23 : decode cX3_shared 23 = .ok (.aload_n 0, 1) := by decide +kernel
theorem dX3_shared_24 : decode cX3_shared 24 = .ok (.invokevirtual 154, 3) := by decide +kernel
theorem dX3_shared_27 : decode cX3_shared 27 = .ok (.aload_n 0, 1) := by decide +kernel
theorem dX3_shared_28 : decode cX3_shared 28 = .ok (.aload_n 0, 1) := by decide +kernel
theorem dX3_shared_29 : decode cX3_shared 29 = .ok (.getfield 38, 3) := by decide +kernel
theorem dX3_shared_32 : decode cX3_shared 32 = .ok (.iload_n 1, 1) := by decide +kernel
theorem dX3_shared_33 : decode cX3_shared 33 = .ok (.iaload, 1) := by decide +kernel
theorem dX3_shared_34 : decode cX3_shared 34 = .ok (.aload_n 0, 1) := by decide +kernel
theorem dX3_shared_35 : decode cX3_shared 35 = .ok (.getfield 29, 3) := by decide +kernel
theorem dX3_shared_38 : decode cX3_shared 38 = .ok (.invokevirtual 60, 3) := by decide +kernel
theorem dX3_shared_41 : decode cX3_shared 41 = .ok (.istore_n 3, 1) := by decide +kernel
theorem dX3_shared_42 : decode cX3_shared 42 = .ok (.iload_n 3, 1) := by decide +kernel
theorem dX3_shared_43 : decode cX3_shared 43 = .ok (.aload_n 0, 1) := by decide +kernel
theorem dX3_shared_44 : decode cX3_shared 44 = .ok (.iload_n 2, 1) := by decide +kernel
theorem dX3_shared_45 : decode cX3_shared 45 = .ok (.invokevirtual 163, 3) := by decide +kernel
theorem dX3_shared_48 : decode cX3_shared 48 = .ok (.iadd, 1) := by decide +kernel
theorem dX3_shared_49 : decode cX3_shared 49 = .ok (.aload_n 0, 1) := by decide +kernel
theorem dX3_shared_50 : decode cX3_shared 50 = .ok (.iload_n 1, 1) := by decide +kernel
theorem dX3_shared_51 : decode cX3_shared 51 = .ok (.iload_n 2, 1) := by decide +kernel
theorem dX3_shared_52 : decode cX3_shared 52 = .ok (.invokevirtual 166, 3) := by decide +kernel
theorem dX3_shared_55 : decode cX3_shared 55 = .ok (.isub, 1) := by decide +kernel
theorem dX3_shared_56 : decode cX3_shared 56 = .ok (.ireturn, 1) := by decide +kernel
set_option maxRecDepth 20000 in
theorem ggX3_union_X3_clear : GoodIn wsX3_union wsX3_clear := goodIn_r _ [7, 2, 16, 17, 18, 19, 20, 21, 22, 23, 24, 25, 26, 27, 28, 29, 30, 31, 32, 33, 34, 35, 36, 37, 38, 39] (by decide +kernel) (by decide +kernel)
set_option maxRecDepth 20000 in
theorem gX3_union_X3_clear : GoodIn wsX3_union (wsV RX3 154 RX3 yX3_clear wsX3_clear) := goodIn_app (goodIn_of _ (by decide +kernel)) ggX3_union_X3_clear
set_option maxRecDepth 20000 in
theorem ggX3_union_X3_mark : GoodIn wsX3_union wsX3_mark := goodIn_r _ [11, 12, 13, 14, 15, 16, 17, 18, 19, 20, 21, 22, 23, 24, 25, 26, 27, 28, 29, 30, 31, 32, 33, 34, 35, 36, 37, 38, 39] (by decide +kernel) (by decide +kernel)
set_option maxRecDepth 20000 in
theorem gX3_union_X3_mark : GoodIn wsX3_union (wsV RX3 60 RX3 yX3_mark wsX3_mark) := goodIn_app (goodIn_of _ (by decide +kernel)) ggX3_union_X3_mark
theorem dX3_union_0 : decode cX3_union 0 = .ok (.aload_n 0, 1) := by decide +kernel
theorem dX3_union_1 : decode cX3_union 1 = .ok (.invokevirtual 154, 3) := by decide +kernel
theorem dX3_union_4 : decode cX3_union 4 = .ok (.aload_n 0, 1) := by decide +kernel
theorem dX3_union_5 : decode cX3_union 5 = .ok (.aload_n 0, 1) := by decide +kernel
theorem dX3_union_6 : decode cX3_union 6 = .ok (.getfield 38, 3) := by decide +kernel
theorem dX3_union_9 : decode cX3_union 9 = .ok (.iload_n 1, 1) := by decide +kernel
theorem dX3_union_10 : decode cX3_union 10 = .ok (.iaload, 1) := by decide +kernel
theorem dX3_union_11 : decode cX3_union 11 = .ok (.aload_n 0, 1) := by decide +kernel
theorem dX3_union_12 : decode cX3_union 12 = .ok (.getfield 29, 3) := by decide +kernel
theorem dX3_union_15 : decode cX3_union 15 = .ok (.invokevirtual 60, 3) := by decide +kernel
theorem dX3_union_18 : decode cX3_union 18 = .ok (.aload_n 0, 1) := by decide +kernel
theorem dX3_union_19 : decode cX3_union 19 = .ok (.aload_n 0, 1) := by decide +kernel
theorem dX3_union_20 : decode cX3_union 20 = .ok (.getfield 38, 3) := by decide +kernel
theorem dX3_union_23 : decode cX3_union 23 = .ok (.iload_n 2, 1) := by decide +kernel
theorem dX3_union_24 : decode cX3_union 24 = .ok (.iaload, 1) := by decide +kernel
theorem dX3_union_25 : decode cX3_union 25 = .ok (.aload_n 0, 1) := by decide +kernel
theorem dX3_union_26 : decode cX3_union 26 = .ok (.getfield 29, 3) := by decide +kernel
theorem dX3_union_29 : decode cX3_union 29 = .ok (.invokevirtual 60, 3) := by decide +kernel
theorem dX3_union_32 : decode cX3_union 32 = .ok (.iadd, 1) := by decide +kernel
theorem dX3_union_33 : decode cX3_union 33 = .ok (.ireturn, 1) := by decide +kernel
set_option maxRecDepth 20000 in
theorem ggX3_nodes_X3_markAll : GoodIn wsX3_nodes wsX3_markAll := goodIn_r _ [6, 7, 8, 9, 10, 11, 12, 13, 5, 14, 15, 16, 17, 18, 19, 20, 21, 22, 23, 24, 25, 26, 27, 28, 29, 30, 31, 32, 33, 34, 35, 36, 37, 38, 39, 40, 41, 42] (by decide +kernel) (by decide +kernel)
set_option maxRecDepth 20000 in
theorem gX3_nodes_X3_markAll : GoodIn wsX3_nodes (wsV RX3 64 RX3 yX3_markAll wsX3_markAll) := goodIn_app (goodIn_of _ (by decide +kernel)) ggX3_nodes_X3_markAll
theorem dX3_nodes_0 : decode cX3_nodes 0 = .ok (.aload_n 0, 1) := by decide +kernel
theorem dX3_nodes_1 : decode cX3_nodes 1 = .ok (.iconst 0, 1) := by decide +kernel
theorem dX3_nodes_2 : decode cX3_nodes 2 = .ok (.putfield 54, 3) := by decide +kernel
theorem dX3_nodes_5 : decode cX3_nodes 5 = .ok (.aload_n 0, 1) := by decide +kernel
theorem dX3_nodes_6 : decode cX3_nodes 6 = .ok (.invokevirtual 64, 3) := by decide +kernel
theorem dX3_nodes_9 : decode cX3_nodes 9 = .ok (.ireturn, 1) := by decide +kernel
theorem dX3_used_0 : decode cX3_used 0 = .ok (.aload_n 0, 1) := by decide +kernel
theorem dX3_used_1 : decode cX3_used 1 = .ok (.iconst 0, 1) := by decide +kernel
theorem dX3_used_2 : decode cX3_used 2 = .ok (.putfield 54, 3) := by decide +kernel
theorem dX3_used_5 : decode cX3_used 5 = .ok (.aload_n 0, 1) := by decide +kernel
theorem dX3_used_6 : decode cX3_used 6 = .ok (.getfield 91, 3) := by decide +kernel
theorem dX3_used_9 : decode cX3_used 9 = .ok (.ireturn, 1) := by decide +kernel
theorem dX3_sweeps_0 : decode cX3_sweeps 0 = .ok (.aload_n 0, 1) := by decide +kernel
theorem dX3_sweeps_1 : decode cX3_sweeps 1 = .ok (.iconst 0, 1) := by decide +kernel
theorem dX3_sweeps_2 : decode cX3_sweeps 2 = .ok (.putfield 54, 3) := by decide +kernel
theorem dX3_sweeps_5 : decode cX3_sweeps 5 = .ok (.aload_n 0, 1) := by decide +kernel
theorem dX3_sweeps_6 : decode cX3_sweeps 6 = .ok (.getfield 94, 3) := by decide +kernel
theorem dX3_sweeps_9 : decode cX3_sweeps 9 = .ok (.ireturn, 1) := by decide +kernel
end
section
/-! my own base: the state of a side as rows by number, the words of a walk (what a method needs, in order), contracts over one fixed world -/
abbrev CS : Type := Nat → Nat → Int32
def cset (s : CS) (i : Nat) (f : Nat → Int32) : CS := fun j => bif Nat.beq j i then f else s j
def rdA (f : Nat → Int32) (n : Nat) (i : Int32) (K : Int32 → Prop) : Prop := vp_in i n ∧ ∀ x : Int32, x = f i.toNatClampNeg → K x
def wrA (s : CS) (j n : Nat) (i x : Int32) (K : CS → Prop) : Prop := vp_in i n ∧ ∀ s1 : CS, s1 = cset s j (upd (s j) i.toNatClampNeg x) → K s1
def wrZ (s : CS) (j n : Nat) (i x : Int32) (K : CS → Prop) : Prop := vp_in i n ∧ ∀ s1 : CS, s1 = cset s j (upd (s j) i.toNatClampNeg (vp_nar .boolean x)) → K s1
def stF (s : CS) (j : Nat) (x : Int32) (K : CS → Prop) : Prop := ∀ s1 : CS, s1 = cset s j (fun _ => x) → K s1
def brN (c A B : Prop) : Prop := (c → A) ∧ (¬ c → B)
def nmI (v : Int32) (K : Int32 → Prop) : Prop := ∀ x : Int32, x = v → K x
def nmL (v : Int64) (K : Int64 → Prop) : Prop := ∀ x : Int64, x = v → K x
def isB (x : Int32) : Prop := x = 0 ∨ x = 1
theorem isB_nar {x : Int32} (h : isB x) : narrow .boolean (.int x) = .int x := by rcases h with h | h <;> subst h <;> rfl
theorem isB_fit {x : Int32} (h : isB x) : fits .boolean (.int x) = true := by rcases h with h | h <;> subst h <;> rfl
theorem isB_0 : isB 0 := Or.inl rfl
theorem isB_1 : isB 1 := Or.inr rfl
theorem rdA.hin {f : Nat → Int32} {n : Nat} {i : Int32} {K : Int32 → Prop} (h : rdA f n i K) : vp_in i n := h.1
theorem rdA.go {f : Nat → Int32} {n : Nat} {i : Int32} {K : Int32 → Prop} (h : rdA f n i K) (x : Int32) (hx : x = f i.toNatClampNeg) : K x := h.2 x hx
theorem wrA.hin {s : CS} {j n : Nat} {i x : Int32} {K : CS → Prop} (h : wrA s j n i x K) : vp_in i n := h.1
theorem wrA.go {s : CS} {j n : Nat} {i x : Int32} {K : CS → Prop} (h : wrA s j n i x K) (s1 : CS) (hs : s1 = cset s j (upd (s j) i.toNatClampNeg x)) : K s1 := h.2 s1 hs
theorem wrZ.hin {s : CS} {j n : Nat} {i x : Int32} {K : CS → Prop} (h : wrZ s j n i x K) : vp_in i n := h.1
theorem wrZ.go {s : CS} {j n : Nat} {i x : Int32} {K : CS → Prop} (h : wrZ s j n i x K) (s1 : CS) (hs : s1 = cset s j (upd (s j) i.toNatClampNeg (vp_nar .boolean x))) : K s1 := h.2 s1 hs
theorem stF.go {s : CS} {j : Nat} {x : Int32} {K : CS → Prop} (h : stF s j x K) (s1 : CS) (hs : s1 = cset s j (fun _ => x)) : K s1 := h s1 hs
theorem brN.t {c A B : Prop} (h : brN c A B) (hc : c) : A := h.1 hc
theorem brN.f {c A B : Prop} (h : brN c A B) (hc : ¬ c) : B := h.2 hc
theorem nmI.go {v : Int32} {K : Int32 → Prop} (h : nmI v K) (x : Int32) (hx : x = v) : K x := h x hx
theorem nmL.go {v : Int64} {K : Int64 → Prop} (h : nmL v K) (x : Int64) (hx : x = v) : K x := h x hx
/-- a contract: in any heap that holds the world of u0 the method returns an int r and a world of some u, post r u -/
def CtI (l : Launch) (y : MethodName) (ws : List Cond) (rm : Room) (G : va_G) (ty : List (ClassId × FieldType)) (wf : CS → va_W) (av : List Value) (u0 : CS) (post : Int32 → CS → Prop) : Prop :=
  ∀ sz : Nat, Met l y ws rm (va_Pc av (fun U => U.heap.size = sz ∧ va_P G vwCl (wf u0) U.heap ∧ va_K G vwCl ty U ∧ va_D (fun _ => True) (wf u0))) (va_Qi post (fun u t => va_P G vwCl (wf u) t.heap ∧ va_D (va_A (wf u0) sz) (wf u)) (va_A (wf u0) sz)) 0 0 (va_A (wf u0) sz)
def CtL (l : Launch) (y : MethodName) (ws : List Cond) (rm : Room) (G : va_G) (ty : List (ClassId × FieldType)) (wf : CS → va_W) (av : List Value) (u0 : CS) (post : Int64 → CS → Prop) : Prop :=
  ∀ sz : Nat, Met l y ws rm (va_Pc av (fun U => U.heap.size = sz ∧ va_P G vwCl (wf u0) U.heap ∧ va_K G vwCl ty U ∧ va_D (fun _ => True) (wf u0))) (va_Ql post (fun u t => va_P G vwCl (wf u) t.heap ∧ va_D (va_A (wf u0) sz) (wf u)) (va_A (wf u0) sz)) 0 0 (va_A (wf u0) sz)
def CtV (l : Launch) (y : MethodName) (ws : List Cond) (rm : Room) (G : va_G) (ty : List (ClassId × FieldType)) (wf : CS → va_W) (av : List Value) (u0 : CS) (post : CS → Prop) : Prop :=
  ∀ sz : Nat, Met l y ws rm (va_Pc av (fun U => U.heap.size = sz ∧ va_P G vwCl (wf u0) U.heap ∧ va_K G vwCl ty U ∧ va_D (fun _ => True) (wf u0))) (va_Qv post (fun u t => va_P G vwCl (wf u) t.heap ∧ va_D (va_A (wf u0) sz) (wf u)) (va_A (wf u0) sz)) 0 0 (va_A (wf u0) sz)
theorem CtI.of {l : Launch} {y : MethodName} {ws ws' : List Cond} {rm : Room} {G : va_G} {ty : List (ClassId × FieldType)} {wf : CS → va_W} {av : List Value} {u0 : CS} {post : Int32 → CS → Prop} {cc : ByteArray} {maxL : Nat} {rt : FieldType}
    (hy : plainName y.cls = true) (hw : ws = Cond.code y cc maxL (some rt) :: ws') (hn : (lg_sl av).length ≤ maxL)
    (body : ∀ (p : Program) (e : Env) (s : State) (m : MethodId) (below : List Frame) (meth : Method) (c : Code) (A : Nat → Prop) (Q : State → Prop), p.tables.exec = Jvm.exec → c.code = cc → c.maxLocals = maxL → (∀ w ∈ ws, w.before av.toArray s = true) → s.vm.findClass y.cls = some m.cls → va_K G vwCl ty s → (∀ q, s.heap.size ≤ q → A q) →
      (∀ (r : Int32) (u : CS) (pc : Nat) (H : Heap) (locs : List Loc) (ls : Array Slot), decode cc pc = .ok (.ireturn, 1) → narrow rt (.int r) = .int r → post r u → va_P G vwCl (wf u) H → va_D A (wf u) → va_S A s.heap H locs → W p l e rm s m av.toArray below meth c H locs 0 0 Q (F0 m pc ls [.int r])) →
      ∀ (ls : Array Slot), lv_has ls maxL (lv_args 0 av) → va_P G vwCl (wf u0) s.heap → va_D A (wf u0) → va_S A s.heap s.heap [] → W p l e rm s m av.toArray below meth c s.heap [] 0 0 Q (F0 m 0 ls [])) :
    CtI l y ws rm G ty wf av u0 post := by
  intro sz
  refine Met.ofW (cc := cc) (maxL := maxL) (ret := some rt) hy hw ?_
  intro p e s m args below meth c s₁ B hml hv
  obtain ⟨rfl, hsz, hP, hK, hD0⟩ := hv
  have hts := atoms_spec (ws := ws) B.pre
  have hown : s.vm.findClass y.cls = some m.cls := findClass_of_methodNamed B.named
  have hr := B.returns
  have hlocks := B.notSynchronized
  subst hsz
  have hD := hD0.self (sz := s.heap.size)
  have hl := lv_entry av hn
  rw [lg_entry_eq]
  refine body p e s m below meth c (va_A (wf u0) s.heap.size) _ B.exec B.bytes hml hts hown hK (fun q h => Or.inr h) ?_ _ hl hP hD va_S.rf
  intro r u pc H locs ls hd hnr hp hP1 hD1 hS1
  exact W.zret (v := r) B.exec B.bytes hr hnr (fun t ht hW => ⟨⟨r, u, rfl, hp, by rw [ht]; exact hP1, hD1⟩, hS1.F ht⟩) hS1.2.2 hd
theorem CtL.of {l : Launch} {y : MethodName} {ws ws' : List Cond} {rm : Room} {G : va_G} {ty : List (ClassId × FieldType)} {wf : CS → va_W} {av : List Value} {u0 : CS} {post : Int64 → CS → Prop} {cc : ByteArray} {maxL : Nat}
    (hy : plainName y.cls = true) (hw : ws = Cond.code y cc maxL (some .long) :: ws') (hn : (lg_sl av).length ≤ maxL)
    (body : ∀ (p : Program) (e : Env) (s : State) (m : MethodId) (below : List Frame) (meth : Method) (c : Code) (A : Nat → Prop) (Q : State → Prop), p.tables.exec = Jvm.exec → c.code = cc → c.maxLocals = maxL → (∀ w ∈ ws, w.before av.toArray s = true) → s.vm.findClass y.cls = some m.cls → va_K G vwCl ty s → (∀ q, s.heap.size ≤ q → A q) →
      (∀ (r : Int64) (u : CS) (pc : Nat) (H : Heap) (locs : List Loc) (ls : Array Slot), decode cc pc = .ok (.lreturn, 1) → post r u → va_P G vwCl (wf u) H → va_D A (wf u) → va_S A s.heap H locs → W p l e rm s m av.toArray below meth c H locs 0 0 Q (F0 m pc ls [.long r])) →
      ∀ (ls : Array Slot), lv_has ls maxL (lv_args 0 av) → va_P G vwCl (wf u0) s.heap → va_D A (wf u0) → va_S A s.heap s.heap [] → W p l e rm s m av.toArray below meth c s.heap [] 0 0 Q (F0 m 0 ls [])) :
    CtL l y ws rm G ty wf av u0 post := by
  intro sz
  refine Met.ofW (cc := cc) (maxL := maxL) (ret := some .long) hy hw ?_
  intro p e s m args below meth c s₁ B hml hv
  obtain ⟨rfl, hsz, hP, hK, hD0⟩ := hv
  have hts := atoms_spec (ws := ws) B.pre
  have hown : s.vm.findClass y.cls = some m.cls := findClass_of_methodNamed B.named
  have hr := B.returns
  have hlocks := B.notSynchronized
  subst hsz
  have hD := hD0.self (sz := s.heap.size)
  have hl := lv_entry av hn
  rw [lg_entry_eq]
  refine body p e s m below meth c (va_A (wf u0) s.heap.size) _ B.exec B.bytes hml hts hown hK (fun q h => Or.inr h) ?_ _ hl hP hD va_S.rf
  intro r u pc H locs ls hd hp hP1 hD1 hS1
  exact W.lret (v := r) B.exec B.bytes hr (fun t ht hW => ⟨⟨r, u, rfl, hp, by rw [ht]; exact hP1, hD1⟩, hS1.F ht⟩) hS1.2.2 hd
theorem CtV.of {l : Launch} {y : MethodName} {ws ws' : List Cond} {rm : Room} {G : va_G} {ty : List (ClassId × FieldType)} {wf : CS → va_W} {av : List Value} {u0 : CS} {post : CS → Prop} {cc : ByteArray} {maxL : Nat}
    (hy : plainName y.cls = true) (hw : ws = Cond.code y cc maxL none :: ws') (hn : (lg_sl av).length ≤ maxL)
    (body : ∀ (p : Program) (e : Env) (s : State) (m : MethodId) (below : List Frame) (meth : Method) (c : Code) (A : Nat → Prop) (Q : State → Prop), p.tables.exec = Jvm.exec → c.code = cc → c.maxLocals = maxL → (∀ w ∈ ws, w.before av.toArray s = true) → s.vm.findClass y.cls = some m.cls → va_K G vwCl ty s → (∀ q, s.heap.size ≤ q → A q) →
      (∀ (u : CS) (pc : Nat) (H : Heap) (locs : List Loc) (ls : Array Slot), decode cc pc = .ok (.return_, 1) → post u → va_P G vwCl (wf u) H → va_D A (wf u) → va_S A s.heap H locs → W p l e rm s m av.toArray below meth c H locs 0 0 Q (F0 m pc ls [])) →
      ∀ (ls : Array Slot), lv_has ls maxL (lv_args 0 av) → va_P G vwCl (wf u0) s.heap → va_D A (wf u0) → va_S A s.heap s.heap [] → W p l e rm s m av.toArray below meth c s.heap [] 0 0 Q (F0 m 0 ls [])) :
    CtV l y ws rm G ty wf av u0 post := by
  intro sz
  refine Met.ofW (cc := cc) (maxL := maxL) (ret := none) hy hw ?_
  intro p e s m args below meth c s₁ B hml hv
  obtain ⟨rfl, hsz, hP, hK, hD0⟩ := hv
  have hts := atoms_spec (ws := ws) B.pre
  have hown : s.vm.findClass y.cls = some m.cls := findClass_of_methodNamed B.named
  have hr := B.returns
  have hlocks := B.notSynchronized
  subst hsz
  have hD := hD0.self (sz := s.heap.size)
  have hl := lv_entry av hn
  rw [lg_entry_eq]
  refine body p e s m below meth c (va_A (wf u0) s.heap.size) _ B.exec B.bytes hml hts hown hK (fun q h => Or.inr h) ?_ _ hl hP hD va_S.rf
  intro u pc H locs ls hd hp hP1 hD1 hS1
  exact W.vret B.exec B.bytes hr (fun t ht hW => ⟨⟨u, rfl, hp, by rw [ht]; exact hP1, hD1⟩, hS1.F ht⟩) hS1.2.2 hd
section CallSame
variable {p : Program} {l : Launch} {e : Env} {R : Room} {s : State} {m : MethodId} {args : Array Value} {below : List Frame} {meth : Method} {c : Code} {H : Heap} {locs : List Loc} {cells slots : Nat} {Q : State → Prop}
variable {y : MethodName} {bytes cc : ByteArray} {maxL nL n index pc : Nat} {ret : Option FieldType} {ws Ts : List Cond} {rm : Room} {own C : String} {b : Addr} {As rest st : List Value} {ls : Array Slot} {A : Nat → Prop} {G : va_G} {ty : List (ClassId × FieldType)} {wf : CS → va_W} {u0 : CS}
theorem free_of {w : va_W} {H0 : Heap} (hD : va_D A w) (hS : va_S A H0 H locs) (hA : ∀ q, H0.size ≤ q → A q) : ∀ q, va_A w H.size q → A q := by
  intro q hq
  rcases hq with ⟨k, e, h⟩ | h
  · exact hD.2 k (q, e) h
  · exact hA q (Nat.le_trans hS.1 h)
theorem blind_of {av : List Value} {u0 : CS} {sz : Nat} : FrameBlind (va_Pc av (fun U => U.heap.size = sz ∧ va_P G vwCl (wf u0) U.heap ∧ va_K G vwCl ty U ∧ va_D (fun _ => True) (wf u0))) := by
  intro a U g mk q
  obtain ⟨q0, q1, qP, qK, qD⟩ := q
  exact ⟨q0, q1, qP, va_K.moved (u := U) (U := U.calling g mk a) (Vm.Alike.refl U.vm) qK, qD⟩
theorem CtI.call {post : Int32 → CS → Prop} (hM : CtI l y ws rm G ty wf (.ref b :: As) u0 post) (S : CallFix p m c cc nL s args Ts own) (cw : CallW R s args own C index y bytes maxL ret ws rm 0 0 n) (hrecv : ∃ cell : Cell, H[b]? = some cell ∧ cell.vm.isStatics = false ∧ s.vm.findClass C = some cell.cls)
    (hK : va_K G vwCl ty s) (hP : va_P G vwCl (wf u0) H) (hD : va_D A (wf u0)) (hS : va_S A s.heap H locs) (hA : ∀ q, s.heap.size ≤ q → A q) (hn : As.length = n) (hsize : ls.size = nL) (hst : st = As.reverse ++ .ref b :: rest) (hW : (rest.map fun v => v.category).sum ≤ 8) (hdg : decode cc pc = .ok (.invokevirtual index, 3)) (hf : cells ≤ R.cells ∧ slots ≤ R.slots)
    (kk : ∀ (r : Int32) (u : CS) (H1 : Heap) (locs1 : List Loc), post r u → va_P G vwCl (wf u) H1 → va_D A (wf u) → va_S A s.heap H1 locs1 → W p l e R s m args below meth c H1 locs1 cells slots Q (F0 m (pc + 3) ls (.int r :: rest))) : W p l e R s m args below meth c H locs cells slots Q (F0 m pc ls st) := by
  subst hst
  have hFc := free_of hD hS hA
  refine va_calli (va_runV (As := As) (rest := rest) S (hM H.size) cw ⟨blind_of, hrecv, fun U hU hW => ⟨rfl, by rw [hU], by rw [hU]; exact hP, va_K.moved hW.alike hK, hD.weaken (fun _ _ _ _ => trivial)⟩⟩ rfl hn hsize rfl (lv_room hW) hdg hf) hS (fun q _ h => hFc q h) hFc (fun r u t H1 locs1 ht hvm hw hB hz1 hk1 hS1 => ?_)
  obtain ⟨hP1, hD1⟩ := hB
  rw [ht] at hP1
  exact kk r u H1 locs1 hw hP1 (hD1.weaken (fun k q _ h => hFc q.1 h)) hS1
theorem CtL.call {post : Int64 → CS → Prop} (hM : CtL l y ws rm G ty wf (.ref b :: As) u0 post) (S : CallFix p m c cc nL s args Ts own) (cw : CallW R s args own C index y bytes maxL ret ws rm 0 0 n) (hrecv : ∃ cell : Cell, H[b]? = some cell ∧ cell.vm.isStatics = false ∧ s.vm.findClass C = some cell.cls)
    (hK : va_K G vwCl ty s) (hP : va_P G vwCl (wf u0) H) (hD : va_D A (wf u0)) (hS : va_S A s.heap H locs) (hA : ∀ q, s.heap.size ≤ q → A q) (hn : As.length = n) (hsize : ls.size = nL) (hst : st = As.reverse ++ .ref b :: rest) (hW : (rest.map fun v => v.category).sum ≤ 8) (hdg : decode cc pc = .ok (.invokevirtual index, 3)) (hf : cells ≤ R.cells ∧ slots ≤ R.slots)
    (kk : ∀ (r : Int64) (u : CS) (H1 : Heap) (locs1 : List Loc), post r u → va_P G vwCl (wf u) H1 → va_D A (wf u) → va_S A s.heap H1 locs1 → W p l e R s m args below meth c H1 locs1 cells slots Q (F0 m (pc + 3) ls (.long r :: rest))) : W p l e R s m args below meth c H locs cells slots Q (F0 m pc ls st) := by
  subst hst
  have hFc := free_of hD hS hA
  refine va_calll (va_runV (As := As) (rest := rest) S (hM H.size) cw ⟨blind_of, hrecv, fun U hU hW => ⟨rfl, by rw [hU], by rw [hU]; exact hP, va_K.moved hW.alike hK, hD.weaken (fun _ _ _ _ => trivial)⟩⟩ rfl hn hsize rfl (lv_room hW) hdg hf) hS (fun q _ h => hFc q h) hFc (fun r u t H1 locs1 ht hvm hw hB hz1 hk1 hS1 => ?_)
  obtain ⟨hP1, hD1⟩ := hB
  rw [ht] at hP1
  exact kk r u H1 locs1 hw hP1 (hD1.weaken (fun k q _ h => hFc q.1 h)) hS1
theorem CtV.call {post : CS → Prop} (hM : CtV l y ws rm G ty wf (.ref b :: As) u0 post) (S : CallFix p m c cc nL s args Ts own) (cw : CallW R s args own C index y bytes maxL ret ws rm 0 0 n) (hrecv : ∃ cell : Cell, H[b]? = some cell ∧ cell.vm.isStatics = false ∧ s.vm.findClass C = some cell.cls)
    (hK : va_K G vwCl ty s) (hP : va_P G vwCl (wf u0) H) (hD : va_D A (wf u0)) (hS : va_S A s.heap H locs) (hA : ∀ q, s.heap.size ≤ q → A q) (hn : As.length = n) (hsize : ls.size = nL) (hst : st = As.reverse ++ .ref b :: rest) (hW : (rest.map fun v => v.category).sum ≤ 8) (hdg : decode cc pc = .ok (.invokevirtual index, 3)) (hf : cells ≤ R.cells ∧ slots ≤ R.slots)
    (kk : ∀ (u : CS) (H1 : Heap) (locs1 : List Loc), post u → va_P G vwCl (wf u) H1 → va_D A (wf u) → va_S A s.heap H1 locs1 → W p l e R s m args below meth c H1 locs1 cells slots Q (F0 m (pc + 3) ls rest)) : W p l e R s m args below meth c H locs cells slots Q (F0 m pc ls st) := by
  subst hst
  have hFc := free_of hD hS hA
  refine va_callv (va_runV (As := As) (rest := rest) S (hM H.size) cw ⟨blind_of, hrecv, fun U hU hW => ⟨rfl, by rw [hU], by rw [hU]; exact hP, va_K.moved hW.alike hK, hD.weaken (fun _ _ _ _ => trivial)⟩⟩ rfl hn hsize rfl (lv_room hW) hdg hf) hS (fun q _ h => hFc q h) hFc (fun u t H1 locs1 ht hvm hw hB hz1 hk1 hS1 => ?_)
  obtain ⟨hP1, hD1⟩ := hB
  rw [ht] at hP1
  exact kk u H1 locs1 hw hP1 (hD1.weaken (fun k q _ h => hFc q.1 h)) hS1
end CallSame
/-- the class's world: 0 key 1 value 2 weight 3 left 4 right 5 count 6 used 7 taken 8 reached 9 pending 10 noted 11 length 12 live 13 roots 14 seed 15 sweeps -/
def cw (ad : Nat → Nat) (C V : Nat) (cI cZ : ClassId) (s : CS) : va_W := [
  (ad 0, .inr (2, [.ref (ad 1), .ref (ad 2), .ref (ad 3), .ref (ad 4), .int (s 14 0), .int (s 15 0)])),
  (ad 1, .inr (0, [.int (nI C), .ref (ad 5), .ref (ad 6), .ref (ad 7), .ref (ad 8), .ref (ad 9), .ref (ad 10), .int (s 6 0), .ref (ad 11), .ref (ad 12), .ref (ad 13)])),
  (ad 2, .inr (1, [.ref (ad 1), .ref (ad 14), .int (s 11 0)])),
  (ad 3, .inl (cZ, V, .inl (s 12))),
  (ad 4, .inl (cI, V, .inl (s 13))),
  (ad 5, .inl (cI, C + 1, .inl (s 0))),
  (ad 6, .inl (cI, C + 1, .inl (s 1))),
  (ad 7, .inl (cI, C + 1, .inl (s 2))),
  (ad 8, .inl (cI, C + 1, .inl (s 3))),
  (ad 9, .inl (cI, C + 1, .inl (s 4))),
  (ad 10, .inl (cI, C + 1, .inl (s 5))),
  (ad 11, .inl (cZ, C + 1, .inl (s 7))),
  (ad 12, .inl (cZ, C + 1, .inl (s 8))),
  (ad 13, .inl (cI, C + 1, .inl (s 9))),
  (ad 14, .inl (cI, C, .inl (s 10)))]
/-- the reference's world: the rows are its fields by their numbers -/
def mw (am : Nat → Nat) (cI cZ : ClassId) (s : CS) : va_W := [
  (am 0, .inr (3, [.int (s 0 0), .int (s 1 0), .int (s 2 0), .int (s 3 0), .int (s 4 0), .int (s 5 0), .ref (am 1), .ref (am 2), .ref (am 3), .ref (am 4), .ref (am 5), .ref (am 6), .ref (am 7), .ref (am 8), .int (s 14 0), .ref (am 9), .ref (am 10), .int (s 17 0), .int (s 18 0), .int (s 19 0), .int (s 20 0), .int (s 21 0), .int (s 22 0), .ref (am 11)])),
  (am 1, .inl (cI, 160, .inl (s 6))),
  (am 2, .inl (cI, 160, .inl (s 7))),
  (am 3, .inl (cI, 160, .inl (s 8))),
  (am 4, .inl (cI, 160, .inl (s 9))),
  (am 5, .inl (cI, 160, .inl (s 10))),
  (am 6, .inl (cZ, 160, .inl (s 11))),
  (am 7, .inl (cZ, 160, .inl (s 12))),
  (am 8, .inl (cI, 160, .inl (s 13))),
  (am 9, .inl (cZ, 8, .inl (s 15))),
  (am 10, .inl (cI, 8, .inl (s 16))),
  (am 11, .inl (cI, 64, .inl (s 23)))]
abbrev ty2 (cI cZ : ClassId) : List (ClassId × FieldType) := [(cI, .int), (cZ, .boolean)]
end
section
def wp_X0_hasRoom (C V : Nat) (p0 : Int32) (u : CS) (post : Int32 → CS → Prop) : Prop := nmI (u 6 0) (fun z1 => nmI (z1 + p0) (fun z2 => nmI (nI C) (fun z3 => brN (z3 < z2) (post 0 u) (post 1 u))))
def lp_X0_freePlace_2 (C V : Nat) (post : Int32 → CS → Prop) : Nat → Int32 → CS → Prop
  | 0, _, _ => False
  | n + 1, a1, u => nmI (nI C) (fun z1 => brN (z1 ≤ a1) (post a1 u) (rdA (u 7) (C + 1) a1 (fun z3 => brN (z3 = 0) (post a1 u) (nmI (a1 + 1) (fun z5 => lp_X0_freePlace_2 C V post n z5 u)))))
def wp_X0_freePlace (C V : Nat) (u : CS) (post : Int32 → CS → Prop) : Prop := ∃ n, lp_X0_freePlace_2 C V post n 1 u
def wp_X0_fresh (C V : Nat) (p0 : Int32) (p1 : Int32) (p2 : Int32) (p3 : Int32) (p4 : Int32) (u : CS) (post : Int32 → CS → Prop) : Prop := wp_X0_freePlace C V u (fun r2 u1 => wrZ u1 7 (C + 1) r2 1 (fun u3 => nmI (u3 6 0) (fun z4 => nmI (z4 + 1) (fun z5 => stF u3 6 z5 (fun u6 => wrA u6 0 (C + 1) r2 p0 (fun u7 => wrA u7 1 (C + 1) r2 p1 (fun u8 => wrA u8 2 (C + 1) r2 p2 (fun u9 => wrA u9 3 (C + 1) r2 p3 (fun u10 => wrA u10 4 (C + 1) r2 p4 (fun u11 => rdA (u11 5) (C + 1) p3 (fun z12 => nmI (1 + z12) (fun z13 => rdA (u11 5) (C + 1) p4 (fun z14 => nmI (z13 + z14) (fun z15 => wrA u11 5 (C + 1) r2 z15 (fun u16 => post r2 u16)))))))))))))))
def wp_X0_copy (C V : Nat) (p0 : Int32) (p1 : Int32) (p2 : Int32) (u : CS) (post : Int32 → CS → Prop) : Prop := rdA (u 0) (C + 1) p0 (fun z1 => rdA (u 1) (C + 1) p0 (fun z2 => rdA (u 2) (C + 1) p0 (fun z3 => wp_X0_fresh C V z1 z2 z3 p1 p2 u (fun r5 u4 => post r5 u4))))
def wp_X0_goesAbove (C V : Nat) (p0 : Int32) (p1 : Int32) (p2 : Int32) (u : CS) (post : Int32 → CS → Prop) : Prop := rdA (u 2) (C + 1) p0 (fun z1 => brN (z1 = p1) (rdA (u 0) (C + 1) p0 (fun z3 => brN (p2 ≤ z3) (post 0 u) (post 1 u))) (rdA (u 2) (C + 1) p0 (fun z5 => brN (z5 ≤ p1) (post 0 u) (post 1 u))))
def lp_X0_forgetReached_2 (C V : Nat) (post : CS → Prop) : Nat → Int32 → CS → Prop
  | 0, _, _ => False
  | n + 1, a1, u => nmI (nI C) (fun z1 => brN (z1 < a1) (post u) (wrZ u 8 (C + 1) a1 0 (fun u3 => nmI (a1 + 1) (fun z4 => lp_X0_forgetReached_2 C V post n z4 u3))))
def wp_X0_forgetReached (C V : Nat) (u : CS) (post : CS → Prop) : Prop := ∃ n, lp_X0_forgetReached_2 C V post n 1 u
def wp_X0_pend (C V : Nat) (p0 : Int32) (p1 : Int32) (u : CS) (post : Int32 → CS → Prop) : Prop := brN (p0 = 0) (post 0 u) (rdA (u 8) (C + 1) p0 (fun z2 => brN (z2 = 0) (wrZ u 8 (C + 1) p0 1 (fun u4 => wrA u4 9 (C + 1) p1 p0 (fun u5 => post 1 u5))) (post 0 u)))
def lp_X0_reach_12 (C V : Nat) (post : Int32 → CS → Prop) : Nat → Int32 → Int32 → Int32 → CS → Prop
  | 0, _, _, _, _ => False
  | n + 1, a2, a3, a4, u => nmI (nI C) (fun z3 => brN (z3 ≤ a4) (post a2 u) (brN (a3 ≤ 0) (post a2 u) (nmI (a3 + (-1)) (fun z6 => rdA (u 9) (C + 1) z6 (fun z7 => rdA (u 3) (C + 1) z7 (fun z8 => wp_X0_pend C V z8 z6 u (fun r10 u9 => rdA (u9 4) (C + 1) z7 (fun z11 => nmI (z6 + r10) (fun z12 => wp_X0_pend C V z11 z12 u9 (fun r14 u13 => nmI (r10 + r14) (fun z15 => nmI (z6 + z15) (fun z16 => nmI (a2 + z15) (fun z17 => nmI (a4 + 1) (fun z18 => lp_X0_reach_12 C V post n z17 z16 z18 u13))))))))))))))
def wp_X0_reach (C V : Nat) (p0 : Int32) (u : CS) (post : Int32 → CS → Prop) : Prop := wp_X0_pend C V p0 0 u (fun r2 u1 => ∃ n, lp_X0_reach_12 C V post n r2 r2 0 u1)
def lp_X0_keepReached_7 (C V : Nat) (post : CS → Prop) : Nat → Int32 → CS → Prop
  | 0, _, _ => False
  | n + 1, a1, u => nmI (nI C) (fun z2 => brN (z2 < a1) (post u) (rdA (u 8) (C + 1) a1 (fun z4 => wrZ u 7 (C + 1) a1 z4 (fun u5 => nmI (u5 6 0) (fun z6 => rdA (u5 8) (C + 1) a1 (fun z7 => brN (z7 = 0) (nmI (z6 + 0) (fun z9 => stF u5 6 z9 (fun u10 => nmI (a1 + 1) (fun z11 => lp_X0_keepReached_7 C V post n z11 u10)))) (nmI (z6 + 1) (fun z12 => stF u5 6 z12 (fun u13 => nmI (a1 + 1) (fun z14 => lp_X0_keepReached_7 C V post n z14 u13))))))))))
def wp_X0_keepReached (C V : Nat) (u : CS) (post : CS → Prop) : Prop := stF u 6 0 (fun u1 => ∃ n, lp_X0_keepReached_7 C V post n 1 u1)
def lp_X0_sumReached_5 (C V : Nat) (post : Int64 → CS → Prop) : Nat → Int32 → Int32 → Int64 → Int32 → CS → Prop
  | 0, _, _, _, _, _ => False
  | n + 1, a1, a2, a3, a5, u => nmI (nI C) (fun z1 => brN (z1 < a5) (post a3 u) (rdA (u 8) (C + 1) a5 (fun z3 => brN (z3 = 0) (nmI (a5 + 1) (fun z5 => lp_X0_sumReached_5 C V post n a1 a2 a3 z5 u)) (rdA (u 0) (C + 1) a5 (fun z6 => brN (z6 < a1) (nmI (a5 + 1) (fun z8 => lp_X0_sumReached_5 C V post n a1 a2 a3 z8 u)) (rdA (u 0) (C + 1) a5 (fun z9 => brN (a2 < z9) (nmI (a5 + 1) (fun z11 => lp_X0_sumReached_5 C V post n a1 a2 a3 z11 u)) (rdA (u 1) (C + 1) a5 (fun z12 => nmL (Int32.toInt64 z12) (fun z13 => nmL (a3 + z13) (fun z14 => nmI (a5 + 1) (fun z15 => lp_X0_sumReached_5 C V post n a1 a2 z14 z15 u))))))))))))
def wp_X0_sumReached (C V : Nat) (p0 : Int32) (p1 : Int32) (u : CS) (post : Int64 → CS → Prop) : Prop := ∃ n, lp_X0_sumReached_5 C V post n p0 p1 0 1 u
def lp_X0_nodeAt_8 (C V : Nat) (post : Int32 → CS → Prop) : Nat → Int32 → Int32 → Int32 → CS → Prop
  | 0, _, _, _, _ => False
  | n + 1, a3, a4, a5, u => nmI (nI C) (fun z1 => brN (z1 ≤ a5) (post a3 u) (brN (a3 = 0) (post a3 u) (rdA (u 3) (C + 1) a3 (fun z4 => rdA (u 5) (C + 1) z4 (fun z5 => brN (a4 = z5) (post a3 u) (rdA (u 3) (C + 1) a3 (fun z7 => rdA (u 5) (C + 1) z7 (fun z8 => brN (z8 ≤ a4) (rdA (u 3) (C + 1) a3 (fun z10 => rdA (u 5) (C + 1) z10 (fun z11 => nmI (z11 + 1) (fun z12 => nmI (a4 - z12) (fun z13 => rdA (u 4) (C + 1) a3 (fun z14 => nmI (a5 + 1) (fun z15 => lp_X0_nodeAt_8 C V post n z14 z13 z15 u))))))) (rdA (u 3) (C + 1) a3 (fun z16 => nmI (a5 + 1) (fun z17 => lp_X0_nodeAt_8 C V post n z16 a4 z17 u)))))))))))
def wp_X0_nodeAt (C V : Nat) (p0 : Int32) (p1 : Int32) (u : CS) (post : Int32 → CS → Prop) : Prop := ∃ n, lp_X0_nodeAt_8 C V post n p0 p1 0 u
def lp_X0_floorNode_8 (C V : Nat) (post : Int32 → CS → Prop) : Nat → Int32 → Int32 → Int32 → Int32 → CS → Prop
  | 0, _, _, _, _, _ => False
  | n + 1, a2, a3, a4, a5, u => nmI (nI C) (fun z1 => brN (z1 ≤ a5) (post a4 u) (brN (a3 = 0) (post a4 u) (rdA (u 0) (C + 1) a3 (fun z4 => brN (a2 < z4) (rdA (u 3) (C + 1) a3 (fun z6 => nmI (a5 + 1) (fun z7 => lp_X0_floorNode_8 C V post n a2 z6 a4 z7 u))) (rdA (u 4) (C + 1) a3 (fun z8 => nmI (a5 + 1) (fun z9 => lp_X0_floorNode_8 C V post n a2 z8 a3 z9 u)))))))
def wp_X0_floorNode (C V : Nat) (p0 : Int32) (p1 : Int32) (u : CS) (post : Int32 → CS → Prop) : Prop := ∃ n, lp_X0_floorNode_8 C V post n p1 p0 0 0 u
def lp_X1_noteTo_7 (C V : Nat) (post : Int32 → CS → Prop) : Nat → Int32 → Int32 → CS → Prop
  | 0, _, _, _ => False
  | n + 1, a2, a3, u => nmI (u 11 0) (fun z2 => nmI (nI C) (fun z3 => brN (z3 ≤ z2) (post a3 u) (brN (a3 = 0) (post a3 u) (rdA (u 0) (C + 1) a3 (fun z6 => brN (z6 = a2) (post a3 u) (nmI (u 11 0) (fun z8 => wrA u 10 C z8 a3 (fun u9 => nmI (u9 11 0) (fun z10 => nmI (z10 + 1) (fun z11 => stF u9 11 z11 (fun u12 => rdA (u12 0) (C + 1) a3 (fun z13 => brN (a2 ≤ z13) (rdA (u12 3) (C + 1) a3 (fun z15 => lp_X1_noteTo_7 C V post n a2 z15 u12)) (rdA (u12 4) (C + 1) a3 (fun z16 => lp_X1_noteTo_7 C V post n a2 z16 u12))))))))))))))
def wp_X1_noteTo (C V : Nat) (p0 : Int32) (p1 : Int32) (u : CS) (post : Int32 → CS → Prop) : Prop := stF u 11 0 (fun u1 => ∃ n, lp_X1_noteTo_7 C V post n p1 p0 u1)
def lp_X1_noteLesser_10 (C V : Nat) (post : CS → Prop) : Nat → Int32 → Int32 → Int32 → CS → Prop
  | 0, _, _, _, _ => False
  | n + 1, a2, a3, a4, u => nmI (nI C) (fun z2 => brN (z2 ≤ a4) (post u) (brN (a3 = 0) (post u) (rdA (u 0) (C + 1) a3 (fun z5 => brN (a2 ≤ z5) (rdA (u 3) (C + 1) a3 (fun z7 => nmI (a4 + 1) (fun z8 => lp_X1_noteLesser_10 C V post n a2 z7 z8 u))) (nmI (u 11 0) (fun z9 => wrA u 10 C z9 a3 (fun u10 => nmI (u10 11 0) (fun z11 => nmI (z11 + 1) (fun z12 => stF u10 11 z12 (fun u13 => rdA (u13 4) (C + 1) a3 (fun z14 => nmI (a4 + 1) (fun z15 => lp_X1_noteLesser_10 C V post n a2 z14 z15 u13))))))))))))
def wp_X1_noteLesser (C V : Nat) (p0 : Int32) (p1 : Int32) (u : CS) (post : CS → Prop) : Prop := stF u 11 0 (fun u1 => ∃ n, lp_X1_noteLesser_10 C V post n p1 p0 0 u1)
def lp_X1_noteJoint_5 (C V : Nat) (post : Int32 → CS → Prop) : Nat → Int32 → Int32 → CS → Prop
  | 0, _, _, _ => False
  | n + 1, a3, a4, u => nmI (u 11 0) (fun z1 => nmI (nI C) (fun z2 => brN (z2 ≤ z1) (brN (a3 = 0) (post a4 u) (post a3 u)) (brN (a3 = 0) (brN (a3 = 0) (post a4 u) (post a3 u)) (brN (a4 = 0) (brN (a3 = 0) (post a4 u) (post a3 u)) (rdA (u 2) (C + 1) a4 (fun z9 => rdA (u 0) (C + 1) a4 (fun z10 => wp_X0_goesAbove C V a3 z9 z10 u (fun r12 u11 => brN (r12 = 0) (nmI (u11 11 0) (fun z14 => wrA u11 10 C z14 a4 (fun u15 => rdA (u15 3) (C + 1) a4 (fun z16 => nmI (u15 11 0) (fun z17 => nmI (z17 + 1) (fun z18 => stF u15 11 z18 (fun u19 => lp_X1_noteJoint_5 C V post n a3 z16 u19))))))) (nmI (u11 11 0) (fun z20 => wrA u11 10 C z20 a3 (fun u21 => rdA (u21 4) (C + 1) a3 (fun z22 => nmI (u21 11 0) (fun z23 => nmI (z23 + 1) (fun z24 => stF u21 11 z24 (fun u25 => lp_X1_noteJoint_5 C V post n z22 a4 u25)))))))))))))))
def wp_X1_noteJoint (C V : Nat) (p0 : Int32) (p1 : Int32) (u : CS) (post : Int32 → CS → Prop) : Prop := ∃ n, lp_X1_noteJoint_5 C V post n p0 p1 u
def wp_X1_noteRemoval (C V : Nat) (p0 : Int32) (p1 : Int32) (u : CS) (post : Int32 → CS → Prop) : Prop := wp_X1_noteTo C V p0 p1 u (fun r2 u1 => brN (r2 = 0) (stF u1 11 0 (fun u8 => post p0 u8)) (rdA (u1 3) (C + 1) r2 (fun z4 => rdA (u1 4) (C + 1) r2 (fun z5 => wp_X1_noteJoint C V z4 z5 u1 (fun r7 u6 => post r7 u6)))))
def lp_X1_placeNew_6 (C V : Nat) (post : Int32 → CS → Prop) : Nat → Int32 → Int32 → Int32 → Int32 → Int32 → CS → Prop
  | 0, _, _, _, _, _, _ => False
  | n + 1, a1, a2, a3, a4, a5, u => nmI (u 11 0) (fun z1 => brN (z1 ≤ 0) (wp_X0_fresh C V a1 a2 a3 a4 a5 u (fun r4 u3 => post r4 u3)) (nmI (u 11 0) (fun z5 => nmI (z5 - 1) (fun z6 => rdA (u 10) C z6 (fun z7 => wp_X0_goesAbove C V z7 a3 a1 u (fun r9 u8 => brN (r9 = 0) (nmI (u8 11 0) (fun z13 => nmI (z13 - 1) (fun z14 => stF u8 11 z14 (fun u15 => nmI (u15 11 0) (fun z16 => rdA (u15 10) C z16 (fun z17 => rdA (u15 0) (C + 1) z17 (fun z18 => brN (a1 ≤ z18) (rdA (u15 4) (C + 1) z17 (fun z20 => wp_X0_copy C V z17 a5 z20 u15 (fun r22 u21 => lp_X1_placeNew_6 C V post n a1 a2 a3 a4 r22 u21))) (rdA (u15 3) (C + 1) z17 (fun z23 => wp_X0_copy C V z17 z23 a4 u15 (fun r25 u24 => lp_X1_placeNew_6 C V post n a1 a2 a3 r25 a5 u24)))))))))) (wp_X0_fresh C V a1 a2 a3 a4 a5 u8 (fun r12 u11 => post r12 u11))))))))
def wp_X1_placeNew (C V : Nat) (p0 : Int32) (p1 : Int32) (p2 : Int32) (u : CS) (post : Int32 → CS → Prop) : Prop := ∃ n, lp_X1_placeNew_6 C V post n p0 p1 p2 0 0 u
def lp_X1_copyOver_2 (C V : Nat) (post : Int32 → CS → Prop) : Nat → Int32 → Int32 → CS → Prop
  | 0, _, _, _ => False
  | n + 1, a2, a3, u => nmI (u 11 0) (fun z1 => brN (z1 ≤ 0) (post a3 u) (nmI (u 11 0) (fun z3 => nmI (z3 - 1) (fun z4 => stF u 11 z4 (fun u5 => nmI (u5 11 0) (fun z6 => rdA (u5 10) C z6 (fun z7 => rdA (u5 0) (C + 1) z7 (fun z8 => brN (a2 ≤ z8) (rdA (u5 4) (C + 1) z7 (fun z10 => wp_X0_copy C V z7 a3 z10 u5 (fun r12 u11 => lp_X1_copyOver_2 C V post n a2 r12 u11))) (rdA (u5 3) (C + 1) z7 (fun z13 => wp_X0_copy C V z7 z13 a3 u5 (fun r15 u14 => lp_X1_copyOver_2 C V post n a2 r15 u14)))))))))))
def wp_X1_copyOver (C V : Nat) (p0 : Int32) (p1 : Int32) (u : CS) (post : Int32 → CS → Prop) : Prop := ∃ n, lp_X1_copyOver_2 C V post n p1 p0 u
def wp_X2_isLive (C V : Nat) (p0 : Int32) (u : CS) (post : Int32 → CS → Prop) : Prop := brN (p0 < 0) (post 0 u) (nmI (nI V) (fun z2 => brN (z2 ≤ p0) (post 0 u) (rdA (u 12) V p0 (fun z4 => brN (z4 = 0) (post 0 u) (post 1 u)))))
def wp_X2_nodeWith (C V : Nat) (p0 : Int32) (p1 : Int32) (u : CS) (post : Int32 → CS → Prop) : Prop := wp_X2_isLive C V p0 u (fun r2 u1 => brN (r2 = 0) (post 0 u1) (rdA (u1 13) V p0 (fun z4 => wp_X1_noteTo C V z4 p1 u1 (fun r6 u5 => post r6 u5))))
def lp_X2_reachLive_11 (C V : Nat) (post : Int32 → CS → Prop) : Nat → Int32 → Int32 → CS → Prop
  | 0, _, _, _ => False
  | n + 1, a1, a2, u => nmI (nI V) (fun z2 => brN (z2 ≤ a2) (post a1 u) (rdA (u 12) V a2 (fun z4 => brN (z4 = 0) (nmI (a2 + 1) (fun z6 => lp_X2_reachLive_11 C V post n a1 z6 u)) (rdA (u 13) V a2 (fun z7 => wp_X0_reach C V z7 u (fun r9 u8 => nmI (a1 + r9) (fun z10 => nmI (a2 + 1) (fun z11 => lp_X2_reachLive_11 C V post n z10 z11 u8))))))))
def wp_X2_reachLive (C V : Nat) (u : CS) (post : Int32 → CS → Prop) : Prop := wp_X0_forgetReached C V u (fun u1 => ∃ n, lp_X2_reachLive_11 C V post n 0 0 u1)
def wp_X2_makeRoom (C V : Nat) (p0 : Int32) (u : CS) (post : Int32 → CS → Prop) : Prop := wp_X0_hasRoom C V p0 u (fun r2 u1 => brN (r2 = 0) (wp_X2_reachLive C V u1 (fun r5 u4 => wp_X0_keepReached C V u4 (fun u6 => nmI (u6 15 0) (fun z7 => nmI (z7 + 1) (fun z8 => stF u6 15 z8 (fun u9 => wp_X0_hasRoom C V p0 u9 (fun r11 u10 => post r11 u10))))))) (post 1 u1))
def lp_X2_handleFor_2 (C V : Nat) (post : Int32 → CS → Prop) : Nat → Int32 → Int32 → CS → Prop
  | 0, _, _, _ => False
  | n + 1, a1, a2, u => nmI (nI V) (fun z1 => brN (z1 ≤ a2) (post (-2) u) (rdA (u 12) V a2 (fun z3 => brN (z3 = 0) (wp_X2_makeRoom C V a1 u (fun r7 u6 => brN (r7 = 0) (post (-3) u6) (post a2 u6))) (nmI (a2 + 1) (fun z5 => lp_X2_handleFor_2 C V post n a1 z5 u)))))
def wp_X2_handleFor (C V : Nat) (p0 : Int32) (u : CS) (post : Int32 → CS → Prop) : Prop := ∃ n, lp_X2_handleFor_2 C V post n p0 0 u
def wp_X2_open (C V : Nat) (p0 : Int32) (p1 : Int32) (u : CS) (post : Int32 → CS → Prop) : Prop := wrZ u 12 V p0 1 (fun u1 => wrA u1 13 V p0 p1 (fun u2 => post p0 u2))
def wp_X2_drawWeight (C V : Nat) (u : CS) (post : Int32 → CS → Prop) : Prop := nmI (u 14 0) (fun z1 => nmI (z1 * 1103515245) (fun z2 => nmI (z2 + 12345) (fun z3 => stF u 14 z3 (fun u4 => nmI (u4 14 0) (fun z5 => nmI ((z5.toUInt32 >>> (Int32.toUInt32 16 &&& Int32.toUInt32 31)).toInt32) (fun z6 => nmI (z6 &&& 15) (fun z7 => post z7 u4)))))))
def wp_X2_put (C V : Nat) (p0 : Int32) (p1 : Int32) (p2 : Int32) (u : CS) (post : Int32 → CS → Prop) : Prop := wp_X2_isLive C V p0 u (fun r2 u1 => brN (r2 = 0) (post (-1) u1) (rdA (u1 13) V p0 (fun z4 => wp_X1_noteTo C V z4 p1 u1 (fun r6 u5 => nmI (u5 11 0) (fun z7 => nmI (z7 + 1) (fun z8 => wp_X2_handleFor C V z8 u5 (fun r10 u9 => brN (0 ≤ r10) (brN (r6 = 0) (wp_X2_drawWeight C V u9 (fun r23 u22 => wp_X1_placeNew C V p1 p2 r23 u22 (fun r25 u24 => wp_X1_copyOver C V r25 p1 u24 (fun r27 u26 => wp_X2_open C V r10 r27 u26 (fun r29 u28 => post r29 u28))))) (rdA (u9 2) (C + 1) r6 (fun z13 => rdA (u9 3) (C + 1) r6 (fun z14 => rdA (u9 4) (C + 1) r6 (fun z15 => wp_X0_fresh C V p1 p2 z13 z14 z15 u9 (fun r17 u16 => wp_X1_copyOver C V r17 p1 u16 (fun r19 u18 => wp_X2_open C V r10 r19 u18 (fun r21 u20 => post r21 u20)))))))) (post r10 u9))))))))
def wp_X2_remove (C V : Nat) (p0 : Int32) (p1 : Int32) (u : CS) (post : Int32 → CS → Prop) : Prop := wp_X2_isLive C V p0 u (fun r2 u1 => brN (r2 = 0) (post (-1) u1) (rdA (u1 13) V p0 (fun z4 => wp_X1_noteRemoval C V z4 p1 u1 (fun r6 u5 => nmI (u5 11 0) (fun z7 => wp_X2_handleFor C V z7 u5 (fun r9 u8 => brN (0 ≤ r9) (wp_X1_copyOver C V r6 p1 u8 (fun r12 u11 => wp_X2_open C V r9 r12 u11 (fun r14 u13 => post r14 u13))) (post r9 u8)))))))
def wp_X2_below (C V : Nat) (p0 : Int32) (p1 : Int32) (u : CS) (post : Int32 → CS → Prop) : Prop := wp_X2_isLive C V p0 u (fun r2 u1 => brN (r2 = 0) (post (-1) u1) (rdA (u1 13) V p0 (fun z4 => wp_X1_noteLesser C V z4 p1 u1 (fun u5 => nmI (u5 11 0) (fun z6 => wp_X2_handleFor C V z6 u5 (fun r8 u7 => brN (0 ≤ r8) (wp_X1_copyOver C V 0 p1 u7 (fun r11 u10 => wp_X2_open C V r8 r11 u10 (fun r13 u12 => post r13 u12))) (post r8 u7)))))))
def wp_X2_join (C V : Nat) (p0 : Int32) (p1 : Int32) (u : CS) (post : Int32 → CS → Prop) : Prop := wp_X2_isLive C V p0 u (fun r2 u1 => brN (r2 = 0) (post (-1) u1) (wp_X2_isLive C V p1 u1 (fun r5 u4 => brN (r5 = 0) (post (-1) u4) (rdA (u4 13) V p0 (fun z7 => rdA (u4 13) V p1 (fun z8 => rdA (u4 5) (C + 1) z7 (fun z9 => nmI (z9 - 1) (fun z10 => wp_X0_nodeAt C V z7 z10 u4 (fun r12 u11 => wp_X0_nodeAt C V z8 0 u11 (fun r14 u13 => brN (r12 = 0) (stF u13 11 0 (fun u16 => wp_X1_noteJoint C V z7 z8 u16 (fun r18 u17 => nmI (u17 11 0) (fun z19 => wp_X2_handleFor C V z19 u17 (fun r21 u20 => brN (0 ≤ r21) (rdA (u20 0) (C + 1) r14 (fun z23 => wp_X1_copyOver C V r18 z23 u20 (fun r25 u24 => wp_X2_open C V r21 r25 u24 (fun r27 u26 => post r27 u26)))) (post r21 u20)))))) (brN (r14 = 0) (stF u13 11 0 (fun u29 => wp_X1_noteJoint C V z7 z8 u29 (fun r31 u30 => nmI (u30 11 0) (fun z32 => wp_X2_handleFor C V z32 u30 (fun r34 u33 => brN (0 ≤ r34) (rdA (u33 0) (C + 1) r14 (fun z36 => wp_X1_copyOver C V r31 z36 u33 (fun r38 u37 => wp_X2_open C V r34 r38 u37 (fun r40 u39 => post r40 u39)))) (post r34 u33)))))) (rdA (u13 0) (C + 1) r12 (fun z41 => rdA (u13 0) (C + 1) r14 (fun z42 => brN (z41 < z42) (stF u13 11 0 (fun u44 => wp_X1_noteJoint C V z7 z8 u44 (fun r46 u45 => nmI (u45 11 0) (fun z47 => wp_X2_handleFor C V z47 u45 (fun r49 u48 => brN (0 ≤ r49) (rdA (u48 0) (C + 1) r14 (fun z51 => wp_X1_copyOver C V r46 z51 u48 (fun r53 u52 => wp_X2_open C V r49 r53 u52 (fun r55 u54 => post r55 u54)))) (post r49 u48)))))) (post (-4) u13)))))))))))))))
def wp_X2_drop (C V : Nat) (p0 : Int32) (u : CS) (post : Int32 → CS → Prop) : Prop := wp_X2_isLive C V p0 u (fun r2 u1 => brN (r2 = 0) (post 0 u1) (wrZ u1 12 V p0 0 (fun u4 => post 1 u4)))
def wp_X2_contains (C V : Nat) (p0 : Int32) (p1 : Int32) (u : CS) (post : Int32 → CS → Prop) : Prop := wp_X2_nodeWith C V p0 p1 u (fun r2 u1 => brN (r2 = 0) (post 0 u1) (post 1 u1))
def wp_X2_size (C V : Nat) (p0 : Int32) (u : CS) (post : Int32 → CS → Prop) : Prop := wp_X2_isLive C V p0 u (fun r2 u1 => brN (r2 = 0) (post (-1) u1) (rdA (u1 13) V p0 (fun z4 => rdA (u1 5) (C + 1) z4 (fun z5 => post z5 u1))))
def wp_X2_sum (C V : Nat) (p0 : Int32) (p1 : Int32) (p2 : Int32) (u : CS) (post : Int64 → CS → Prop) : Prop := wp_X2_isLive C V p0 u (fun r2 u1 => brN (r2 = 0) (post 0 u1) (wp_X0_forgetReached C V u1 (fun u4 => rdA (u4 13) V p0 (fun z5 => wp_X0_reach C V z5 u4 (fun r7 u6 => wp_X0_sumReached C V p1 p2 u6 (fun r9 u8 => post r9 u8))))))
def wp_X2_shared (C V : Nat) (p0 : Int32) (p1 : Int32) (u : CS) (post : Int32 → CS → Prop) : Prop := wp_X2_isLive C V p0 u (fun r2 u1 => brN (r2 = 0) (post (-1) u1) (wp_X2_isLive C V p1 u1 (fun r5 u4 => brN (r5 = 0) (post (-1) u4) (wp_X0_forgetReached C V u4 (fun u7 => rdA (u7 13) V p0 (fun z8 => wp_X0_reach C V z8 u7 (fun r10 u9 => rdA (u9 13) V p1 (fun z11 => rdA (u9 5) (C + 1) z11 (fun z12 => rdA (u9 13) V p1 (fun z13 => wp_X0_reach C V z13 u9 (fun r15 u14 => nmI (z12 - r15) (fun z16 => post z16 u14))))))))))))
def wp_X2_nodes (C V : Nat) (u : CS) (post : Int32 → CS → Prop) : Prop := wp_X2_reachLive C V u (fun r2 u1 => post r2 u1)
def wp_X2_used (C V : Nat) (u : CS) (post : Int32 → CS → Prop) : Prop := nmI (u 6 0) (fun z1 => post z1 u)
def wp_X2_sweeps (C V : Nat) (u : CS) (post : Int32 → CS → Prop) : Prop := nmI (u 15 0) (fun z1 => post z1 u)
end
section
set_option maxHeartbeats 4000000 in
set_option maxRecDepth 100000 in
theorem c_X0_hasRoom (l : Launch) (G : va_G) (ad : Nat → Nat) (C V : Nat) (cI cZ : ClassId) (p0 : Int32) (u : CS) (post : Int32 → CS → Prop) (hw : wp_X0_hasRoom C V p0 u post) : CtI l yX0_hasRoom wsX0_hasRoom ({ frames := 0, cells := 0, slots := 0, locals := 0 }) G (ty2 cI cZ) (cw ad C V cI cZ) [.ref (ad 1), .int p0] u (fun r u => isB r ∧ post r u) := by
  refine CtI.of (cc := cX0_hasRoom) (maxL := 2) (rt := .boolean) (by decide) rfl (Nat.le_of_ble_eq_true rfl) ?_
  intro p e s m below meth c A Q hx hb hml hts hown hK hA hret ls hl hP hD hS
  have hiX0 : ∀ w ∈ u_ws RX0 TX0 11, w ∈ wsX0_hasRoom := by decide +kernel
  have hown : s.vm.findClass RX0 = some m.cls := hown
  have hl : lv_has ls 2 [(0, .ref (ad 1)), (1, .int p0)] := hl
  unfold wp_X0_hasRoom at hw
  refine lv_aload_n hx hb dX0_hasRoom_0 rfl (lv_at hl 0 rfl) ?_
  refine va_get (D := G) (ci := 0) (v := .int (u 6 0)) (C := RX0) (T := TX0) (N := 11) hx hb hts hiX0 hown hK hP 1 rfl rfl 7 (by decide) (hts (.fieldLink RX0 44 "TreapVersions$Store" "usedPlaces" "I") (by decide +kernel)) (fun _ h9 => h9) rfl dX0_hasRoom_1 ?_
  refine lv_topi (fun z1 ez1 => ?_)
  have hw := nmI.go hw z1 ez1
  refine lv_iload_n hx hb dX0_hasRoom_4 rfl (lv_at hl 1 rfl) ?_
  refine lv_iadd hx hb dX0_hasRoom_5 ?_
  refine lv_topi (fun z2 ez2 => ?_)
  have hw := nmI.go hw z2 ez2
  refine lv_aload_n hx hb dX0_hasRoom_6 rfl (lv_at hl 0 rfl) ?_
  refine va_get (D := G) (ci := 0) (v := .int (nI C)) (C := RX0) (T := TX0) (N := 11) hx hb hts hiX0 hown hK hP 1 rfl rfl 0 (by decide) (hts (.fieldLink RX0 9 "TreapVersions$Store" "room" "I") (by decide +kernel)) (fun _ h9 => h9) rfl dX0_hasRoom_7 ?_
  refine lv_topi (fun z3 ez3 => ?_)
  have hw := nmI.go hw z3 ez3
  refine lv_icmp_gt (tgt := 17) hx hb dX0_hasRoom_10 (by decide) (fun c4 => ?_) (fun c4 => ?_)
  · have hw := brN.t hw c4
    refine lv_iconst (v := 0) hx hb dX0_hasRoom_17 (by decide) ?_
    exact hret 0 u 18 _ _ _ dX0_hasRoom_18 rfl ⟨isB_0, hw⟩ hP hD hS
  · have hw := brN.f hw c4
    refine lv_iconst (v := 1) hx hb dX0_hasRoom_13 (by decide) ?_
    refine lv_goto (tgt := 18) hx hb dX0_hasRoom_14 (by decide) ?_
    exact hret 1 u 18 _ _ _ dX0_hasRoom_18 rfl ⟨isB_1, hw⟩ hP hD hS
set_option maxHeartbeats 4000000 in
set_option maxRecDepth 100000 in
theorem c_X0_freePlace (l : Launch) (G : va_G) (ad : Nat → Nat) (C V : Nat) (cI cZ : ClassId) (u : CS) (post : Int32 → CS → Prop) (hw : wp_X0_freePlace C V u post) : CtI l yX0_freePlace wsX0_freePlace ({ frames := 0, cells := 0, slots := 0, locals := 0 }) G (ty2 cI cZ) (cw ad C V cI cZ) [.ref (ad 1)] u post := by
  refine CtI.of (cc := cX0_freePlace) (maxL := 2) (rt := .int) (by decide) rfl (Nat.le_of_ble_eq_true rfl) ?_
  intro p e s m below meth c A Q hx hb hml hts hown hK hA hret ls hl hP hD hS
  have hiX0 : ∀ w ∈ u_ws RX0 TX0 11, w ∈ wsX0_freePlace := by decide +kernel
  have hown : s.vm.findClass RX0 = some m.cls := hown
  have hl : lv_has ls 2 [(0, .ref (ad 1))] := hl
  have hlp2 : ∀ (n : Nat) (a1 : Int32) (u : CS), lp_X0_freePlace_2 C V post n a1 u → ∀ (H : Heap) (locs : List Loc), va_P G vwCl (cw ad C V cI cZ u) H → va_D A (cw ad C V cI cZ u) → va_S A s.heap H locs → ∀ ls : Array Slot, lv_has ls 2 [(0, .ref (ad 1)), (1, .int a1)] → W p l e ({ frames := 0, cells := 0, slots := 0, locals := 0 }) s m ([.ref (ad 1)] : List Value).toArray below meth c H locs 0 0 Q (F0 m 2 ls []) := by
    clear hw hl hP hD hS
    intro n
    induction n with
    | zero => intro a1 u hw; exact False.elim hw
    | succ n ih =>
      intro a1 u hw H locs hP hD hS ls hl
      unfold lp_X0_freePlace_2 at hw
      refine lv_iload_n hx hb dX0_freePlace_2 rfl (lv_at hl 1 rfl) ?_
      refine lv_aload_n hx hb dX0_freePlace_3 rfl (lv_at hl 0 rfl) ?_
      refine va_get (D := G) (ci := 0) (v := .int (nI C)) (C := RX0) (T := TX0) (N := 11) hx hb hts hiX0 hown hK hP 1 rfl rfl 0 (by decide) (hts (.fieldLink RX0 9 "TreapVersions$Store" "room" "I") (by decide +kernel)) (fun _ h9 => h9) rfl dX0_freePlace_4 ?_
      refine lv_topi (fun z1 ez1 => ?_)
      have hw := nmI.go hw z1 ez1
      refine lv_icmp_ge (tgt := 25) hx hb dX0_freePlace_7 (by decide) (fun c2 => ?_) (fun c2 => ?_)
      · have hw := brN.t hw c2
        refine lv_iload_n hx hb dX0_freePlace_25 rfl (lv_at hl 1 rfl) ?_
        exact hret a1 u 26 _ _ _ dX0_freePlace_26 rfl hw hP hD hS
      · have hw := brN.f hw c2
        refine lv_aload_n hx hb dX0_freePlace_10 rfl (lv_at hl 0 rfl) ?_
        refine va_get (D := G) (ci := 0) (v := .ref (ad 11)) (C := RX0) (T := TX0) (N := 11) hx hb hts hiX0 hown hK hP 1 rfl rfl 8 (by decide) (hts (.fieldLink RX0 34 "TreapVersions$Store" "taken" "[Z") (by decide +kernel)) (fun _ h9 => h9) rfl dX0_freePlace_11 ?_
        refine lv_iload_n hx hb dX0_freePlace_14 rfl (lv_at hl 1 rfl) ?_
        refine va_zald hx hb hK hP 11 1 rfl rfl (rdA.hin hw) dX0_freePlace_15 ?_
        refine lv_topi (fun z3 ez3 => ?_)
        have hw := rdA.go hw z3 ez3
        refine lv_if_eq (tgt := 25) hx hb dX0_freePlace_16 (by decide) (fun c4 => ?_) (fun c4 => ?_)
        · have hw := brN.t hw c4
          refine lv_iload_n hx hb dX0_freePlace_25 rfl (lv_at hl 1 rfl) ?_
          exact hret a1 u 26 _ _ _ dX0_freePlace_26 rfl hw hP hD hS
        · have hw := brN.f hw c4
          obtain ⟨z5, ez5⟩ : ∃ y : Int32, y = a1 + 1 := ⟨_, rfl⟩
          have hw := nmI.go hw z5 ez5
          refine lv_iinc (v := z5) (lv' := [(1, .int z5), (0, .ref (ad 1))]) hx hb dX0_freePlace_19 hl (k := 1) rfl (by rw [ez5]; rfl) (by decide) rfl (fun ls hl => ?_)
          refine lv_goto (tgt := 2) hx hb dX0_freePlace_22 (by decide) ?_
          exact ih z5 u hw _ _ hP hD hS _ (lv_sub hl [1, 0] rfl)
  unfold wp_X0_freePlace at hw
  refine lv_iconst (v := 1) hx hb dX0_freePlace_0 (by decide) ?_
  refine lv_istore_n (lv' := [(1, .int 1), (0, .ref (ad 1))]) hx hb dX0_freePlace_1 rfl hl (by decide) rfl (fun ls hl => ?_)
  obtain ⟨n9, hw⟩ := hw
  exact hlp2 n9 1 u hw _ _ hP hD hS _ (lv_sub hl [1, 0] rfl)
set_option maxHeartbeats 4000000 in
set_option maxRecDepth 100000 in
theorem c_X0_fresh (l : Launch) (G : va_G) (ad : Nat → Nat) (C V : Nat) (cI cZ : ClassId) (p0 : Int32) (p1 : Int32) (p2 : Int32) (p3 : Int32) (p4 : Int32) (u : CS) (post : Int32 → CS → Prop) (hw : wp_X0_fresh C V p0 p1 p2 p3 p4 u post) : CtI l yX0_fresh wsX0_fresh ({ frames := 1, cells := 0, slots := 0, locals := 21 }) G (ty2 cI cZ) (cw ad C V cI cZ) [.ref (ad 1), .int p0, .int p1, .int p2, .int p3, .int p4] u post := by
  refine CtI.of (cc := cX0_fresh) (maxL := 7) (rt := .int) (by decide) rfl (Nat.le_of_ble_eq_true rfl) ?_
  intro p e s m below meth c A Q hx hb hml hts hown hK hA hret ls hl hP hD hS
  have hiX0 : ∀ w ∈ u_ws RX0 TX0 11, w ∈ wsX0_fresh := by decide +kernel
  have hown : s.vm.findClass RX0 = some m.cls := hown
  have hl : lv_has ls 7 [(0, .ref (ad 1)), (1, .int p0), (2, .int p1), (3, .int p2), (4, .int p3), (5, .int p4)] := hl
  unfold wp_X0_fresh at hw
  refine lv_aload_n hx hb dX0_fresh_0 rfl (lv_at hl 0 rfl) ?_
  refine CtI.call (As := []) (rest := []) (c_X0_freePlace l G ad C V cI cZ u _ hw) ⟨hx, hb, hml, hown, hts⟩ (cwV 0 hts gX0_fresh_X0_freePlace rfl rfl rfl (by decide +kernel) ⟨Nat.le_of_ble_eq_true rfl, Nat.le_of_ble_eq_true rfl⟩) (va_recv hK hP (ci := 0) (q0 := 1) rfl rfl) hK hP hD hS hA rfl hl.1 rfl (Nat.le_of_ble_eq_true rfl) dX0_fresh_1 ⟨Nat.zero_le _, Nat.zero_le _⟩ (fun r2 u1 H locs hw hP hD hS => ?_)
  refine lv_istore (lv' := [(6, .int r2), (0, .ref (ad 1)), (1, .int p0), (2, .int p1), (3, .int p2), (4, .int p3), (5, .int p4)]) hx hb dX0_fresh_4 hl (by decide) rfl (fun ls hl => ?_)
  refine lv_aload_n hx hb dX0_fresh_6 rfl (lv_at hl 1 rfl) ?_
  refine va_get (D := G) (ci := 0) (v := .ref (ad 11)) (C := RX0) (T := TX0) (N := 11) hx hb hts hiX0 hown hK hP 1 rfl rfl 8 (by decide) (hts (.fieldLink RX0 34 "TreapVersions$Store" "taken" "[Z") (by decide +kernel)) (fun _ h9 => h9) rfl dX0_fresh_7 ?_
  refine lv_iload hx hb dX0_fresh_10 (lv_at hl 0 rfl) ?_
  refine lv_iconst (v := 1) hx hb dX0_fresh_12 (by decide) ?_
  refine va_zast hx hb hK hP hD hS 11 1 rfl rfl (wrZ.hin hw) dX0_fresh_13 (fun H locs hP hD hS => ?_)
  obtain ⟨u3, eu3⟩ : ∃ z : CS, z = cset u1 7 (upd (u1 7) r2.toNatClampNeg (vp_nar .boolean 1)) := ⟨_, rfl⟩
  have hP : va_P G vwCl (cw ad C V cI cZ (cset u1 7 (upd (u1 7) r2.toNatClampNeg (vp_nar .boolean 1)))) H := hP
  have hD : va_D A (cw ad C V cI cZ (cset u1 7 (upd (u1 7) r2.toNatClampNeg (vp_nar .boolean 1)))) := hD
  rw [← eu3] at hP hD
  have hw := wrZ.go hw u3 eu3
  refine lv_aload_n hx hb dX0_fresh_14 rfl (lv_at hl 1 rfl) ?_
  refine lv_dup hx hb dX0_fresh_15 rfl ?_
  refine va_get (D := G) (ci := 0) (v := .int (u3 6 0)) (C := RX0) (T := TX0) (N := 11) hx hb hts hiX0 hown hK hP 1 rfl rfl 7 (by decide) (hts (.fieldLink RX0 44 "TreapVersions$Store" "usedPlaces" "I") (by decide +kernel)) (fun _ h9 => h9) rfl dX0_fresh_16 ?_
  refine lv_topi (fun z4 ez4 => ?_)
  have hw := nmI.go hw z4 ez4
  refine lv_iconst (v := 1) hx hb dX0_fresh_19 (by decide) ?_
  refine lv_iadd hx hb dX0_fresh_20 ?_
  refine lv_topi (fun z5 ez5 => ?_)
  have hw := nmI.go hw z5 ez5
  refine va_put (D := G) (ci := 0) (v := .int z5) (ty := .int) (C := RX0) (T := TX0) (N := 11) hx hb hts hiX0 tyX0 tyX0_ok nmX0 hown hK hP hD hS 1 rfl rfl 7 (by decide) (hts (.fieldLink RX0 44 "TreapVersions$Store" "usedPlaces" "I") (by decide +kernel)) (fun _ h9 => h9) rfl (by decide +kernel) rfl rfl (Nat.le_of_ble_eq_true rfl) dX0_fresh_21 (fun H locs hP hD hS => ?_)
  obtain ⟨u6, eu6⟩ : ∃ z : CS, z = cset u3 6 (fun _ => z5) := ⟨_, rfl⟩
  have hP : va_P G vwCl (cw ad C V cI cZ (cset u3 6 (fun _ => z5))) H := hP
  have hD : va_D A (cw ad C V cI cZ (cset u3 6 (fun _ => z5))) := hD
  rw [← eu6] at hP hD
  have hw := stF.go hw u6 eu6
  refine lv_aload_n hx hb dX0_fresh_24 rfl (lv_at hl 1 rfl) ?_
  refine va_get (D := G) (ci := 0) (v := .ref (ad 5)) (C := RX0) (T := TX0) (N := 11) hx hb hts hiX0 hown hK hP 1 rfl rfl 1 (by decide) (hts (.fieldLink RX0 15 "TreapVersions$Store" "key" "[I") (by decide +kernel)) (fun _ h9 => h9) rfl dX0_fresh_25 ?_
  refine lv_iload hx hb dX0_fresh_28 (lv_at hl 0 rfl) ?_
  refine lv_iload_n hx hb dX0_fresh_30 rfl (lv_at hl 2 rfl) ?_
  refine va_iast hx hb hK hP hD hS 5 0 rfl rfl (wrA.hin hw) dX0_fresh_31 (fun H locs hP hD hS => ?_)
  obtain ⟨u7, eu7⟩ : ∃ z : CS, z = cset u6 0 (upd (u6 0) r2.toNatClampNeg p0) := ⟨_, rfl⟩
  have hP : va_P G vwCl (cw ad C V cI cZ (cset u6 0 (upd (u6 0) r2.toNatClampNeg p0))) H := hP
  have hD : va_D A (cw ad C V cI cZ (cset u6 0 (upd (u6 0) r2.toNatClampNeg p0))) := hD
  rw [← eu7] at hP hD
  have hw := wrA.go hw u7 eu7
  refine lv_aload_n hx hb dX0_fresh_32 rfl (lv_at hl 1 rfl) ?_
  refine va_get (D := G) (ci := 0) (v := .ref (ad 6)) (C := RX0) (T := TX0) (N := 11) hx hb hts hiX0 hown hK hP 1 rfl rfl 2 (by decide) (hts (.fieldLink RX0 19 "TreapVersions$Store" "value" "[I") (by decide +kernel)) (fun _ h9 => h9) rfl dX0_fresh_33 ?_
  refine lv_iload hx hb dX0_fresh_36 (lv_at hl 0 rfl) ?_
  refine lv_iload_n hx hb dX0_fresh_38 rfl (lv_at hl 3 rfl) ?_
  refine va_iast hx hb hK hP hD hS 6 0 rfl rfl (wrA.hin hw) dX0_fresh_39 (fun H locs hP hD hS => ?_)
  obtain ⟨u8, eu8⟩ : ∃ z : CS, z = cset u7 1 (upd (u7 1) r2.toNatClampNeg p1) := ⟨_, rfl⟩
  have hP : va_P G vwCl (cw ad C V cI cZ (cset u7 1 (upd (u7 1) r2.toNatClampNeg p1))) H := hP
  have hD : va_D A (cw ad C V cI cZ (cset u7 1 (upd (u7 1) r2.toNatClampNeg p1))) := hD
  rw [← eu8] at hP hD
  have hw := wrA.go hw u8 eu8
  refine lv_aload_n hx hb dX0_fresh_40 rfl (lv_at hl 1 rfl) ?_
  refine va_get (D := G) (ci := 0) (v := .ref (ad 7)) (C := RX0) (T := TX0) (N := 11) hx hb hts hiX0 hown hK hP 1 rfl rfl 3 (by decide) (hts (.fieldLink RX0 22 "TreapVersions$Store" "weight" "[I") (by decide +kernel)) (fun _ h9 => h9) rfl dX0_fresh_41 ?_
  refine lv_iload hx hb dX0_fresh_44 (lv_at hl 0 rfl) ?_
  refine lv_iload_n hx hb dX0_fresh_46 rfl (lv_at hl 4 rfl) ?_
  refine va_iast hx hb hK hP hD hS 7 0 rfl rfl (wrA.hin hw) dX0_fresh_47 (fun H locs hP hD hS => ?_)
  obtain ⟨u9, eu9⟩ : ∃ z : CS, z = cset u8 2 (upd (u8 2) r2.toNatClampNeg p2) := ⟨_, rfl⟩
  have hP : va_P G vwCl (cw ad C V cI cZ (cset u8 2 (upd (u8 2) r2.toNatClampNeg p2))) H := hP
  have hD : va_D A (cw ad C V cI cZ (cset u8 2 (upd (u8 2) r2.toNatClampNeg p2))) := hD
  rw [← eu9] at hP hD
  have hw := wrA.go hw u9 eu9
  refine lv_aload_n hx hb dX0_fresh_48 rfl (lv_at hl 1 rfl) ?_
  refine va_get (D := G) (ci := 0) (v := .ref (ad 8)) (C := RX0) (T := TX0) (N := 11) hx hb hts hiX0 hown hK hP 1 rfl rfl 4 (by decide) (hts (.fieldLink RX0 25 "TreapVersions$Store" "left" "[I") (by decide +kernel)) (fun _ h9 => h9) rfl dX0_fresh_49 ?_
  refine lv_iload hx hb dX0_fresh_52 (lv_at hl 0 rfl) ?_
  refine lv_iload hx hb dX0_fresh_54 (lv_at hl 5 rfl) ?_
  refine va_iast hx hb hK hP hD hS 8 0 rfl rfl (wrA.hin hw) dX0_fresh_56 (fun H locs hP hD hS => ?_)
  obtain ⟨u10, eu10⟩ : ∃ z : CS, z = cset u9 3 (upd (u9 3) r2.toNatClampNeg p3) := ⟨_, rfl⟩
  have hP : va_P G vwCl (cw ad C V cI cZ (cset u9 3 (upd (u9 3) r2.toNatClampNeg p3))) H := hP
  have hD : va_D A (cw ad C V cI cZ (cset u9 3 (upd (u9 3) r2.toNatClampNeg p3))) := hD
  rw [← eu10] at hP hD
  have hw := wrA.go hw u10 eu10
  refine lv_aload_n hx hb dX0_fresh_57 rfl (lv_at hl 1 rfl) ?_
  refine va_get (D := G) (ci := 0) (v := .ref (ad 9)) (C := RX0) (T := TX0) (N := 11) hx hb hts hiX0 hown hK hP 1 rfl rfl 5 (by decide) (hts (.fieldLink RX0 28 "TreapVersions$Store" "right" "[I") (by decide +kernel)) (fun _ h9 => h9) rfl dX0_fresh_58 ?_
  refine lv_iload hx hb dX0_fresh_61 (lv_at hl 0 rfl) ?_
  refine lv_iload hx hb dX0_fresh_63 (lv_at hl 6 rfl) ?_
  refine va_iast hx hb hK hP hD hS 9 0 rfl rfl (wrA.hin hw) dX0_fresh_65 (fun H locs hP hD hS => ?_)
  obtain ⟨u11, eu11⟩ : ∃ z : CS, z = cset u10 4 (upd (u10 4) r2.toNatClampNeg p4) := ⟨_, rfl⟩
  have hP : va_P G vwCl (cw ad C V cI cZ (cset u10 4 (upd (u10 4) r2.toNatClampNeg p4))) H := hP
  have hD : va_D A (cw ad C V cI cZ (cset u10 4 (upd (u10 4) r2.toNatClampNeg p4))) := hD
  rw [← eu11] at hP hD
  have hw := wrA.go hw u11 eu11
  refine lv_aload_n hx hb dX0_fresh_66 rfl (lv_at hl 1 rfl) ?_
  refine va_get (D := G) (ci := 0) (v := .ref (ad 10)) (C := RX0) (T := TX0) (N := 11) hx hb hts hiX0 hown hK hP 1 rfl rfl 6 (by decide) (hts (.fieldLink RX0 31 "TreapVersions$Store" "count" "[I") (by decide +kernel)) (fun _ h9 => h9) rfl dX0_fresh_67 ?_
  refine lv_iload hx hb dX0_fresh_70 (lv_at hl 0 rfl) ?_
  refine lv_iconst (v := 1) hx hb dX0_fresh_72 (by decide) ?_
  refine lv_aload_n hx hb dX0_fresh_73 rfl (lv_at hl 1 rfl) ?_
  refine va_get (D := G) (ci := 0) (v := .ref (ad 10)) (C := RX0) (T := TX0) (N := 11) hx hb hts hiX0 hown hK hP 1 rfl rfl 6 (by decide) (hts (.fieldLink RX0 31 "TreapVersions$Store" "count" "[I") (by decide +kernel)) (fun _ h9 => h9) rfl dX0_fresh_74 ?_
  refine lv_iload hx hb dX0_fresh_77 (lv_at hl 5 rfl) ?_
  refine va_iald hx hb hK hP 10 0 rfl rfl (rdA.hin hw) dX0_fresh_79 ?_
  refine lv_topi (fun z12 ez12 => ?_)
  have hw := rdA.go hw z12 ez12
  refine lv_iadd hx hb dX0_fresh_80 ?_
  refine lv_topi (fun z13 ez13 => ?_)
  have hw := nmI.go hw z13 ez13
  refine lv_aload_n hx hb dX0_fresh_81 rfl (lv_at hl 1 rfl) ?_
  refine va_get (D := G) (ci := 0) (v := .ref (ad 10)) (C := RX0) (T := TX0) (N := 11) hx hb hts hiX0 hown hK hP 1 rfl rfl 6 (by decide) (hts (.fieldLink RX0 31 "TreapVersions$Store" "count" "[I") (by decide +kernel)) (fun _ h9 => h9) rfl dX0_fresh_82 ?_
  refine lv_iload hx hb dX0_fresh_85 (lv_at hl 6 rfl) ?_
  refine va_iald hx hb hK hP 10 0 rfl rfl (rdA.hin hw) dX0_fresh_87 ?_
  refine lv_topi (fun z14 ez14 => ?_)
  have hw := rdA.go hw z14 ez14
  refine lv_iadd hx hb dX0_fresh_88 ?_
  refine lv_topi (fun z15 ez15 => ?_)
  have hw := nmI.go hw z15 ez15
  refine va_iast hx hb hK hP hD hS 10 0 rfl rfl (wrA.hin hw) dX0_fresh_89 (fun H locs hP hD hS => ?_)
  obtain ⟨u16, eu16⟩ : ∃ z : CS, z = cset u11 5 (upd (u11 5) r2.toNatClampNeg z15) := ⟨_, rfl⟩
  have hP : va_P G vwCl (cw ad C V cI cZ (cset u11 5 (upd (u11 5) r2.toNatClampNeg z15))) H := hP
  have hD : va_D A (cw ad C V cI cZ (cset u11 5 (upd (u11 5) r2.toNatClampNeg z15))) := hD
  rw [← eu16] at hP hD
  have hw := wrA.go hw u16 eu16
  refine lv_iload hx hb dX0_fresh_90 (lv_at hl 0 rfl) ?_
  exact hret r2 u16 92 _ _ _ dX0_fresh_92 rfl hw hP hD hS
end
