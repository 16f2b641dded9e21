section
-- ===== PART A: goes FIRST, ahead of the names: the tables' words, and 'selects' of the private methods out of them =====
/-- a private method of a class that the tables say can be made, by its rows of tables_1 -/
def lw_okq (q : MethodName × Nat) : Prop := (q.1.cls ≠ "java/lang/invoke/MethodHandle" ∧ q.1.cls ≠ "java/lang/invoke/VarHandle") ∧ Cond.instantiable q.1.cls q.2 ∈ tables_1 ∧ Cond.privateMethod q.1 ∈ tables_1 ∧ Cond.instanceMethod q.1 ∈ tables_1
theorem lw_p0 : lw_okq (⟨"PortRules", "isPart", "(I)Z"⟩, 19) := ⟨⟨by decide +kernel, by decide +kernel⟩, List.mem_of_getElem? (i := 10) (by decide +kernel), List.mem_of_getElem? (i := 86) (by decide +kernel), List.mem_of_getElem? (i := 87) (by decide +kernel)⟩
theorem lw_p1 : lw_okq (⟨"PortRules", "endAtomic", "(I)V"⟩, 19) := ⟨⟨by decide +kernel, by decide +kernel⟩, List.mem_of_getElem? (i := 10) (by decide +kernel), List.mem_of_getElem? (i := 90) (by decide +kernel), List.mem_of_getElem? (i := 91) (by decide +kernel)⟩
theorem lw_p2 : lw_okq (⟨"PortRules", "addAtomicPort", "(I)V"⟩, 19) := ⟨⟨by decide +kernel, by decide +kernel⟩, List.mem_of_getElem? (i := 10) (by decide +kernel), List.mem_of_getElem? (i := 102) (by decide +kernel), List.mem_of_getElem? (i := 103) (by decide +kernel)⟩
theorem lw_p3 : lw_okq (⟨"PortRules", "isPort", "(I)Z"⟩, 19) := ⟨⟨by decide +kernel, by decide +kernel⟩, List.mem_of_getElem? (i := 10) (by decide +kernel), List.mem_of_getElem? (i := 110) (by decide +kernel), List.mem_of_getElem? (i := 111) (by decide +kernel)⟩
theorem lw_p4 : lw_okq (⟨"PortRules", "isWay", "(II)Z"⟩, 19) := ⟨⟨by decide +kernel, by decide +kernel⟩, List.mem_of_getElem? (i := 10) (by decide +kernel), List.mem_of_getElem? (i := 122) (by decide +kernel), List.mem_of_getElem? (i := 123) (by decide +kernel)⟩
theorem lw_p5 : lw_okq (⟨"PortRules", "spreadReach", "(II)V"⟩, 19) := ⟨⟨by decide +kernel, by decide +kernel⟩, List.mem_of_getElem? (i := 10) (by decide +kernel), List.mem_of_getElem? (i := 129) (by decide +kernel), List.mem_of_getElem? (i := 130) (by decide +kernel)⟩
theorem lw_p6 : lw_okq (⟨"PortRules", "flatFrom", "(I)J"⟩, 19) := ⟨⟨by decide +kernel, by decide +kernel⟩, List.mem_of_getElem? (i := 10) (by decide +kernel), List.mem_of_getElem? (i := 137) (by decide +kernel), List.mem_of_getElem? (i := 138) (by decide +kernel)⟩
theorem lw_p7 : lw_okq (⟨"PortRules", "firstBadPort", "(I)I"⟩, 19) := ⟨⟨by decide +kernel, by decide +kernel⟩, List.mem_of_getElem? (i := 10) (by decide +kernel), List.mem_of_getElem? (i := 154) (by decide +kernel), List.mem_of_getElem? (i := 155) (by decide +kernel)⟩
theorem lw_p8 : lw_okq (⟨"PortRules", "portBreaks", "(II)Z"⟩, 19) := ⟨⟨by decide +kernel, by decide +kernel⟩, List.mem_of_getElem? (i := 10) (by decide +kernel), List.mem_of_getElem? (i := 158) (by decide +kernel), List.mem_of_getElem? (i := 159) (by decide +kernel)⟩
theorem lw_p9 : lw_okq (⟨"PortRules", "flatCountTo", "(I)I"⟩, 19) := ⟨⟨by decide +kernel, by decide +kernel⟩, List.mem_of_getElem? (i := 10) (by decide +kernel), List.mem_of_getElem? (i := 162) (by decide +kernel), List.mem_of_getElem? (i := 163) (by decide +kernel)⟩
theorem lw_p10 : lw_okq (⟨"PortRules", "firstBadConnector", "(I)I"⟩, 19) := ⟨⟨by decide +kernel, by decide +kernel⟩, List.mem_of_getElem? (i := 10) (by decide +kernel), List.mem_of_getElem? (i := 166) (by decide +kernel), List.mem_of_getElem? (i := 167) (by decide +kernel)⟩
theorem lw_p11 : lw_okq (⟨"PortRules", "connectorBreaks", "(III)Z"⟩, 19) := ⟨⟨by decide +kernel, by decide +kernel⟩, List.mem_of_getElem? (i := 10) (by decide +kernel), List.mem_of_getElem? (i := 170) (by decide +kernel), List.mem_of_getElem? (i := 171) (by decide +kernel)⟩
theorem lw_p12 : lw_okq (⟨"PortRules", "isExactScaling", "(II)Z"⟩, 19) := ⟨⟨by decide +kernel, by decide +kernel⟩, List.mem_of_getElem? (i := 10) (by decide +kernel), List.mem_of_getElem? (i := 174) (by decide +kernel), List.mem_of_getElem? (i := 175) (by decide +kernel)⟩
theorem lw_p13 : lw_okq (⟨"PortRules", "servesVersion", "(II)Z"⟩, 19) := ⟨⟨by decide +kernel, by decide +kernel⟩, List.mem_of_getElem? (i := 10) (by decide +kernel), List.mem_of_getElem? (i := 178) (by decide +kernel), List.mem_of_getElem? (i := 179) (by decide +kernel)⟩
theorem lw_p14 : lw_okq (⟨"PortRules", "managesMode", "(I)Z"⟩, 19) := ⟨⟨by decide +kernel, by decide +kernel⟩, List.mem_of_getElem? (i := 10) (by decide +kernel), List.mem_of_getElem? (i := 182) (by decide +kernel), List.mem_of_getElem? (i := 183) (by decide +kernel)⟩
theorem lw_p15 : lw_okq (⟨"PortRules", "flatSeconds", "()J"⟩, 19) := ⟨⟨by decide +kernel, by decide +kernel⟩, List.mem_of_getElem? (i := 10) (by decide +kernel), List.mem_of_getElem? (i := 206) (by decide +kernel), List.mem_of_getElem? (i := 207) (by decide +kernel)⟩
def lw_privs_1 : List (MethodName × Nat) := [(⟨"PortRules", "isPart", "(I)Z"⟩, 19), (⟨"PortRules", "endAtomic", "(I)V"⟩, 19), (⟨"PortRules", "addAtomicPort", "(I)V"⟩, 19), (⟨"PortRules", "isPort", "(I)Z"⟩, 19), (⟨"PortRules", "isWay", "(II)Z"⟩, 19), (⟨"PortRules", "spreadReach", "(II)V"⟩, 19), (⟨"PortRules", "flatFrom", "(I)J"⟩, 19), (⟨"PortRules", "firstBadPort", "(I)I"⟩, 19), (⟨"PortRules", "portBreaks", "(II)Z"⟩, 19), (⟨"PortRules", "flatCountTo", "(I)I"⟩, 19), (⟨"PortRules", "firstBadConnector", "(I)I"⟩, 19), (⟨"PortRules", "connectorBreaks", "(III)Z"⟩, 19), (⟨"PortRules", "isExactScaling", "(II)Z"⟩, 19), (⟨"PortRules", "servesVersion", "(II)Z"⟩, 19), (⟨"PortRules", "managesMode", "(I)Z"⟩, 19), (⟨"PortRules", "flatSeconds", "()J"⟩, 19)]
theorem lw_r1 : ∀ q ∈ lw_privs_1, lw_okq q := List.forall_mem_cons.mpr ⟨lw_p0, List.forall_mem_cons.mpr ⟨lw_p1, List.forall_mem_cons.mpr ⟨lw_p2, List.forall_mem_cons.mpr ⟨lw_p3, List.forall_mem_cons.mpr ⟨lw_p4, List.forall_mem_cons.mpr ⟨lw_p5, List.forall_mem_cons.mpr ⟨lw_p6, List.forall_mem_cons.mpr ⟨lw_p7, List.forall_mem_cons.mpr ⟨lw_p8, List.forall_mem_cons.mpr ⟨lw_p9, List.forall_mem_cons.mpr ⟨lw_p10, List.forall_mem_cons.mpr ⟨lw_p11, List.forall_mem_cons.mpr ⟨lw_p12, List.forall_mem_cons.mpr ⟨lw_p13, List.forall_mem_cons.mpr ⟨lw_p14, List.forall_mem_cons.mpr ⟨lw_p15, fun _ h => absurd h List.not_mem_nil⟩⟩⟩⟩⟩⟩⟩⟩⟩⟩⟩⟩⟩⟩⟩⟩
theorem lw_p16 : lw_okq (⟨"PortRules", "nthPort", "(JI)I"⟩, 19) := ⟨⟨by decide +kernel, by decide +kernel⟩, List.mem_of_getElem? (i := 10) (by decide +kernel), List.mem_of_getElem? (i := 210) (by decide +kernel), List.mem_of_getElem? (i := 211) (by decide +kernel)⟩
theorem lw_p17 : lw_okq (⟨"java/lang/Throwable", "fillInStackTrace", "(I)Ljava/lang/Throwable;"⟩, 6) := ⟨⟨by decide +kernel, by decide +kernel⟩, List.mem_of_getElem? (i := 258) (by decide +kernel), List.mem_of_getElem? (i := 256) (by decide +kernel), List.mem_of_getElem? (i := 257) (by decide +kernel)⟩
theorem lw_p18 : lw_okq (⟨"PortRulesModel", "isPort", "(I)Z"⟩, 18) := ⟨⟨by decide +kernel, by decide +kernel⟩, List.mem_of_getElem? (i := 288) (by decide +kernel), List.mem_of_getElem? (i := 369) (by decide +kernel), List.mem_of_getElem? (i := 370) (by decide +kernel)⟩
theorem lw_p19 : lw_okq (⟨"PortRulesModel", "isWay", "(II)Z"⟩, 18) := ⟨⟨by decide +kernel, by decide +kernel⟩, List.mem_of_getElem? (i := 288) (by decide +kernel), List.mem_of_getElem? (i := 379) (by decide +kernel), List.mem_of_getElem? (i := 380) (by decide +kernel)⟩
theorem lw_p20 : lw_okq (⟨"PortRulesModel", "flat", "(I)I"⟩, 18) := ⟨⟨by decide +kernel, by decide +kernel⟩, List.mem_of_getElem? (i := 288) (by decide +kernel), List.mem_of_getElem? (i := 387) (by decide +kernel), List.mem_of_getElem? (i := 388) (by decide +kernel)⟩
theorem lw_p21 : lw_okq (⟨"PortRulesModel", "know", "()V"⟩, 18) := ⟨⟨by decide +kernel, by decide +kernel⟩, List.mem_of_getElem? (i := 288) (by decide +kernel), List.mem_of_getElem? (i := 391) (by decide +kernel), List.mem_of_getElem? (i := 392) (by decide +kernel)⟩
theorem lw_p22 : lw_okq (⟨"PortRulesModel", "isFlat", "(II)Z"⟩, 18) := ⟨⟨by decide +kernel, by decide +kernel⟩, List.mem_of_getElem? (i := 288) (by decide +kernel), List.mem_of_getElem? (i := 395) (by decide +kernel), List.mem_of_getElem? (i := 396) (by decide +kernel)⟩
theorem lw_p23 : lw_okq (⟨"PortRulesModel", "isAtomic", "(I)Z"⟩, 18) := ⟨⟨by decide +kernel, by decide +kernel⟩, List.mem_of_getElem? (i := 288) (by decide +kernel), List.mem_of_getElem? (i := 399) (by decide +kernel), List.mem_of_getElem? (i := 400) (by decide +kernel)⟩
theorem lw_p24 : lw_okq (⟨"PortRulesModel", "isReading", "(I)Z"⟩, 18) := ⟨⟨by decide +kernel, by decide +kernel⟩, List.mem_of_getElem? (i := 288) (by decide +kernel), List.mem_of_getElem? (i := 411) (by decide +kernel), List.mem_of_getElem? (i := 412) (by decide +kernel)⟩
theorem lw_p25 : lw_okq (⟨"PortRulesModel", "isBrokenAt", "(II)Z"⟩, 18) := ⟨⟨by decide +kernel, by decide +kernel⟩, List.mem_of_getElem? (i := 288) (by decide +kernel), List.mem_of_getElem? (i := 415) (by decide +kernel), List.mem_of_getElem? (i := 416) (by decide +kernel)⟩
theorem lw_p26 : lw_okq (⟨"PortRulesModel", "leadTo", "(I)I"⟩, 18) := ⟨⟨by decide +kernel, by decide +kernel⟩, List.mem_of_getElem? (i := 288) (by decide +kernel), List.mem_of_getElem? (i := 419) (by decide +kernel), List.mem_of_getElem? (i := 420) (by decide +kernel)⟩
theorem lw_p27 : lw_okq (⟨"PortRulesModel", "isBroken", "(III)Z"⟩, 18) := ⟨⟨by decide +kernel, by decide +kernel⟩, List.mem_of_getElem? (i := 288) (by decide +kernel), List.mem_of_getElem? (i := 423) (by decide +kernel), List.mem_of_getElem? (i := 424) (by decide +kernel)⟩
theorem lw_p28 : lw_okq (⟨"PortRulesModel", "isManaging", "(I)Z"⟩, 18) := ⟨⟨by decide +kernel, by decide +kernel⟩, List.mem_of_getElem? (i := 288) (by decide +kernel), List.mem_of_getElem? (i := 427) (by decide +kernel), List.mem_of_getElem? (i := 428) (by decide +kernel)⟩
def lw_privs_2 : List (MethodName × Nat) := [(⟨"PortRules", "nthPort", "(JI)I"⟩, 19), (⟨"java/lang/Throwable", "fillInStackTrace", "(I)Ljava/lang/Throwable;"⟩, 6), (⟨"PortRulesModel", "isPort", "(I)Z"⟩, 18), (⟨"PortRulesModel", "isWay", "(II)Z"⟩, 18), (⟨"PortRulesModel", "flat", "(I)I"⟩, 18), (⟨"PortRulesModel", "know", "()V"⟩, 18), (⟨"PortRulesModel", "isFlat", "(II)Z"⟩, 18), (⟨"PortRulesModel", "isAtomic", "(I)Z"⟩, 18), (⟨"PortRulesModel", "isReading", "(I)Z"⟩, 18), (⟨"PortRulesModel", "isBrokenAt", "(II)Z"⟩, 18), (⟨"PortRulesModel", "leadTo", "(I)I"⟩, 18), (⟨"PortRulesModel", "isBroken", "(III)Z"⟩, 18), (⟨"PortRulesModel", "isManaging", "(I)Z"⟩, 18)]
theorem lw_r2 : ∀ q ∈ lw_privs_2, lw_okq q := List.forall_mem_cons.mpr ⟨lw_p16, List.forall_mem_cons.mpr ⟨lw_p17, List.forall_mem_cons.mpr ⟨lw_p18, List.forall_mem_cons.mpr ⟨lw_p19, List.forall_mem_cons.mpr ⟨lw_p20, List.forall_mem_cons.mpr ⟨lw_p21, List.forall_mem_cons.mpr ⟨lw_p22, List.forall_mem_cons.mpr ⟨lw_p23, List.forall_mem_cons.mpr ⟨lw_p24, List.forall_mem_cons.mpr ⟨lw_p25, List.forall_mem_cons.mpr ⟨lw_p26, List.forall_mem_cons.mpr ⟨lw_p27, List.forall_mem_cons.mpr ⟨lw_p28, fun _ h => absurd h List.not_mem_nil⟩⟩⟩⟩⟩⟩⟩⟩⟩⟩⟩⟩⟩
def lw_privs : List (MethodName × Nat) := lw_privs_1 ++ (lw_privs_2)
def lw_tbl : List Cond := k2_sels lw_privs ++ tables_1
theorem lw_privs_ok : ∀ q ∈ lw_privs, lw_okq q := by
  show ∀ q ∈ lw_privs_1 ++ (lw_privs_2), lw_okq q
  exact List.forall_mem_append.mpr ⟨lw_r1, lw_r2⟩
end
section
/-! ===== BEGIN words of one list among another's, by their places ===== -/
theorem goodIn_r {big : List Cond} (ws : List Cond) (ps : List Nat) (hp : ws = ps.filterMap (fun i => big[i]?)) (h : ws.all goodWord = true) : GoodIn big ws := by
  intro w hw
  have h1 := List.all_eq_true.mp h w hw
  rw [hp] at hw
  obtain ⟨i, -, hi⟩ := List.mem_filterMap.mp hw
  have hm : w ∈ big := by first | exact List.mem_of_getElem? hi | exact List.getElem?_mem hi
  exact ⟨hm, good_of_word h1⟩
theorem goodIn_app {big a b : List Cond} (ha : GoodIn big a) (hb : GoodIn big b) : GoodIn big (a ++ b) := fun w h => (List.mem_append.mp h).elim (ha w) (hb w)
theorem goodIn_ca {big a b : List Cond} {c : Cond} (ha : GoodIn big (c :: a)) (hb : GoodIn big b) : GoodIn big (c :: (a ++ b)) := fun w h => (List.mem_cons.mp h).elim (fun e => ha w (List.mem_cons.mpr (Or.inl e))) (fun h => (List.mem_append.mp h).elim (fun h => ha w (List.mem_cons.mpr (Or.inr h))) (hb w))
theorem goodIn_sub {big ws : List Cond} (hm : ∀ w ∈ ws, w ∈ big) (h : ws.all goodWord = true) : GoodIn big ws := fun w hw => ⟨hm w hw, good_of_word (List.all_eq_true.mp h w hw)⟩
/-! ===== END ===== -/

/-! ===== BEGIN exceptions that leave a method, and their catching by the caller (launches without stack traces) ===== -/
section VXA
/-! The laws vx_back, vx_callV, vx_callS, vx_callSW, vx_throw0, vx_throwS follow proofs of the library, with one case more: JvmDerived/Free/Laws.lean (Back.of_free), Shelf42/LK1.lean (callV, callS), Shelf/KitTraced.lean (throwNew0V, throwNewS). -/
/-- where a method has thrown q: the class by its name, the cell, what was written, the world -/
def vx_T (XC : String → State → State → Prop) (st : State) (q : Addr) (t : State) (mc ms : Nat) (free : Addr → Prop) : Prop :=
  ∃ (E : String) (ce : Cell) (L : List Loc), XC E st t ∧ t.heap[q]? = some ce ∧ ce.vm = .none ∧ st.vm.findClass E = some ce.cls ∧ st.WarmedH t.vm ∧ st.sameButNew ({ t with vm := st.vm } : State) L mc ms ∧ ∀ z ∈ L, free z.base
def vx_Q (Qc : Array Value → State → Outcome → State → Prop) (XC : String → State → State → Prop) (mc ms : Nat) (free : Addr → Prop) : Array Value → State → Outcome → State → Prop := fun a st o t =>
  (Qc a st o t ∧ ∃ L, FrameEnd st o t L mc ms ∧ ∀ q ∈ L, free q.base) ∨ ∃ q, o = .threw q ∧ vx_T XC st q t mc ms free
/-- a callee that returns or throws -/
def vx_Met (l : Launch) (y : MethodName) (ws : List Cond) (rm : Room) (Pc : Array Value → State → Prop) (Qc : Array Value → State → Outcome → State → Prop) (XC : String → State → State → Prop) (mc ms : Nat) (free : Addr → Prop) : Prop :=
  MetFree l y (headSpec ws rm) Pc (fun _ _ _ _ _ => True) (vx_Q Qc XC mc ms free)
def vx_Post (XC : String → State → State → Prop) (mc ms : Nat) (free : Addr → Prop) : Pt → Array Value → Addr → Pt → Prop := fun A a q B =>
  ∃ (g : JFrame) (mk : MethodId) (t : State) (L : List Loc) (E : String) (ce : Cell), B.U.heap = t.heap ∧ B.U.vm = t.vm ∧ XC E (A.U.calling g mk a) t ∧ t.heap[q]? = some ce ∧ ce.vm = .none ∧ A.U.vm.findClass E = some ce.cls ∧ B.locs = A.locs ++ L ∧ (∀ z ∈ L, free z.base) ∧ B.cells = A.cells + mc ∧ B.slots = A.slots + ms
def vx_Back (l : Launch) (R : Room) (p : Program) (e : Env) (below : List Frame) (s : State) (sargs : Array Value) (y : MethodName) (len W9 : Nat)
    (Pre : Pt → Array Value → Prop) (Post : Pt → Array Value → Option Value → Pt → Prop) (PostX : Pt → Array Value → Addr → Pt → Prop) : Prop :=
  ∀ (m : MethodId) (meth : Method) (c : Code) (A : Pt) (g : JFrame) (ig : Instr) (mk : MethodId) (a : Array Value),
    Stand p l e R s m sargs below meth c A.U A.locs A.cells A.slots → g.method = m → g.locals.size = c.maxLocals → decode c.code g.pc = .ok (ig, len) →
    2 * g.monitorRoom + (g.stack.map fun v => v.category).sum ≤ W9 → A.U.methodNamed? y = some mk → Pre A a →
    (∃ (v : Option Value) (B : Pt), Stand p l e R s m sargs below meth c B.U B.locs B.cells B.slots ∧ Post A a v B ∧
      Steps p.tables e below (doInvoke e (A.U.setTop g) [] mk a).1 (B.U.setTop { g with pc := g.pc + len, stack := v.toList ++ g.stack })) ∨
    (∃ (q : Addr) (B : Pt), Stand p l e R s m sargs below meth c B.U B.locs B.cells B.slots ∧ PostX A a q B ∧
      Steps p.tables e below (doInvoke e (A.U.setTop g) [] mk a).1 ((B.U.setTop g).pushFrame (.throwing q)))
section Payer
variable {l : Launch} {R : Room} {p : Program} {e : Env} {below : List Frame} {s : State} {sargs : Array Value} {y : MethodName} {len W9 : Nat}
theorem vx_back {ws : List Cond} {rm : Room} {Pc : Array Value → State → Prop} {Qc : Array Value → State → Outcome → State → Prop} {XC : String → State → State → Prop} {mc ms : Nat} {free : Addr → Prop} {bytes : ByteArray} {maxL : Nat} {ret : Option FieldType}
    (hM : vx_Met l y ws rm Pc Qc XC mc ms free) (hblind : FrameBlind Pc) (hrc : rm.cells = mc) (hrs : rm.slots = ms)
    (hframes : rm.frames + 1 ≤ R.frames) (hlocals : W9 + (maxL + 11) + rm.locals ≤ R.locals)
    (hws : ∀ w ∈ ws, ∀ a' U, s.WarmedH U.vm → w.before a' U = true) (hcode : Cond.code y bytes maxL ret ∈ ws) (hinit : ∀ a' U, s.WarmedH U.vm → (Cond.initialized y.cls).before a' U = true) :
    vx_Back l R p e below s sargs y len W9 (PreOf R mc ms Pc) (PostOf Qc mc ms free) (vx_Post XC mc ms free) := by
  intro m meth c A g ig mk a X hg hsize hdg hW hn hp
  have h1 : (headSpec ws rm).pre.before a A.U = true := atoms_intro fun w hw => hws w hw _ _ X.warmed
  have h2 : (Cond.code y bytes maxL ret).before a A.U = true := hws _ hcode _ _ X.warmed
  have h3 : (Cond.initialized y.cls).before a A.U = true := hinit _ _ X.warmed
  have h4 : A.cells + (headSpec ws rm).room.cells ≤ R.cells := by rw [show (headSpec ws rm).room.cells = mc from hrc]; exact hp.1
  have h5 : A.slots + (headSpec ws rm).room.slots ≤ R.slots := by rw [show (headSpec ws rm).room.slots = ms from hrs]; exact hp.2.1
  have hPc : Pc a (A.U.calling g mk a) := hblind _ _ _ _ hp.2.2
  obtain ⟨U, Ls, c0, s0⟩ := A
  dsimp only [Pt.U, Pt.locs, Pt.cells, Pt.slots] at h1 h2 h3 h4 h5 X hn hPc ⊢
  obtain ⟨methY, cY, hmY, hcY, -, hlY, -, -, -, -⟩ := Cond.code_spec hn h2
  obtain ⟨kY, hkY, -⟩ := className_of_methodNamed hn
  have hinitY : kY.init = .initialized := Cond.initialized_spec (findClass_of_methodNamed hn) hkY h3
  have h : At U g.method c below := by rw [hg]; exact X.here
  have hlocals9 : W9 + (maxL + 11) + (headSpec ws rm).room.locals ≤ R.locals := hlocals
  have happ : (headSpec ws rm).appliesLoose y e.platform (U.calling g mk a) = true :=
    Spec.appliesLoose_calling (g := g) h hdg hn hkY hinitY
      (X.room_calling (g := g) (R' := (headSpec ws rm).room) hsize hmY hcY hframes (by rw [hlY]; omega) h4 h5) h1
  obtain ⟨mid, hmid⟩ := h.above
  have hfr : (U.setTop g).frames = (.java g :: mid) ++ below := by rw [State.frames_setTop' g h.top, hmid]; rfl
  obtain ⟨o, s₂, hsteps, -, hend, hq⟩ := Steps.callFree hM p X.admits X.cas X.clock (acts := []) hfr happ hPc trivial
  have hq' : vx_Q Qc XC mc ms free a (U.calling g mk a) o s₂ := hq
  rw [State.frames_setTop' g h.top] at hend
  obtain ⟨g₀, hg0⟩ := Option.isSome_iff_exists.mp h.top
  obtain ⟨r, hr⟩ := State.topJava?_eq_some.mp hg0
  have hr' : (({ U with heap := s₂.heap, slotsUsed := s₂.slotsUsed } : State).setVm s₂.vm).frames = .java g₀ :: r := hr
  rcases hq' with ⟨hqc, L, hfe, hL⟩ | ⟨q, rfl, E, ce, L, hx, hce, hcv, hcl, hW₂, hsm, hL⟩
  · obtain ⟨⟨v, rfl⟩, hW₂, e2, q2, q3, q4, q5, q6⟩ := id hfe
    have e3 : s₂ = ({ (U.calling g mk a).setFrames s₂.frames with heap := s₂.heap, slotsUsed := s₂.slotsUsed } : State).setVm s₂.vm := by
      have : s₂ = ({ s₂ with vm := (U.calling g mk a).vm } : State).setVm s₂.vm := rfl
      rw [e2] at this
      exact this
    obtain ⟨c₂, i₂, len₂, hc₂, hd₂, hf₂⟩ := hend
    have hW' : U.WarmedH s₂.vm := hW₂
    have hcc : c₂ = c := by
      have h1 : s₂.code? g.method = U.code? g.method := by
        rw [State.code?_eq, State.code?_eq, hW'.alike.method?]
      exact Option.some.inj (hc₂.symm.trans (h1.trans h.code))
    subst hcc
    have hlen : len₂ = len := by rw [hdg] at hd₂; cases hd₂; rfl
    subst hlen
    have hs₂ : s₂ = (({ U with heap := s₂.heap, slotsUsed := s₂.slotsUsed } : State).setVm s₂.vm).setTop { g with pc := g.pc + len₂, stack := v.toList ++ g.stack } := by
      refine e3.trans ?_
      rw [hf₂, State.calling_eq h.top, State.setFrames_setFrames, State.setTop_of_frames _ hr', hr]
      rfl
    have hsame : U.sameButNew ({ U with heap := s₂.heap, slotsUsed := s₂.slotsUsed } : State) L mc ms := by
      refine ⟨?_, q2, q3, q4, q5, q6⟩
      obtain ⟨t, ht, -⟩ := State.frames_cons hr
      show ({ U with heap := s₂.heap, slotsUsed := s₂.slotsUsed } : State) = { U.setFrames U.frames with heap := s₂.heap, slotsUsed := s₂.slotsUsed }
      rw [State.setFrames_self ht]
    subst hg
    refine Or.inl ⟨v, ⟨(({ U with heap := s₂.heap, slotsUsed := s₂.slotsUsed } : State).setVm s₂.vm), Ls ++ L, c0 + mc, s0 + ms⟩,
      ⟨X.admits, X.cas, X.clock, X.frames, X.room, X.hears, X.method, X.code, (X.here.setHeapUsed s₂.heap s₂.slotsUsed).setVm hW'.alike, X.tail, State.WarmedH.trans X.warmed hW', X.limits, X.bytes, X.same.trans (hsame.setVm s.vm)⟩,
      ⟨g, mk, s₂, L, rfl, rfl, hqc, rfl, hL, rfl, rfl⟩, ?_⟩
    show Steps p.tables e below _ ((({ U with heap := s₂.heap, slotsUsed := s₂.slotsUsed } : State).setVm s₂.vm).setTop { g with pc := g.pc + len₂, stack := v.toList ++ g.stack })
    rw [← hs₂]
    exact hsteps
  · obtain ⟨e2, q2, q3, q4, q5, q6⟩ := id hsm
    have e3 : s₂ = ({ (U.calling g mk a).setFrames s₂.frames with heap := s₂.heap, slotsUsed := s₂.slotsUsed } : State).setVm s₂.vm := by
      have : s₂ = ({ s₂ with vm := (U.calling g mk a).vm } : State).setVm s₂.vm := rfl
      rw [e2] at this
      exact this
    have hf₂ : s₂.frames = .throwing q :: .java g :: U.frames.tail := hend
    have hW' : U.WarmedH s₂.vm := hW₂
    have hs₂ : s₂ = ((({ U with heap := s₂.heap, slotsUsed := s₂.slotsUsed } : State).setVm s₂.vm).setTop g).pushFrame (.throwing q) := by
      refine e3.trans ?_
      rw [hf₂, State.calling_eq h.top, State.setFrames_setFrames, State.pushFrame, State.frames_setTop _ hr', State.setTop_of_frames _ hr', State.setFrames_setFrames, hr]
      rfl
    have hsame : U.sameButNew ({ U with heap := s₂.heap, slotsUsed := s₂.slotsUsed } : State) L mc ms := by
      refine ⟨?_, q2, q3, q4, q5, q6⟩
      obtain ⟨t, ht, -⟩ := State.frames_cons hr
      show ({ U with heap := s₂.heap, slotsUsed := s₂.slotsUsed } : State) = { U.setFrames U.frames with heap := s₂.heap, slotsUsed := s₂.slotsUsed }
      rw [State.setFrames_self ht]
    subst hg
    refine Or.inr ⟨q, ⟨(({ U with heap := s₂.heap, slotsUsed := s₂.slotsUsed } : State).setVm s₂.vm), Ls ++ L, c0 + mc, s0 + ms⟩,
      ⟨X.admits, X.cas, X.clock, X.frames, X.room, X.hears, X.method, X.code, (X.here.setHeapUsed s₂.heap s₂.slotsUsed).setVm hW'.alike, X.tail, State.WarmedH.trans X.warmed hW', X.limits, X.bytes, X.same.trans (hsame.setVm s.vm)⟩,
      ⟨g, mk, s₂, L, E, ce, rfl, rfl, hx, hce, hcv, hcl, rfl, hL, rfl, rfl⟩, ?_⟩
    show Steps p.tables e below _ (((({ U with heap := s₂.heap, slotsUsed := s₂.slotsUsed } : State).setVm s₂.vm).setTop g).pushFrame (.throwing q))
    rw [← hs₂]
    exact hsteps
end Payer
section Calls
variable {p : Program} {l : Launch} {e : Env} {R : Room} {s : State} {m : MethodId} {args : Array Value} {below : List Frame} {meth : Method} {c : Code} {T : State} {locs : List Loc} {cells slots : Nat}
theorem vx_callV (X : Stand p l e R s m args below meth c T locs cells slots) (hexec : p.tables.exec = Jvm.exec) {own C : String} {index : Nat} {y : MethodName} {bytes : ByteArray} {maxL : Nat} {ret : Option FieldType}
    (hown : s.vm.findClass own = some m.cls) (hlink : (Cond.methodLink own index y).before args s = true) (hinst : (Cond.instanceMethod y).before args s = true) (hsel : (Cond.selects C y y).before args s = true)
    (hcode : (Cond.code y bytes maxL ret).before args s = true) (hy : y.cls ≠ "java/lang/invoke/MethodHandle" ∧ y.cls ≠ "java/lang/invoke/VarHandle")
    {W9 : Nat} {Pre : Pt → Array Value → Prop} {Post : Pt → Array Value → Option Value → Pt → Prop} {PostX : Pt → Array Value → Addr → Pt → Prop} (hK : vx_Back l R p e below s args y 3 W9 Pre Post PostX)
    {b : Addr} {cellB : Cell} (hcell : T.heap[b]? = some cellB) (hobj : cellB.vm.isStatics = false) (hcls : s.vm.findClass C = some cellB.cls)
    {g : JFrame} (hg : g.method = m) (hsize : g.locals.size = c.maxLocals) {argsL rest : List Value} (hlen : ∀ sig, parseMethodDescriptor y.desc = some sig → argsL.length = sig.parameters.length)
    (hstack : g.stack = argsL.reverse ++ .ref b :: rest) (hW : 2 * g.monitorRoom + (rest.map fun v => v.category).sum ≤ W9) (hdg : decode c.code g.pc = .ok (.invokevirtual index, 3))
    (hpre : ∀ vm₁, s.WarmedH vm₁ → Pre ⟨T.setVm vm₁, locs, cells, slots⟩ (Value.ref b :: argsL).toArray) :
    (∃ (v : Option Value) (vm₁ : Vm) (B : Pt), s.WarmedH vm₁ ∧ Stand p l e R s m args below meth c B.U B.locs B.cells B.slots ∧ Post ⟨T.setVm vm₁, locs, cells, slots⟩ (Value.ref b :: argsL).toArray v B ∧
      ∀ target, Steps p.tables e below (B.U.setTop { g with pc := g.pc + 3, stack := v.toList ++ rest }) target → Steps p.tables e below (T.setTop g) target) ∨
    (∃ (q : Addr) (vm₁ : Vm) (B : Pt), s.WarmedH vm₁ ∧ Stand p l e R s m args below meth c B.U B.locs B.cells B.slots ∧ PostX ⟨T.setVm vm₁, locs, cells, slots⟩ (Value.ref b :: argsL).toArray q B ∧
      Steps p.tables e below (T.setTop g) ((B.U.setTop { g with stack := rest }).pushFrame (.throwing q))) := by
  obtain ⟨mk, methM, hnamed, hmethM, hstM, habM⟩ := Cond.instanceMethod_spec hinst
  obtain ⟨methM', cM, hmethM', -, -, -, -, -, -, hsigM⟩ := Cond.code_spec hnamed hcode
  cases hmethM.symm.trans hmethM'
  obtain ⟨c2, r2, m2, q1, q2, q3, q4, kP, hkP, hkPi⟩ := Cond.selects_spec hsel
  cases hcls.symm.trans q1
  cases (State.methodFound?_of_named hnamed hy).symm.trans q2
  cases hnamed.symm.trans q3
  have hselP : selectMethod e.platform s.vm cellB.cls mk = .method mk := by rw [Launch.admits_selectMethod X.admits]; exact q4
  obtain ⟨vm₁, X₁, hstep₁⟩ := X.invokevirtual hexec hown hlink hnamed hmethM hstM hkP hkPi hy (a := b) (cell := cellB) hcell
    (fun z h => by rw [h] at hobj; cases hobj) hselP hmethM habM hkP hkPi (g := g) hg (argsL := argsL) (rest := rest) (hlen _ hsigM) hstack hdg
  rcases hK m meth c ⟨T.setVm vm₁, locs, cells, slots⟩ { g with stack := rest } (.invokevirtual index) mk (Value.ref b :: argsL).toArray X₁ hg hsize hdg hW (X₁.named hnamed) (hpre vm₁ X₁.warmed) with ⟨v, B, X', hpost, hsteps⟩ | ⟨q, B, X', hpost, hsteps⟩
  · exact Or.inl ⟨v, vm₁, B, X₁.warmed, X', hpost, fun target h => hstep₁ _ fun acts => by rw [doInvoke_state]; exact hsteps.trans h⟩
  · exact Or.inr ⟨q, vm₁, B, X₁.warmed, X', hpost, hstep₁ _ fun acts => by rw [doInvoke_state]; exact hsteps⟩
theorem vx_callS (X : Stand p l e R s m args below meth c T locs cells slots) (hexec : p.tables.exec = Jvm.exec) {own : String} {index : Nat} {y : MethodName} {bytes : ByteArray} {maxL : Nat} {ret : Option FieldType}
    (hown : s.vm.findClass own = some m.cls) (hlink : (Cond.methodLink own index y).before args s = true) (hstat : (Cond.static y).before args s = true) (hinit : (Cond.initialized y.cls).before args s = true)
    (hcode : (Cond.code y bytes maxL ret).before args s = true) (hy : y.cls ≠ "java/lang/invoke/MethodHandle" ∧ y.cls ≠ "java/lang/invoke/VarHandle")
    {W9 : Nat} {Pre : Pt → Array Value → Prop} {Post : Pt → Array Value → Option Value → Pt → Prop} {PostX : Pt → Array Value → Addr → Pt → Prop} (hK : vx_Back l R p e below s args y 3 W9 Pre Post PostX)
    {g : JFrame} (hg : g.method = m) (hsize : g.locals.size = c.maxLocals) {argsL rest : List Value} (hlen : ∀ sig, parseMethodDescriptor y.desc = some sig → argsL.length = sig.parameters.length)
    (hstack : g.stack = argsL.reverse ++ rest) (hW : 2 * g.monitorRoom + (rest.map fun v => v.category).sum ≤ W9) (hdg : decode c.code g.pc = .ok (.invokestatic index, 3))
    (hpre : ∀ vm₁, s.WarmedH vm₁ → Pre ⟨T.setVm vm₁, locs, cells, slots⟩ argsL.toArray) :
    (∃ (v : Option Value) (vm₁ : Vm) (B : Pt), s.WarmedH vm₁ ∧ Stand p l e R s m args below meth c B.U B.locs B.cells B.slots ∧ Post ⟨T.setVm vm₁, locs, cells, slots⟩ argsL.toArray v B ∧
      ∀ target, Steps p.tables e below (B.U.setTop { g with pc := g.pc + 3, stack := v.toList ++ rest }) target → Steps p.tables e below (T.setTop g) target) ∨
    (∃ (q : Addr) (vm₁ : Vm) (B : Pt), s.WarmedH vm₁ ∧ Stand p l e R s m args below meth c B.U B.locs B.cells B.slots ∧ PostX ⟨T.setVm vm₁, locs, cells, slots⟩ argsL.toArray q B ∧
      Steps p.tables e below (T.setTop g) ((B.U.setTop { g with stack := rest }).pushFrame (.throwing q))) := by
  obtain ⟨mk, hnamed⟩ := Cond.code_named hcode
  obtain ⟨methM, cM, hmethM, -, -, -, -, -, -, hsigM⟩ := Cond.code_spec hnamed hcode
  have hstatic : methM.isStatic = true := Cond.static_spec hnamed hmethM hstat
  obtain ⟨kP, hkP, -⟩ := className_of_methodNamed hnamed
  have hinitP : kP.init = .initialized := Cond.initialized_spec (findClass_of_methodNamed hnamed) hkP hinit
  obtain ⟨vm₁, X₁, hstep₁⟩ := X.invokestatic hexec hown hlink hnamed hmethM hstatic hkP hinitP hy (g := g) hg (argsL := argsL) (rest := rest) (hlen _ hsigM) hstack hdg
  rcases hK m meth c ⟨T.setVm vm₁, locs, cells, slots⟩ { g with stack := rest } (.invokestatic index) mk argsL.toArray X₁ hg hsize hdg hW (X₁.named hnamed) (hpre vm₁ X₁.warmed) with ⟨v, B, X', hpost, hsteps⟩ | ⟨q, B, X', hpost, hsteps⟩
  · exact Or.inl ⟨v, vm₁, B, X₁.warmed, X', hpost, fun target h => hstep₁ _ fun acts => by rw [doInvoke_state]; exact hsteps.trans h⟩
  · exact Or.inr ⟨q, vm₁, B, X₁.warmed, X', hpost, hstep₁ _ fun acts => by rw [doInvoke_state]; exact hsteps⟩
end Calls
theorem vx_cls {s : State} {T : State} {vm₁ : Vm} {E : String} {k : ClassId} (hW : s.WarmedH vm₁) (h : (T.setVm vm₁).vm.findClass E = some k) : s.vm.findClass E = some k := by
  have h1 : vm₁.findClass E = some k := h
  rw [hW.alike.findClass] at h1
  exact h1
/-- the method's frame g, with q thrown over it -/
def vx_W (p : Program) (l : Launch) (e : Env) (R : Room) (s : State) (m : MethodId) (args : Array Value) (below : List Frame) (meth : Method) (c : Code) (H : Heap) (locs : List Loc) (cells slots : Nat) (Q : State → Prop) (g : JFrame) (q : Addr) : Prop :=
  ∀ T : State, T.heap = H → Stand p l e R s m args below meth c T locs cells slots → ∃ t, Steps p.tables e below ((T.setTop g).pushFrame (.throwing q)) t ∧ Q t
def vx_Run (p : Program) (l : Launch) (e : Env) (R : Room) (s : State) (m : MethodId) (args : Array Value) (below : List Frame) (meth : Method) (c : Code) (H : Heap) (locs : List Loc) (cells slots mc ms : Nat) (g : JFrame) (rest : List Value) (Qa : State → Outcome → State → Prop) (XC : String → State → State → Prop) (free : Addr → Prop) : Prop :=
  ∀ T : State, T.heap = H → Stand p l e R s m args below meth c T locs cells slots →
    (∃ (v : Option Value) (st₀ t T' : State) (L : List Loc), st₀.heap = H ∧ Stand p l e R s m args below meth c T' (locs ++ L) (cells + mc) (slots + ms) ∧ (∀ q ∈ L, free q.base) ∧ T'.heap = t.heap ∧ T'.vm = t.vm ∧ Qa st₀ (.returned v) t ∧
      Goes p e below T g T' { g with pc := g.pc + 3, stack := v.toList ++ rest }) ∨
    (∃ (q : Addr) (st₀ t T' : State) (L : List Loc) (E : String) (ce : Cell), st₀.heap = H ∧ Stand p l e R s m args below meth c T' (locs ++ L) (cells + mc) (slots + ms) ∧ (∀ z ∈ L, free z.base) ∧ T'.heap = t.heap ∧ T'.vm = t.vm ∧ XC E st₀ t ∧ t.heap[q]? = some ce ∧ ce.vm = .none ∧ s.vm.findClass E = some ce.cls ∧
      Steps p.tables e below (T.setTop g) ((T'.setTop { g with stack := rest }).pushFrame (.throwing q)))
def vx_X {S : Type} (px : S → Prop) (B : String → S → State → Prop) (A : Nat → Prop) : String → State → State → Prop := fun E st t => ∃ u : S, px u ∧ B E u t ∧ va_F A st t
section Runs
variable {p : Program} {l : Launch} {e : Env} {R : Room} {s : State} {m : MethodId} {args : Array Value} {below : List Frame} {meth : Method} {c : Code} {H : Heap} {locs : List Loc} {cells slots : Nat}
variable {y : MethodName} {bytes cc : ByteArray} {maxL nL mc ms n index : Nat} {ret : Option FieldType} {ws : List Cond} {rm : Room} {Pc : Array Value → State → Prop} {Qc : Array Value → State → Outcome → State → Prop} {XC : String → State → State → Prop} {free : Addr → Prop} {Ts : List Cond} {own C : String} {b : Addr} {As rest : List Value} {g : JFrame}
theorem vx_callBack (cb : CallB R s args own index y bytes maxL ret ws rm mc ms n) (hM : vx_Met l y ws rm Pc Qc XC mc ms free) (hbl : FrameBlind Pc) : vx_Back l R p e below s args y 3 8 (PreOf R mc ms Pc) (PostOf Qc mc ms free) (vx_Post XC mc ms free) := by
  obtain ⟨hrc, hrs, hfr, hlo, hws, hcw, -, hini, -⟩ := cb
  exact vx_back (bytes := bytes) (maxL := maxL) (ret := ret) hM hbl hrc hrs hfr hlo hws hcw (fun a' U hW => word_at hW (Or.inl (by first | rfl | simp [Cond.onTables, Cond.keeps, Cond.steady])) hini)
theorem vx_runV (S : CallFix p m c cc nL s args Ts own) (hM : vx_Met l y ws rm Pc Qc XC mc ms free) (cw : CallW R s args own C index y bytes maxL ret ws rm mc ms n) (hp : PreV s H C b Pc As)
    (hg : g.method = m) (hn : As.length = n) (hsize : g.locals.size = nL) (hstack : g.stack = As.reverse ++ .ref b :: rest) (hW : 2 * g.monitorRoom + (rest.map fun v => v.category).sum ≤ 8) (hdg : decode cc g.pc = .ok (.invokevirtual index, 3)) (hf : cells + mc ≤ R.cells ∧ slots + ms ≤ R.slots) :
    vx_Run p l e R s m args below meth c H locs cells slots mc ms g rest (Qc (Value.ref b :: As).toArray) XC free := by
  have hK : vx_Back l R p e below s args y 3 8 (PreOf R mc ms Pc) (PostOf Qc mc ms free) (vx_Post XC mc ms free) := vx_callBack cw.1 hM hp.1
  obtain ⟨⟨-, -, -, -, -, -, hcode, -, hy, hlen, hl⟩, hin, hse⟩ := cw
  obtain ⟨hx, hb, hml, ho, -⟩ := S
  obtain ⟨-, ⟨cellB, hcB, hoB, hclB⟩, hPc⟩ := hp
  intro T hT X
  rcases vx_callV X hx (C := C) (bytes := bytes) (maxL := maxL) (ret := ret) ho hl hin hse hcode hy hK (by rw [hT]; exact hcB) hoB hclB hg (hsize.trans hml.symm) (argsL := As) (rest := rest) (fun sig h => hn.trans (hlen sig h)) hstack hW (by rw [hb]; exact hdg)
    (fun vm₁ hW₁ => ⟨hf.1, hf.2, hPc (T.setVm vm₁) hT hW₁⟩) with ⟨v, vm₁, ⟨U', l2, c2, s2⟩, hW₁, X', ⟨g', mk, t, L, e1, e2, hq, h1, hL, h2, h3⟩, st⟩ | ⟨q, vm₁, ⟨U', l2, c2, s2⟩, hW₁, X', ⟨g', mk, t, L, E, ce, e1, e2, hq, hce, hcv, hcl, h1, hL, h2, h3⟩, st⟩
  · dsimp only [Pt.U, Pt.locs, Pt.cells, Pt.slots] at X' e1 e2 h1 h2 h3 st
    subst h1; subst h2; subst h3
    exact Or.inl ⟨v, (T.setVm vm₁).calling g' mk (Value.ref b :: As).toArray, t, U', L, hT, X', hL, e1, e2, hq, st⟩
  · dsimp only [Pt.U, Pt.locs, Pt.cells, Pt.slots] at X' e1 e2 h1 h2 h3 st hcl
    subst h1; subst h2; subst h3
    exact Or.inr ⟨q, (T.setVm vm₁).calling g' mk (Value.ref b :: As).toArray, t, U', L, E, ce, hT, X', hL, e1, e2, hq, hce, hcv, vx_cls hW₁ hcl, st⟩
theorem vx_runS (S : CallFix p m c cc nL s args Ts own) (hM : vx_Met l y ws rm Pc Qc XC mc ms free) (cw : CallB R s args own index y bytes maxL ret ws rm mc ms n ∧ (Cond.static y).before args s = true) (hp : PreS s H Pc As)
    (hg : g.method = m) (hn : As.length = n) (hsize : g.locals.size = nL) (hstack : g.stack = As.reverse ++ rest) (hW : 2 * g.monitorRoom + (rest.map fun v => v.category).sum ≤ 8) (hdg : decode cc g.pc = .ok (.invokestatic index, 3)) (hf : cells + mc ≤ R.cells ∧ slots + ms ≤ R.slots) :
    vx_Run p l e R s m args below meth c H locs cells slots mc ms g rest (Qc As.toArray) XC free := by
  have hK : vx_Back l R p e below s args y 3 8 (PreOf R mc ms Pc) (PostOf Qc mc ms free) (vx_Post XC mc ms free) := vx_callBack cw.1 hM hp.1
  obtain ⟨⟨-, -, -, -, -, -, hcode, hini, hy, hlen, hl⟩, hstt⟩ := cw
  obtain ⟨hx, hb, hml, ho, -⟩ := S
  intro T hT X
  rcases vx_callS X hx (bytes := bytes) (maxL := maxL) (ret := ret) ho hl hstt hini hcode hy hK hg (hsize.trans hml.symm) (argsL := As) (rest := rest) (fun sig h => hn.trans (hlen sig h)) hstack hW (by rw [hb]; exact hdg)
    (fun vm₁ hW₁ => ⟨hf.1, hf.2, hp.2 (T.setVm vm₁) hT hW₁⟩) with ⟨v, vm₁, ⟨U', l2, c2, s2⟩, hW₁, X', ⟨g', mk, t, L, e1, e2, hq, h1, hL, h2, h3⟩, st⟩ | ⟨q, vm₁, ⟨U', l2, c2, s2⟩, hW₁, X', ⟨g', mk, t, L, E, ce, e1, e2, hq, hce, hcv, hcl, h1, hL, h2, h3⟩, st⟩
  · dsimp only [Pt.U, Pt.locs, Pt.cells, Pt.slots] at X' e1 e2 h1 h2 h3 st
    subst h1; subst h2; subst h3
    exact Or.inl ⟨v, (T.setVm vm₁).calling g' mk As.toArray, t, U', L, hT, X', hL, e1, e2, hq, st⟩
  · dsimp only [Pt.U, Pt.locs, Pt.cells, Pt.slots] at X' e1 e2 h1 h2 h3 st hcl
    subst h1; subst h2; subst h3
    exact Or.inr ⟨q, (T.setVm vm₁).calling g' mk As.toArray, t, U', L, E, ce, hT, X', hL, e1, e2, hq, hce, hcv, vx_cls hW₁ hcl, st⟩
end Runs
section Rows
variable {p : Program} {l : Launch} {e : Env} {R : Room} {s : State} {m : MethodId} {args : Array Value} {below : List Frame} {meth : Method} {c : Code} {H : Heap} {locs : List Loc} {cells slots : Nat} {Q : State → Prop}
variable {mc ms : Nat} {free : Addr → Prop} {A0 A1 : Nat → Prop} {H0 : Heap} {a : Array Value} {pc : Nat} {ls : Array Slot} {st0 rest : List Value}
theorem vx_keep {st₀ t T' : State} {L : List Loc} (h0 : st₀.heap = H) (e1 : T'.heap = t.heap) (hS : va_S A0 H0 H locs) (hA : ∀ q, q < H.size → A1 q → A0 q) (hf : ∀ q, free q → A0 q) (hL : ∀ q ∈ L, free q.base) (hF : va_F A1 st₀ t) :
    H.size ≤ T'.heap.size ∧ (∀ q : Nat, q < H.size → ¬ A1 q → T'.heap[q]? = H[q]?) ∧ va_S A0 H0 T'.heap (locs ++ L) := by
  obtain ⟨hz, hk⟩ := hF
  rw [h0] at hz hk
  exact ⟨by rw [e1]; exact hz, fun q h1 h2 => by rw [e1]; exact hk q h1 h2,
    ⟨Nat.le_trans hS.1 (by rw [e1]; exact hz), fun q h1 h2 => by rw [e1, hk q (Nat.lt_of_lt_of_le h1 hS.1) (fun z => h2 (hA q (Nat.lt_of_lt_of_le h1 hS.1) z))]; exact hS.2.1 q h1 h2, fun q hq => by
      rcases List.mem_append.mp hq with h | h
      · exact hS.2.2 q h
      · exact hf _ (hL q h)⟩⟩
theorem vx_calli {S SX : Type} {post : Int32 → S → Prop} {px : SX → Prop} {B : S → State → Prop} {BX : String → SX → State → Prop} {AX : Nat → Prop} (hr : vx_Run p l e R s m args below meth c H locs cells slots mc ms (F0 m pc ls st0) rest (va_Qi post B A1 a) (vx_X px BX AX) free) (hS : va_S A0 H0 H locs) (hA : ∀ q, q < H.size → A1 q → A0 q) (hf : ∀ q, free q → A0 q) (hAX : ∀ q, q < H.size → AX q → A0 q)
    (kx : ∀ (E : String) (ce : Cell) (q9 : Addr) (u : SX) (t : State) (H1 : Heap) (locs1 : List Loc), t.heap = H1 → s.vm.Alike t.vm → px u → BX E u t → H.size ≤ H1.size → (∀ q : Nat, q < H.size → ¬ AX q → H1[q]? = H[q]?) → va_S A0 H0 H1 locs1 → H1[q9]? = some ce → ce.vm = .none → s.vm.findClass E = some ce.cls → vx_W p l e R s m args below meth c H1 locs1 (cells + mc) (slots + ms) Q (F0 m pc ls rest) q9)
    (kk : ∀ (r : Int32) (u : S) (t : State) (H1 : Heap) (locs1 : List Loc), t.heap = H1 → s.vm.Alike t.vm → post r u → B u t → H.size ≤ H1.size → (∀ q : Nat, q < H.size → ¬ A1 q → H1[q]? = H[q]?) → va_S A0 H0 H1 locs1 → W p l e R s m args below meth c H1 locs1 (cells + mc) (slots + ms) Q (F0 m (pc + 3) ls (.int r :: rest))) : W p l e R s m args below meth c H locs cells slots Q (F0 m pc ls st0) := by
  intro T hT X
  rcases hr T hT X with ⟨v, st₀, t, T', L, h0, X', hL, e1, e2, ⟨⟨r, u, hv, hp, hb⟩, hF⟩, st⟩ | ⟨q, st₀, t, T', L, E, ce, h0, X', hL, e1, e2, ⟨u, hp, hb, hF⟩, hce, hcv, hcl, st⟩
  · cases hv
    obtain ⟨k1, k2, k3⟩ := vx_keep h0 e1 hS hA hf hL hF
    obtain ⟨t2, a1, b1⟩ := kk r u t T'.heap (locs ++ L) e1.symm (by rw [← e2]; exact X'.warmed.alike) hp hb k1 k2 k3 T' rfl X'
    exact ⟨t2, st t2 a1, b1⟩
  · obtain ⟨k1, k2, k3⟩ := vx_keep h0 e1 hS hAX hf hL hF
    obtain ⟨t2, a1, b1⟩ := kx E ce q u t T'.heap (locs ++ L) e1.symm (by rw [← e2]; exact X'.warmed.alike) hp hb k1 k2 k3 (by rw [e1]; exact hce) hcv hcl T' rfl X'
    exact ⟨t2, st.trans a1, b1⟩
theorem vx_calll {S SX : Type} {post : Int64 → S → Prop} {px : SX → Prop} {B : S → State → Prop} {BX : String → SX → State → Prop} {AX : Nat → Prop} (hr : vx_Run p l e R s m args below meth c H locs cells slots mc ms (F0 m pc ls st0) rest (va_Ql post B A1 a) (vx_X px BX AX) free) (hS : va_S A0 H0 H locs) (hA : ∀ q, q < H.size → A1 q → A0 q) (hf : ∀ q, free q → A0 q) (hAX : ∀ q, q < H.size → AX q → A0 q)
    (kx : ∀ (E : String) (ce : Cell) (q9 : Addr) (u : SX) (t : State) (H1 : Heap) (locs1 : List Loc), t.heap = H1 → s.vm.Alike t.vm → px u → BX E u t → H.size ≤ H1.size → (∀ q : Nat, q < H.size → ¬ AX q → H1[q]? = H[q]?) → va_S A0 H0 H1 locs1 → H1[q9]? = some ce → ce.vm = .none → s.vm.findClass E = some ce.cls → vx_W p l e R s m args below meth c H1 locs1 (cells + mc) (slots + ms) Q (F0 m pc ls rest) q9)
    (kk : ∀ (r : Int64) (u : S) (t : State) (H1 : Heap) (locs1 : List Loc), t.heap = H1 → s.vm.Alike t.vm → post r u → B u t → H.size ≤ H1.size → (∀ q : Nat, q < H.size → ¬ A1 q → H1[q]? = H[q]?) → va_S A0 H0 H1 locs1 → W p l e R s m args below meth c H1 locs1 (cells + mc) (slots + ms) Q (F0 m (pc + 3) ls (.long r :: rest))) : W p l e R s m args below meth c H locs cells slots Q (F0 m pc ls st0) := by
  intro T hT X
  rcases hr T hT X with ⟨v, st₀, t, T', L, h0, X', hL, e1, e2, ⟨⟨r, u, hv, hp, hb⟩, hF⟩, st⟩ | ⟨q, st₀, t, T', L, E, ce, h0, X', hL, e1, e2, ⟨u, hp, hb, hF⟩, hce, hcv, hcl, st⟩
  · cases hv
    obtain ⟨k1, k2, k3⟩ := vx_keep h0 e1 hS hA hf hL hF
    obtain ⟨t2, a1, b1⟩ := kk r u t T'.heap (locs ++ L) e1.symm (by rw [← e2]; exact X'.warmed.alike) hp hb k1 k2 k3 T' rfl X'
    exact ⟨t2, st t2 a1, b1⟩
  · obtain ⟨k1, k2, k3⟩ := vx_keep h0 e1 hS hAX hf hL hF
    obtain ⟨t2, a1, b1⟩ := kx E ce q u t T'.heap (locs ++ L) e1.symm (by rw [← e2]; exact X'.warmed.alike) hp hb k1 k2 k3 (by rw [e1]; exact hce) hcv hcl T' rfl X'
    exact ⟨t2, st.trans a1, b1⟩
theorem vx_callf {S SX : Type} {post : UInt32 → S → Prop} {px : SX → Prop} {B : S → State → Prop} {BX : String → SX → State → Prop} {AX : Nat → Prop} (hr : vx_Run p l e R s m args below meth c H locs cells slots mc ms (F0 m pc ls st0) rest (va_Qf post B A1 a) (vx_X px BX AX) free) (hS : va_S A0 H0 H locs) (hA : ∀ q, q < H.size → A1 q → A0 q) (hf : ∀ q, free q → A0 q) (hAX : ∀ q, q < H.size → AX q → A0 q)
    (kx : ∀ (E : String) (ce : Cell) (q9 : Addr) (u : SX) (t : State) (H1 : Heap) (locs1 : List Loc), t.heap = H1 → s.vm.Alike t.vm → px u → BX E u t → H.size ≤ H1.size → (∀ q : Nat, q < H.size → ¬ AX q → H1[q]? = H[q]?) → va_S A0 H0 H1 locs1 → H1[q9]? = some ce → ce.vm = .none → s.vm.findClass E = some ce.cls → vx_W p l e R s m args below meth c H1 locs1 (cells + mc) (slots + ms) Q (F0 m pc ls rest) q9)
    (kk : ∀ (r : UInt32) (u : S) (t : State) (H1 : Heap) (locs1 : List Loc), t.heap = H1 → s.vm.Alike t.vm → post r u → B u t → H.size ≤ H1.size → (∀ q : Nat, q < H.size → ¬ A1 q → H1[q]? = H[q]?) → va_S A0 H0 H1 locs1 → W p l e R s m args below meth c H1 locs1 (cells + mc) (slots + ms) Q (F0 m (pc + 3) ls (.float r :: rest))) : W p l e R s m args below meth c H locs cells slots Q (F0 m pc ls st0) := by
  intro T hT X
  rcases hr T hT X with ⟨v, st₀, t, T', L, h0, X', hL, e1, e2, ⟨⟨r, u, hv, hp, hb⟩, hF⟩, st⟩ | ⟨q, st₀, t, T', L, E, ce, h0, X', hL, e1, e2, ⟨u, hp, hb, hF⟩, hce, hcv, hcl, st⟩
  · cases hv
    obtain ⟨k1, k2, k3⟩ := vx_keep h0 e1 hS hA hf hL hF
    obtain ⟨t2, a1, b1⟩ := kk r u t T'.heap (locs ++ L) e1.symm (by rw [← e2]; exact X'.warmed.alike) hp hb k1 k2 k3 T' rfl X'
    exact ⟨t2, st t2 a1, b1⟩
  · obtain ⟨k1, k2, k3⟩ := vx_keep h0 e1 hS hAX hf hL hF
    obtain ⟨t2, a1, b1⟩ := kx E ce q u t T'.heap (locs ++ L) e1.symm (by rw [← e2]; exact X'.warmed.alike) hp hb k1 k2 k3 (by rw [e1]; exact hce) hcv hcl T' rfl X'
    exact ⟨t2, st.trans a1, b1⟩
theorem vx_calld {S SX : Type} {post : UInt64 → S → Prop} {px : SX → Prop} {B : S → State → Prop} {BX : String → SX → State → Prop} {AX : Nat → Prop} (hr : vx_Run p l e R s m args below meth c H locs cells slots mc ms (F0 m pc ls st0) rest (va_Qd post B A1 a) (vx_X px BX AX) free) (hS : va_S A0 H0 H locs) (hA : ∀ q, q < H.size → A1 q → A0 q) (hf : ∀ q, free q → A0 q) (hAX : ∀ q, q < H.size → AX q → A0 q)
    (kx : ∀ (E : String) (ce : Cell) (q9 : Addr) (u : SX) (t : State) (H1 : Heap) (locs1 : List Loc), t.heap = H1 → s.vm.Alike t.vm → px u → BX E u t → H.size ≤ H1.size → (∀ q : Nat, q < H.size → ¬ AX q → H1[q]? = H[q]?) → va_S A0 H0 H1 locs1 → H1[q9]? = some ce → ce.vm = .none → s.vm.findClass E = some ce.cls → vx_W p l e R s m args below meth c H1 locs1 (cells + mc) (slots + ms) Q (F0 m pc ls rest) q9)
    (kk : ∀ (r : UInt64) (u : S) (t : State) (H1 : Heap) (locs1 : List Loc), t.heap = H1 → s.vm.Alike t.vm → post r u → B u t → H.size ≤ H1.size → (∀ q : Nat, q < H.size → ¬ A1 q → H1[q]? = H[q]?) → va_S A0 H0 H1 locs1 → W p l e R s m args below meth c H1 locs1 (cells + mc) (slots + ms) Q (F0 m (pc + 3) ls (.double r :: rest))) : W p l e R s m args below meth c H locs cells slots Q (F0 m pc ls st0) := by
  intro T hT X
  rcases hr T hT X with ⟨v, st₀, t, T', L, h0, X', hL, e1, e2, ⟨⟨r, u, hv, hp, hb⟩, hF⟩, st⟩ | ⟨q, st₀, t, T', L, E, ce, h0, X', hL, e1, e2, ⟨u, hp, hb, hF⟩, hce, hcv, hcl, st⟩
  · cases hv
    obtain ⟨k1, k2, k3⟩ := vx_keep h0 e1 hS hA hf hL hF
    obtain ⟨t2, a1, b1⟩ := kk r u t T'.heap (locs ++ L) e1.symm (by rw [← e2]; exact X'.warmed.alike) hp hb k1 k2 k3 T' rfl X'
    exact ⟨t2, st t2 a1, b1⟩
  · obtain ⟨k1, k2, k3⟩ := vx_keep h0 e1 hS hAX hf hL hF
    obtain ⟨t2, a1, b1⟩ := kx E ce q u t T'.heap (locs ++ L) e1.symm (by rw [← e2]; exact X'.warmed.alike) hp hb k1 k2 k3 (by rw [e1]; exact hce) hcv hcl T' rfl X'
    exact ⟨t2, st.trans a1, b1⟩
theorem vx_callv {S SX : Type} {post : S → Prop} {px : SX → Prop} {B : S → State → Prop} {BX : String → SX → State → Prop} {AX : Nat → Prop} (hr : vx_Run p l e R s m args below meth c H locs cells slots mc ms (F0 m pc ls st0) rest (va_Qv post B A1 a) (vx_X px BX AX) free) (hS : va_S A0 H0 H locs) (hA : ∀ q, q < H.size → A1 q → A0 q) (hf : ∀ q, free q → A0 q) (hAX : ∀ q, q < H.size → AX q → A0 q)
    (kx : ∀ (E : String) (ce : Cell) (q9 : Addr) (u : SX) (t : State) (H1 : Heap) (locs1 : List Loc), t.heap = H1 → s.vm.Alike t.vm → px u → BX E u t → H.size ≤ H1.size → (∀ q : Nat, q < H.size → ¬ AX q → H1[q]? = H[q]?) → va_S A0 H0 H1 locs1 → H1[q9]? = some ce → ce.vm = .none → s.vm.findClass E = some ce.cls → vx_W p l e R s m args below meth c H1 locs1 (cells + mc) (slots + ms) Q (F0 m pc ls rest) q9)
    (kk : ∀ (u : S) (t : State) (H1 : Heap) (locs1 : List Loc), t.heap = H1 → s.vm.Alike t.vm → post u → B u t → H.size ≤ H1.size → (∀ q : Nat, q < H.size → ¬ A1 q → H1[q]? = H[q]?) → va_S A0 H0 H1 locs1 → W p l e R s m args below meth c H1 locs1 (cells + mc) (slots + ms) Q (F0 m (pc + 3) ls (rest))) : W p l e R s m args below meth c H locs cells slots Q (F0 m pc ls st0) := by
  intro T hT X
  rcases hr T hT X with ⟨v, st₀, t, T', L, h0, X', hL, e1, e2, ⟨⟨u, hv, hp, hb⟩, hF⟩, st⟩ | ⟨q, st₀, t, T', L, E, ce, h0, X', hL, e1, e2, ⟨u, hp, hb, hF⟩, hce, hcv, hcl, st⟩
  · cases hv
    obtain ⟨k1, k2, k3⟩ := vx_keep h0 e1 hS hA hf hL hF
    obtain ⟨t2, a1, b1⟩ := kk u t T'.heap (locs ++ L) e1.symm (by rw [← e2]; exact X'.warmed.alike) hp hb k1 k2 k3 T' rfl X'
    exact ⟨t2, st t2 a1, b1⟩
  · obtain ⟨k1, k2, k3⟩ := vx_keep h0 e1 hS hAX hf hL hF
    obtain ⟨t2, a1, b1⟩ := kx E ce q u t T'.heap (locs ++ L) e1.symm (by rw [← e2]; exact X'.warmed.alike) hp hb k1 k2 k3 (by rw [e1]; exact hce) hcv hcl T' rfl X'
    exact ⟨t2, st.trans a1, b1⟩
/-- caught by the row x of this method's table; the rows ahead don't take it -/
theorem vx_catch {own name : String} {E : String} {ce : Cell} {q : Addr} (hown : s.vm.findClass own = some m.cls) (pre : List ExceptionTableEntry) (x : ExceptionTableEntry) (suf : List ExceptionTableEntry) (hsplit : c.exceptionTable.toList = pre ++ x :: suf)
    (hpass : ∀ z ∈ pre, covers z pc = false ∨ (z.catchType ≠ 0 ∧ ∃ nm : String, (Cond.classLink own z.catchType nm).before args s = true ∧ va_Nc E nm s)) (hx : covers x pc = true) (h0 : x.catchType ≠ 0)
    (hlink : (Cond.classLink own x.catchType name).before args s = true) (hcast : (Cond.castable E name).before args s = true) (hcell : H[q]? = some ce) (hv : ce.vm = .none) (hcl : s.vm.findClass E = some ce.cls)
    (kk : W p l e R s m args below meth c H locs cells slots Q (F0 m x.handlerPc ls [.ref q])) : vx_W p l e R s m args below meth c H locs cells slots Q (F0 m pc ls rest) q := by
  intro T hT X
  have hpl : e.platform.magicAccessors = ({} : Platform).magicAccessors := by rw [X.admits.platform]
  obtain ⟨c3, c4, hc3, hc4, hasg⟩ := Cond.castable_spec hcast
  cases Option.some.inj (hc3.symm.trans hcl)
  obtain ⟨c5, hc5, hcl5⟩ := Cond.classLink_spec hown hlink e.platform hpl
  cases Option.some.inj (hc4.symm.trans hc5)
  obtain ⟨vm', X', st⟩ := X.thenCaughtThrough q (g := F0 m pc ls rest) rfl (Steps.refl _) (by rw [hT]; exact hcell) (by rw [hv]; rfl) (by obtain ⟨k9, h9, -⟩ := Vm.findClass_spec hcl; exact ⟨k9, h9⟩) pre x suf hsplit
    (fun z hz => by
      rcases hpass z hz with h | ⟨hz0, nm, hl1, hn1⟩
      · exact Or.inl h
      · obtain ⟨c6, hc6, hcl6⟩ := Cond.classLink_spec hown hl1 e.platform hpl
        obtain ⟨a8, b8, h1, h2, h3⟩ := hn1
        cases Option.some.inj (h1.symm.trans hcl)
        cases Option.some.inj (h2.symm.trans hc6)
        exact Or.inr ⟨hz0, _, hcl6, h3⟩) hx (Or.inr ⟨h0, c4, hcl5, hasg⟩)
  obtain ⟨t, a1, b1⟩ := kk (T.setVm vm') hT X'
  exact ⟨t, st.trans a1, b1⟩
end Rows
section Ends
variable {p : Program} {l : Launch} {e : Env} {R : Room} {s : State} {m : MethodId} {args : Array Value} {below : List Frame} {meth : Method} {c : Code} {H : Heap} {locs : List Loc} {cells slots : Nat} {Q : State → Prop}
variable {mc ms : Nat} {free : Addr → Prop} {A0 A1 : Nat → Prop} {H0 : Heap} {a : Array Value} {ls : Array Slot} {st0 rest : List Value}
variable {Qc : Array Value → State → Outcome → State → Prop} {XC : String → State → State → Prop}
/-- what a body that may throw owes at its end -/
def vx_MQ (below : List Frame) (Qc : Array Value → State → Outcome → State → Prop) (XC : String → State → State → Prop) (a : Array Value) (s : State) (mc ms : Nat) (free : Addr → Prop) : State → Prop := fun t =>
  ∃ o, t.status = .running ∧ Ended t below o ∧ vx_Q Qc XC mc ms free a s o t
theorem vx_ret {g : JFrame} {mc ms : Nat} (k : W p l e R s m args below meth c H locs cells slots (MQ below Qc args s mc ms free) g) : W p l e R s m args below meth c H locs cells slots (vx_MQ below Qc XC args s mc ms free) g := by
  intro T hT X
  obtain ⟨t, a1, o, b1, b2, b3, b4⟩ := k T hT X
  exact ⟨t, a1, o, b1, b2, Or.inl ⟨b3, b4⟩⟩
/-- not caught here: it goes on to the caller -/
theorem vx_widen {g : JFrame} {q : Addr} {k n : Nat} (h1 : cells ≤ k) (h2 : slots ≤ n) (kk : vx_W p l e R s m args below meth c H locs k n Q g q) : vx_W p l e R s m args below meth c H locs cells slots Q g q := fun T hT X => kk T hT (stand_widen X h1 h2)
theorem vx_out {pc : Nat} {E : String} {ce : Cell} {q : Addr} {mc ms : Nat} (hout : ∀ x ∈ c.exceptionTable.toList, covers x pc = false) (hlocks : meth.locks = false) (hcell : H[q]? = some ce) (hv : ce.vm = .none) (hcl : s.vm.findClass E = some ce.cls)
    (hx : ∀ t : State, t.heap = H → s.vm.Alike t.vm → XC E s t) (hf : ∀ z ∈ locs, free z.base) (hc : cells ≤ mc) (hs : slots ≤ ms) :
    vx_W p l e R s m args below meth c H locs cells slots (vx_MQ below Qc XC args s mc ms free) (F0 m pc ls rest) q := by
  intro T hT X
  obtain ⟨st1, hrun, hend, hW, hsm⟩ := X.leaveThrown q (g := F0 m pc ls rest) rfl rfl rfl hout hlocks
  have hcell9 : (T.setFrames (.throwing q :: below)).heap[q]? = some ce := by
    show T.heap[q]? = some ce
    rw [hT]; exact hcell
  exact ⟨_, st1, .threw q, hrun, hend, Or.inr ⟨q, rfl, E, ce, locs, hx _ hT hW.alike, hcell9, hv, hcl, hW, hsm.mono hc hs, hf⟩⟩
theorem vx_frame {U : State} {k n : Nat} (h : s.sameButNew ({ U with vm := s.vm } : State) locs k n) : s.heap.size ≤ U.heap.size ∧ ∀ q : Nat, q < s.heap.size → (∀ z ∈ locs, z.base ≠ q) → U.heap[q]? = s.heap[q]? := by
  obtain ⟨-, h2, -, -, -, h6⟩ := h
  refine ⟨h2, fun q hq hz => ?_⟩
  obtain ⟨c9, e1, e2, e3, e4⟩ := h6 q _ (Array.getElem?_eq_getElem hq)
  have hs : c9.slots = (s.heap[q]).slots := Array.ext_getElem? fun i => e4 i fun hm => hz _ hm rfl
  have h9 : c9 = s.heap[q] := by
    rw [hs] at e2
    exact e2
  have e5 : U.heap[q]? = some c9 := e1
  rw [e5, h9, Array.getElem?_eq_getElem hq]
/-- the words of a throw but the four that speak of the heap -/
def vx_no (w : Cond) : Bool := decide (w ≠ .isRef (.static Bundle.tN "UNASSIGNED_STACK" Bundle.steD)) && decide (w ≠ .isRef (.static Bundle.tN "SUPPRESSED_SENTINEL" Bundle.listD)) && decide (w ≠ .laysStatic Bundle.tN "UNASSIGNED_STACK" Bundle.steD) && decide (w ≠ .laysStatic Bundle.tN "SUPPRESSED_SENTINEL" Bundle.listD)
def vx_at0 (own : String) (ic : Nat) (X : String) (names : List String) : List Cond := (Bundle.ownAtoms0 own ic X names).filter vx_no
def vx_atS (own : String) (ic : Nat) (X : String) (names : List String) : List Cond := (Bundle.ownAtoms own ic X names).filter vx_no
/-- a word that the tables alone decide, or a good one -/
def vx_ot (w : Cond) : Bool := w.onTables || goodWord w
theorem vx_ot_at {args a' : Array Value} {s U : State} {w : Cond} (hW : s.WarmedH U.vm) (hvm : s.vm = U.vm) (hg : vx_ot w = true) (h : w.before args s = true) : w.before a' U = true := by
  simp only [vx_ot, Bool.or_eq_true] at hg
  rcases hg with hg | hg
  · exact va_tabs hg hvm h
  · exact word_at hW (good_of_word hg) h
/-- a list's words: the good ones out of the method's own list, the others by premises of their own -/
theorem vx_hat {args : Array Value} {s : State} {L B : List Cond} (h1 : ∀ w ∈ L.filter goodWord, w.before args s = true) (h2 : ∀ w ∈ L.filter (fun w => !goodWord w), w ∈ B) (h3 : ∀ w ∈ B, w.before args s = true) : ∀ w ∈ L, w.before args s = true := by
  intro w hw
  by_cases g : goodWord w = true
  · exact h1 w (List.mem_filter.mpr ⟨hw, g⟩)
  · refine h3 w (h2 w (List.mem_filter.mpr ⟨hw, ?_⟩))
    show (!goodWord w) = true
    cases hgw : goodWord w
    · rfl
    · exact absurd hgw g
theorem vx_c {args : Array Value} {s : State} {w : Cond} {B : List Cond} (h : w.before args s = true) (t : ∀ w ∈ B, w.before args s = true) : ∀ w' ∈ w :: B, w'.before args s = true := fun w' h' => (List.mem_cons.mp h').elim (fun e => by rw [e]; exact h) (t w')
theorem vx_n {args : Array Value} {s : State} : ∀ w ∈ ([] : List Cond), w.before args s = true := fun _ h => nomatch h
theorem vx_own {args : Array Value} {s : State} {L : List Cond} (h1 : ∀ w ∈ L.filter vx_no, w.before args s = true)
    (hU : (Cond.isRef (.static Bundle.tN "UNASSIGNED_STACK" Bundle.steD)).before args s = true) (hN : (Cond.isRef (.static Bundle.tN "SUPPRESSED_SENTINEL" Bundle.listD)).before args s = true)
    (lU : (Cond.laysStatic Bundle.tN "UNASSIGNED_STACK" Bundle.steD).before args s = true) (lN : (Cond.laysStatic Bundle.tN "SUPPRESSED_SENTINEL" Bundle.listD).before args s = true) : ∀ w ∈ L, w.before args s = true := by
  intro w hw
  by_cases e1 : w = .isRef (.static Bundle.tN "UNASSIGNED_STACK" Bundle.steD)
  · rw [e1]; exact hU
  · by_cases e2 : w = .isRef (.static Bundle.tN "SUPPRESSED_SENTINEL" Bundle.listD)
    · rw [e2]; exact hN
    · by_cases e3 : w = .laysStatic Bundle.tN "UNASSIGNED_STACK" Bundle.steD
      · rw [e3]; exact lU
      · by_cases e4 : w = .laysStatic Bundle.tN "SUPPRESSED_SENTINEL" Bundle.listD
        · rw [e4]; exact lN
        · exact h1 w (List.mem_filter.mpr ⟨hw, by unfold vx_no; rw [decide_eq_true e1, decide_eq_true e2, decide_eq_true e3, decide_eq_true e4]; rfl⟩)
/-- where a static field lies, its class's statics cell in H -/
def vx_L (C n d : String) (A : Nat → Prop) (U : State) (H : Heap) : Prop := ∃ (c : ClassId) (k : Class) (i : Nat) (f : Field) (a : Nat) (cell : Cell), U.vm.findClass C = some c ∧ U.fieldFound? C n d = some (c, k, i, f) ∧ f.isStatic = true ∧ k.statics = some a ∧ H[a]? = some cell ∧ cell.vm.isStatics = true ∧ cell.cls = c ∧ f.slot < cell.slots.size ∧ k.staticTypes[f.slot]? = some f.type ∧ ¬ A a
theorem vx_L.moved {C n d : String} {A : Nat → Prop} {u U : State} {H : Heap} (hvm : u.vm.Alike U.vm) (h : vx_L C n d A u H) : vx_L C n d A U H := by
  obtain ⟨c, k, i, f, a, cell, h1, h2, h3, h4, h5, h6, h7, h8, h9, h10⟩ := h
  obtain ⟨k', hi', he⟩ := State.fieldFound?_setVm hvm h2
  exact ⟨c, k', i, f, a, cell, by rw [hvm.findClass]; exact h1, hi', h3, by rw [he]; exact h4, h5, h6, h7, h8, by rw [he]; exact h9, h10⟩
theorem vx_L.kept {C n d : String} {A : Nat → Prop} {U : State} {H H1 : Heap} (h : vx_L C n d A U H) (hq : ∀ a : Nat, a < H.size → ¬ A a → H1[a]? = H[a]?) : vx_L C n d A U H1 := by
  obtain ⟨c, k, i, f, a, cell, h1, h2, h3, h4, h5, h6, h7, h8, h9, h10⟩ := h
  exact ⟨c, k, i, f, a, cell, h1, h2, h3, h4, by rw [hq a (Array.getElem?_eq_some_iff.mp h5).1 h10]; exact h5, h6, h7, h8, h9, h10⟩
theorem vx_L.narrow {C n d : String} {A B : Nat → Prop} {U : State} {H : Heap} (h : vx_L C n d A U H) (hAB : ∀ q, B q → A q) : vx_L C n d B U H := by
  obtain ⟨c, k, i, f, a, cell, h1, h2, h3, h4, h5, h6, h7, h8, h9, h10⟩ := h
  exact ⟨c, k, i, f, a, cell, h1, h2, h3, h4, h5, h6, h7, h8, h9, fun z => h10 (hAB _ z)⟩
theorem vx_L.word {C n d : String} {A : Nat → Prop} {s : State} {args : Array Value} (h : vx_L C n d A s s.heap) : (Cond.laysStatic C n d).before args s = true := by
  obtain ⟨c, k, i, f, a, cell, h1, h2, h3, h4, h5, h6, h7, h8, h9, -⟩ := h
  show (Cond.laysStatic C n d).holds args s none s [] = true
  exact Cond.laysStatic_of h1 h2 h3 h4 h5 h6 h7 h8 h9
/-- .. and what it holds: null or some reference -/
def vx_Zq (C n d : String) (A : Nat → Prop) (U : State) (H : Heap) : Prop := va_Zq C n d A U H ∧ vx_L C n d A U H
theorem vx_Zq.moved {C n d : String} {A : Nat → Prop} {u U : State} {H : Heap} (hvm : u.vm.Alike U.vm) (h : vx_Zq C n d A u H) : vx_Zq C n d A U H := ⟨va_Zq.moved hvm h.1, vx_L.moved hvm h.2⟩
theorem vx_Zq.kept {C n d : String} {A : Nat → Prop} {U : State} {H H1 : Heap} (h : vx_Zq C n d A U H) (hq : ∀ a : Nat, a < H.size → ¬ A a → H1[a]? = H[a]?) : vx_Zq C n d A U H1 := ⟨va_Zq.kept h.1 hq, vx_L.kept h.2 hq⟩
theorem vx_Zq.narrow {C n d : String} {A B : Nat → Prop} {U : State} {H : Heap} (h : vx_Zq C n d A U H) (hAB : ∀ q, B q → A q) : vx_Zq C n d B U H := ⟨va_Zq.narrow h.1 hAB, vx_L.narrow h.2 hAB⟩
theorem vx_Zqof {args : Array Value} {s : State} {C n d : String} {A : Nat → Prop} (hl : (Cond.laysStatic C n d).before args s = true) (hini : (Cond.initialized C).before args s = true) (h : (Cond.isRef (.static C n d)).before args s = true) (hA : ∀ a : Nat, a < s.heap.size → ¬ A a) : vx_Zq C n d A s s.heap := by
  refine ⟨va_Zqof hl hini h hA, ?_⟩
  obtain ⟨c, k, i, f, a, cell, h1, h2, h3, h4, h5, h6, h7, h8, h9⟩ := Cond.laysStatic_spec hl
  exact ⟨c, k, i, f, a, cell, h1, h2, h3, h4, h5, h6, h7, h8, h9, hA a (Array.getElem?_eq_some_iff.mp h5).1⟩
theorem vx_isRef {C n d : String} {v : Value} {A : Nat → Prop} {s : State} {args : Array Value} (h : va_Z C n d v A s s.heap) (hv : v.isRef = true) : (Cond.isRef (.static C n d)).before args s = true := by
  obtain ⟨cf, kf, fi, f, a, cell, h1, h2, h3, h4, h5, h6, h7, -⟩ := h
  have he : (Term.static C n d).eval args s none [] s = some v := by
    simp [Term.eval, State.fieldNamed?, h1, h2, h4, h5, h6, h7]
  simp only [Cond.before, Cond.holds, Cond.value, he]
  cases v <;> simp_all [Value.isRef]
theorem vx_isRefq {C n d : String} {A : Nat → Prop} {s : State} {args : Array Value} (h : va_Zq C n d A s s.heap) : (Cond.isRef (.static C n d)).before args s = true := by
  rcases h with h | ⟨t, h⟩
  · exact vx_isRef h rfl
  · exact vx_isRef h rfl
/-- the same frame, seen from here: as if the method were called anew in this heap -/
theorem vx_rebase {T : State} (X : Stand p l e R s m args below meth c T locs cells slots) {R' : Room} (hf : R'.frames ≤ R.frames) (hl : R'.locals ≤ R.locals) (hc : cells + R'.cells ≤ R.cells) (hs : slots + R'.slots ≤ R.slots) :
    Stand p l e R' ((T.setVm s.vm).setFrames (.invoking m args :: below)) m args below meth c T [] 0 0 := by
  have htop : (T.setVm s.vm).topJava?.isSome := X.here.top
  have hF : ((T.setVm s.vm).setFrames (.invoking m args :: below)).frames = .invoking m args :: below := State.frames_setFrames _ (State.cur_lt_of_top htop)
  obtain ⟨g₀, hg0⟩ := Option.isSome_iff_exists.mp htop
  obtain ⟨r, hr⟩ := State.topJava?_eq_some.mp hg0
  have hl9 : e.platform.stackLimits (T.setVm s.vm).me = e.platform.stackLimits s.me := X.limits
  have hb9 : (T.setVm s.vm).me.stackBytes = s.me.stackBytes := X.bytes
  refine ⟨X.admits, X.cas, X.clock, hF, ?_, X.hears, X.method, X.code, X.here, X.tail, X.warmed, ?_, ?_, ?_⟩
  · have h := X.room
    have hU : ((T.setVm s.vm).setFrames (.invoking m args :: below)).localsInUse = s.localsInUse := by
      rw [State.localsInUse_invoking hF (meth := meth) (c := c) X.method X.code, State.localsInUse_invoking X.frames X.method X.code]
    simp only [State.hasRoom, Bool.and_eq_true, decide_eq_true_eq] at h ⊢
    obtain ⟨⟨⟨⟨h1, h2, h3, h4, h5, h6⟩, h7⟩, h8⟩, h9⟩ := h
    rw [X.frames, List.length_cons] at h2 h3
    have q1 := X.heapSize
    have q2 := X.used
    simp only [hF, hU, List.length_cons, State.stackLimits_setFrames, State.stackBytes_setFrames, hl9, hb9]
    refine ⟨⟨⟨⟨by omega, by omega, by omega, by omega, by omega, h6⟩, ?_⟩, ?_⟩, X.book⟩
    · show T.heap.size + R'.cells ≤ e.platform.maxCells
      omega
    · show T.slotsUsed + R'.slots ≤ e.platform.maxSlots
      omega
  · rw [State.stackLimits_setFrames]; rfl
  · rw [State.stackBytes_setFrames]; rfl
  · refine ⟨?_, Nat.le_refl _, Nat.le_refl _, ?_, ?_, fun a c9 h9 => ⟨c9, h9, rfl, rfl, fun _ _ => rfl⟩⟩
    · obtain ⟨t, ht, -⟩ := State.frames_cons hr
      show T.setVm s.vm = { ((T.setVm s.vm).setFrames (.invoking m args :: below)).setFrames (T.setVm s.vm).frames with heap := T.heap, slotsUsed := T.slotsUsed }
      rw [State.setFrames_setFrames, State.setFrames_self ht]
      rfl
    · show T.slotsUsed = T.slotsUsed + ((T.heap.toList.drop T.heap.size).map (·.slots.size)).sum
      rw [List.drop_eq_nil_of_le (Nat.le_of_eq Array.length_toList)]
      rfl
    · show ((T.heap.toList.drop T.heap.size).map (·.slots.size)).sum ≤ 0
      rw [List.drop_eq_nil_of_le (Nat.le_of_eq Array.length_toList)]
      exact Nat.le_refl _
/-- 'throw new E()': new; dup; invokespecial; athrow -/
theorem vx_throw0 {cc : ByteArray} {pc : Nat} (hexec : p.tables.exec = Jvm.exec) (hb : c.code = cc) (hl : l.stackTraces = false) {own cls : String} {names : List String} {ik ic mc ms : Nat} {A : Nat → Prop}
    (hown : s.vm.findClass own = some m.cls) (hcls : Bundle.fit cls = true) (hnames : ∀ n ∈ names, Bundle.fit n = true)
    (hk : (Cond.classLink own ik cls).before args s = true) (hini : (Cond.initialized cls).before args s = true) (hat : ∀ w ∈ vx_at0 own ic cls names, w.before args s = true)
    (hgood : ∀ w ∈ Cond.classLink own ik cls :: Cond.initialized cls :: vx_at0 own ic cls names, vx_ot w = true)
    (hU : vx_Zq Bundle.tN "UNASSIGNED_STACK" Bundle.steD A s s.heap) (hN : vx_Zq Bundle.tN "SUPPRESSED_SENTINEL" Bundle.listD A s s.heap) (hS : va_S A s.heap H locs) (hsize : ls.size = c.maxLocals)
    (d0 : decode cc pc = .ok (.new ik, 3)) (d3 : decode cc (pc + 3) = .ok (.dup, 1)) (d4 : decode cc (pc + 4) = .ok (.invokespecial ic, 3)) (d7 : decode cc (pc + 7) = .ok (.athrow, 1))
    (hout : ∀ x ∈ c.exceptionTable.toList, covers x (pc + 7) = false)
    (hRframes : names.length + 3 < R.frames) (hRlocals : (rest.map fun v => v.category).sum + (13 * (names.length + 1) + 42) ≤ R.locals) (hRcells : cells + 1 ≤ R.cells) (hRslots : slots + 6 ≤ R.slots) (hlocks : meth.locks = false)
    (hx : ∀ t : State, s.vm.Alike t.vm → H.size ≤ t.heap.size → (∀ q : Nat, q < H.size → t.heap[q]? = H[q]?) → XC cls s t)
    (hf : ∀ z ∈ locs, free z.base) (hc : cells + 1 ≤ mc) (hs : slots + 6 ≤ ms) :
    W p l e R s m args below meth c H locs cells slots (vx_MQ below Qc XC args s mc ms free) (F0 m pc ls rest) := by
  intro T hT X
  have htr : e.platform.stackTraces = false := (show e.platform.stackTraces = l.stackTraces by rw [X.admits.platform]).trans hl
  have Y := vx_rebase X (R' := { frames := R.frames, locals := R.locals, cells := 1, slots := 6 }) (Nat.le_refl _) (Nat.le_refl _) hRcells hRslots
  obtain ⟨s', hA⟩ : ∃ z, z = (T.setVm s.vm).setFrames (.invoking m args :: below) := ⟨_, rfl⟩
  rw [← hA] at Y
  have hvm : s'.vm = s.vm := by rw [hA]; rfl
  have hhp : s'.heap = H := by rw [hA]; exact hT
  have hW0 : s.WarmedH s'.vm := by rw [hvm]; exact State.WarmedH.refl s
  have hat' : ∀ w ∈ vx_at0 own ic cls names, w.before args s' = true := fun w hw => vx_ot_at hW0 hvm.symm (hgood w (List.mem_cons_of_mem _ (List.mem_cons_of_mem _ hw))) (hat w hw)
  have hk' : (Cond.classLink own ik cls).before args s' = true := vx_ot_at hW0 hvm.symm (hgood _ List.mem_cons_self) hk
  have hini' : (Cond.initialized cls).before args s' = true := vx_ot_at hW0 hvm.symm (hgood _ (List.mem_cons_of_mem _ List.mem_cons_self)) hini
  have hU' : vx_Zq Bundle.tN "UNASSIGNED_STACK" Bundle.steD A s' s'.heap := by rw [hhp]; exact vx_Zq.moved hW0.alike (hU.kept hS.2.1)
  have hN' : vx_Zq Bundle.tN "SUPPRESSED_SENTINEL" Bundle.listD A s' s'.heap := by rw [hhp]; exact vx_Zq.moved hW0.alike (hN.kept hS.2.1)
  have h : ∀ w ∈ Bundle.ownAtoms0 own ic cls names, w.before args s' = true := vx_own hat' (vx_isRefq hU'.1) (vx_isRefq hN'.1) hU'.2.word hN'.2.word
  have hown' : s'.vm.findClass own = some m.cls := by rw [hvm]; exact hown
  have hins : (Cond.instantiable cls 6).before args s' = true := h _ (by simp [Bundle.ownAtoms0])
  obtain ⟨vm₁, cX, kX, hfX, hkX, -, -, X₁, st1⟩ := Y.newCold hexec (own := own) (C := cls) (index := ik) (n := 6) hown' hk' hins hini'
    (g := F0 m pc ls rest) rfl (by rw [hb]; exact d0) (Nat.le_refl _) (Nat.le_refl _)
  generalize hT1 : (T.setVm vm₁).pushCell { cls := cX, slots := kX.instanceTypes.map defaultValue, vm := .none } = T1 at X₁ st1
  have hcat : (Value.ref T.heap.size).category = 1 := rfl
  have hcellA : T1.heap[T.heap.size]? = some (freshCell cX kX) := by rw [← hT1]; exact State.heap_pushCell_size _ _
  have d3' : decode c.code (pc + 3) = .ok (.dup, 1) := by rw [hb]; exact d3
  obtain ⟨U, hsteps, hrun, hend, hW, hsame, ce, hce, hO⟩ := X₁.ctorThrow0 hexec htr (own := own) (cls := cls) (names := names) (ic := ic) hown' hcls hnames h (fun x hx => nomatch hx) hfX hkX hcellA (by rw [hhp, hT]; exact Nat.le_refl _)
    (g := { method := m, pc := pc + 4, locals := ls, stack := .ref T.heap.size :: .ref T.heap.size :: rest, locked := none }) rfl hsize rfl rfl (rest := rest) rfl
    (by rw [hb]; exact d4) (by rw [hb]; exact d7) hout hRframes (by simp only [List.map_cons, List.sum_cons, hcat]; omega) hlocks
  obtain ⟨f1, f2⟩ := vx_frame hsame
  rw [hhp] at f1 f2
  have hWs : s.WarmedH U.vm := State.WarmedH.trans hW0 hW
  have hcl : s.vm.findClass cls = some ce.cls := by
    have h9 := hO.cls
    rw [hvm] at h9
    exact h9
  have hall : s.sameButNew ({ U with vm := s.vm } : State) locs mc ms := by
    subst hA
    obtain ⟨e1, e2⟩ := hsame
    rw [State.setFrames_setFrames] at e1
    have h2 : (T.setVm s.vm).sameButNew ({ U with vm := s.vm } : State) [] (0 + 1) (0 + 6) := ⟨e1, e2⟩
    have h3 := X.same.trans h2
    rw [List.append_nil] at h3
    exact h3.mono hc hs
  refine ⟨U, ?_, .threw T.heap.size, hrun, hend, Or.inr ⟨T.heap.size, rfl, cls, ce, locs, hx U hWs.alike f1 (fun q hq => f2 q hq (fun z hz => nomatch hz)), hce, hO.vm, hcl, hWs, hall, hf⟩⟩
  refine st1 _ ?_
  show Steps p.tables e below (T1.setTop { method := m, pc := pc + 3, locals := ls, stack := .ref T.heap.size :: rest, locked := none }) _
  jvm_step X₁.here [X₁.here.top, hexec, d3', Value.category]
  exact hsteps
/-- 'throw new E("text")': new; dup; ldc; invokespecial; athrow -/
theorem vx_throwS {cc : ByteArray} {pc : Nat} (hexec : p.tables.exec = Jvm.exec) (hb : c.code = cc) (hl : l.stackTraces = false) {own cls text : String} {names : List String} {ik is ic mc ms sa : Nat} {A : Nat → Prop}
    (hown : s.vm.findClass own = some m.cls) (hcls : Bundle.fit cls = true) (hnames : ∀ n ∈ names, Bundle.fit n = true)
    (hk : (Cond.classLink own ik cls).before args s = true) (hini : (Cond.initialized cls).before args s = true) (hstr : vk_R own is text sa s) (hat : ∀ w ∈ vx_atS own ic cls names, w.before args s = true)
    (hgood : ∀ w ∈ Cond.classLink own ik cls :: Cond.initialized cls :: vx_atS own ic cls names, vx_ot w = true)
    (hU : vx_Zq Bundle.tN "UNASSIGNED_STACK" Bundle.steD A s s.heap) (hN : vx_Zq Bundle.tN "SUPPRESSED_SENTINEL" Bundle.listD A s s.heap) (hS : va_S A s.heap H locs) (hsize : ls.size = c.maxLocals)
    (d0 : decode cc pc = .ok (.new ik, 3)) (d3 : decode cc (pc + 3) = .ok (.dup, 1)) (d4 : decode cc (pc + 4) = .ok (.ldc is, 2)) (d6 : decode cc (pc + 6) = .ok (.invokespecial ic, 3)) (d9 : decode cc (pc + 9) = .ok (.athrow, 1))
    (hout : ∀ x ∈ c.exceptionTable.toList, covers x (pc + 9) = false)
    (hRframes : names.length + 3 < R.frames) (hRlocals : (rest.map fun v => v.category).sum + (13 * (names.length + 1) + 43) ≤ R.locals) (hRcells : cells + 1 ≤ R.cells) (hRslots : slots + 6 ≤ R.slots) (hlocks : meth.locks = false)
    (hx : ∀ t : State, s.vm.Alike t.vm → H.size ≤ t.heap.size → (∀ q : Nat, q < H.size → t.heap[q]? = H[q]?) → XC cls s t)
    (hf : ∀ z ∈ locs, free z.base) (hc : cells + 1 ≤ mc) (hs : slots + 6 ≤ ms) :
    W p l e R s m args below meth c H locs cells slots (vx_MQ below Qc XC args s mc ms free) (F0 m pc ls rest) := by
  intro T hT X
  have htr : e.platform.stackTraces = false := (show e.platform.stackTraces = l.stackTraces by rw [X.admits.platform]).trans hl
  have Y := vx_rebase X (R' := { frames := R.frames, locals := R.locals, cells := 1, slots := 6 }) (Nat.le_refl _) (Nat.le_refl _) hRcells hRslots
  obtain ⟨s', hA⟩ : ∃ z, z = (T.setVm s.vm).setFrames (.invoking m args :: below) := ⟨_, rfl⟩
  rw [← hA] at Y
  have hvm : s'.vm = s.vm := by rw [hA]; rfl
  have hhp : s'.heap = H := by rw [hA]; exact hT
  have hW0 : s.WarmedH s'.vm := by rw [hvm]; exact State.WarmedH.refl s
  have hat' : ∀ w ∈ vx_atS own ic cls names, w.before args s' = true := fun w hw => vx_ot_at hW0 hvm.symm (hgood w (List.mem_cons_of_mem _ (List.mem_cons_of_mem _ hw))) (hat w hw)
  have hk' : (Cond.classLink own ik cls).before args s' = true := vx_ot_at hW0 hvm.symm (hgood _ List.mem_cons_self) hk
  have hini' : (Cond.initialized cls).before args s' = true := vx_ot_at hW0 hvm.symm (hgood _ (List.mem_cons_of_mem _ List.mem_cons_self)) hini
  have hU' : vx_Zq Bundle.tN "UNASSIGNED_STACK" Bundle.steD A s' s'.heap := by rw [hhp]; exact vx_Zq.moved hW0.alike (hU.kept hS.2.1)
  have hN' : vx_Zq Bundle.tN "SUPPRESSED_SENTINEL" Bundle.listD A s' s'.heap := by rw [hhp]; exact vx_Zq.moved hW0.alike (hN.kept hS.2.1)
  have h : ∀ w ∈ Bundle.ownAtoms own ic cls names, w.before args s' = true := vx_own hat' (vx_isRefq hU'.1) (vx_isRefq hN'.1) hU'.2.word hN'.2.word
  have hown' : s'.vm.findClass own = some m.cls := by rw [hvm]; exact hown
  have hins : (Cond.instantiable cls 6).before args s' = true := h _ (by simp [Bundle.ownAtoms])
  obtain ⟨vm₁, cX, kX, hfX, hkX, -, -, X₁, st1⟩ := Y.newCold hexec (own := own) (C := cls) (index := ik) (n := 6) hown' hk' hins hini'
    (g := F0 m pc ls rest) rfl (by rw [hb]; exact d0) (Nat.le_refl _) (Nat.le_refl _)
  generalize hT1 : (T.setVm vm₁).pushCell { cls := cX, slots := kX.instanceTypes.map defaultValue, vm := .none } = T1 at X₁ st1
  have hcat : (Value.ref T.heap.size).category = 1 := rfl
  have hcellA : T1.heap[T.heap.size]? = some (freshCell cX kX) := by rw [← hT1]; exact State.heap_pushCell_size _ _
  have d3' : decode c.code (pc + 3) = .ok (.dup, 1) := by rw [hb]; exact d3
  have d4' : decode c.code (pc + 4) = .ok (.ldc is, 2) := by rw [hb]; exact d4
  have hstr' : vk_R own is text sa s' := vk_R.warm hW0 hstr
  obtain ⟨U, hsteps, hrun, hend, hW, hsame, ce, hce, hO⟩ := X₁.ctorThrowS hexec htr (own := own) (cls := cls) (names := names) (ic := ic) hown' hcls hnames h (fun x hx => nomatch hx) hfX hkX hcellA (by rw [hhp, hT]; exact Nat.le_refl _) (msg := .ref sa) rfl
    (g := { method := m, pc := pc + 6, locals := ls, stack := .ref sa :: .ref T.heap.size :: .ref T.heap.size :: rest, locked := none }) rfl hsize rfl rfl (rest := rest) rfl
    (by rw [hb]; exact d6) (by rw [hb]; exact d9) hout hRframes (by simp only [List.map_cons, List.sum_cons, hcat]; omega) hlocks
  obtain ⟨f1, f2⟩ := vx_frame hsame
  rw [hhp] at f1 f2
  have hWs : s.WarmedH U.vm := State.WarmedH.trans hW0 hW
  have hcl : s.vm.findClass cls = some ce.cls := by
    have h9 := hO.cls
    rw [hvm] at h9
    exact h9
  have hall : s.sameButNew ({ U with vm := s.vm } : State) locs mc ms := by
    subst hA
    obtain ⟨e1, e2⟩ := hsame
    rw [State.setFrames_setFrames] at e1
    have h2 : (T.setVm s.vm).sameButNew ({ U with vm := s.vm } : State) [] (0 + 1) (0 + 6) := ⟨e1, e2⟩
    have h3 := X.same.trans h2
    rw [List.append_nil] at h3
    exact h3.mono hc hs
  refine ⟨U, ?_, .threw T.heap.size, hrun, hend, Or.inr ⟨T.heap.size, rfl, cls, ce, locs, hx U hWs.alike f1 (fun q hq => f2 q hq (fun z hz => nomatch hz)), hce, hO.vm, hcl, hWs, hall, hf⟩⟩
  refine st1 _ ?_
  show Steps p.tables e below (T1.setTop { method := m, pc := pc + 3, locals := ls, stack := .ref T.heap.size :: rest, locked := none }) _
  jvm_step X₁.here [X₁.here.top, hexec, d3', Value.category]
  exact X₁.ldcString hexec (own := own) (text := text) (index := is) (a := sa) hown' hstr'.1 hstr'.2
    (g := { method := m, pc := pc + 4, locals := ls, stack := .ref T.heap.size :: .ref T.heap.size :: rest, locked := none }) rfl d4' _ hsteps
/-- 'throw new E("text")', the text by a wide index -/
theorem vx_throwSW {cc : ByteArray} {pc : Nat} (hexec : p.tables.exec = Jvm.exec) (hb : c.code = cc) (hl : l.stackTraces = false) {own cls text : String} {names : List String} {ik is ic mc ms sa : Nat} {A : Nat → Prop}
    (hown : s.vm.findClass own = some m.cls) (hcls : Bundle.fit cls = true) (hnames : ∀ n ∈ names, Bundle.fit n = true)
    (hk : (Cond.classLink own ik cls).before args s = true) (hini : (Cond.initialized cls).before args s = true) (hstr : vk_R own is text sa s) (hat : ∀ w ∈ vx_atS own ic cls names, w.before args s = true)
    (hgood : ∀ w ∈ Cond.classLink own ik cls :: Cond.initialized cls :: vx_atS own ic cls names, vx_ot w = true)
    (hU : vx_Zq Bundle.tN "UNASSIGNED_STACK" Bundle.steD A s s.heap) (hN : vx_Zq Bundle.tN "SUPPRESSED_SENTINEL" Bundle.listD A s s.heap) (hS : va_S A s.heap H locs) (hsize : ls.size = c.maxLocals)
    (d0 : decode cc pc = .ok (.new ik, 3)) (d3 : decode cc (pc + 3) = .ok (.dup, 1)) (d4 : decode cc (pc + 4) = .ok (.ldc_w is, 3)) (d7 : decode cc (pc + 7) = .ok (.invokespecial ic, 3)) (d10 : decode cc (pc + 10) = .ok (.athrow, 1))
    (hout : ∀ x ∈ c.exceptionTable.toList, covers x (pc + 10) = false)
    (hRframes : names.length + 3 < R.frames) (hRlocals : (rest.map fun v => v.category).sum + (13 * (names.length + 1) + 43) ≤ R.locals) (hRcells : cells + 1 ≤ R.cells) (hRslots : slots + 6 ≤ R.slots) (hlocks : meth.locks = false)
    (hx : ∀ t : State, s.vm.Alike t.vm → H.size ≤ t.heap.size → (∀ q : Nat, q < H.size → t.heap[q]? = H[q]?) → XC cls s t)
    (hf : ∀ z ∈ locs, free z.base) (hc : cells + 1 ≤ mc) (hs : slots + 6 ≤ ms) :
    W p l e R s m args below meth c H locs cells slots (vx_MQ below Qc XC args s mc ms free) (F0 m pc ls rest) := by
  intro T hT X
  have htr : e.platform.stackTraces = false := (show e.platform.stackTraces = l.stackTraces by rw [X.admits.platform]).trans hl
  have Y := vx_rebase X (R' := { frames := R.frames, locals := R.locals, cells := 1, slots := 6 }) (Nat.le_refl _) (Nat.le_refl _) hRcells hRslots
  obtain ⟨s', hA⟩ : ∃ z, z = (T.setVm s.vm).setFrames (.invoking m args :: below) := ⟨_, rfl⟩
  rw [← hA] at Y
  have hvm : s'.vm = s.vm := by rw [hA]; rfl
  have hhp : s'.heap = H := by rw [hA]; exact hT
  have hW0 : s.WarmedH s'.vm := by rw [hvm]; exact State.WarmedH.refl s
  have hat' : ∀ w ∈ vx_atS own ic cls names, w.before args s' = true := fun w hw => vx_ot_at hW0 hvm.symm (hgood w (List.mem_cons_of_mem _ (List.mem_cons_of_mem _ hw))) (hat w hw)
  have hk' : (Cond.classLink own ik cls).before args s' = true := vx_ot_at hW0 hvm.symm (hgood _ List.mem_cons_self) hk
  have hini' : (Cond.initialized cls).before args s' = true := vx_ot_at hW0 hvm.symm (hgood _ (List.mem_cons_of_mem _ List.mem_cons_self)) hini
  have hU' : vx_Zq Bundle.tN "UNASSIGNED_STACK" Bundle.steD A s' s'.heap := by rw [hhp]; exact vx_Zq.moved hW0.alike (hU.kept hS.2.1)
  have hN' : vx_Zq Bundle.tN "SUPPRESSED_SENTINEL" Bundle.listD A s' s'.heap := by rw [hhp]; exact vx_Zq.moved hW0.alike (hN.kept hS.2.1)
  have h : ∀ w ∈ Bundle.ownAtoms own ic cls names, w.before args s' = true := vx_own hat' (vx_isRefq hU'.1) (vx_isRefq hN'.1) hU'.2.word hN'.2.word
  have hown' : s'.vm.findClass own = some m.cls := by rw [hvm]; exact hown
  have hins : (Cond.instantiable cls 6).before args s' = true := h _ (by simp [Bundle.ownAtoms])
  obtain ⟨vm₁, cX, kX, hfX, hkX, -, -, X₁, st1⟩ := Y.newCold hexec (own := own) (C := cls) (index := ik) (n := 6) hown' hk' hins hini'
    (g := F0 m pc ls rest) rfl (by rw [hb]; exact d0) (Nat.le_refl _) (Nat.le_refl _)
  generalize hT1 : (T.setVm vm₁).pushCell { cls := cX, slots := kX.instanceTypes.map defaultValue, vm := .none } = T1 at X₁ st1
  have hcat : (Value.ref T.heap.size).category = 1 := rfl
  have hcellA : T1.heap[T.heap.size]? = some (freshCell cX kX) := by rw [← hT1]; exact State.heap_pushCell_size _ _
  have d3' : decode c.code (pc + 3) = .ok (.dup, 1) := by rw [hb]; exact d3
  have d4' : decode c.code (pc + 4) = .ok (.ldc_w is, 3) := by rw [hb]; exact d4
  have hstr' : vk_R own is text sa s' := vk_R.warm hW0 hstr
  obtain ⟨U, hsteps, hrun, hend, hW, hsame, ce, hce, hO⟩ := X₁.ctorThrowS hexec htr (own := own) (cls := cls) (names := names) (ic := ic) hown' hcls hnames h (fun x hx => nomatch hx) hfX hkX hcellA (by rw [hhp, hT]; exact Nat.le_refl _) (msg := .ref sa) rfl
    (g := { method := m, pc := pc + 7, locals := ls, stack := .ref sa :: .ref T.heap.size :: .ref T.heap.size :: rest, locked := none }) rfl hsize rfl rfl (rest := rest) rfl
    (by rw [hb]; exact d7) (by rw [hb]; exact d10) hout hRframes (by simp only [List.map_cons, List.sum_cons, hcat]; omega) hlocks
  obtain ⟨f1, f2⟩ := vx_frame hsame
  rw [hhp] at f1 f2
  have hWs : s.WarmedH U.vm := State.WarmedH.trans hW0 hW
  have hcl : s.vm.findClass cls = some ce.cls := by
    have h9 := hO.cls
    rw [hvm] at h9
    exact h9
  have hall : s.sameButNew ({ U with vm := s.vm } : State) locs mc ms := by
    subst hA
    obtain ⟨e1, e2⟩ := hsame
    rw [State.setFrames_setFrames] at e1
    have h2 : (T.setVm s.vm).sameButNew ({ U with vm := s.vm } : State) [] (0 + 1) (0 + 6) := ⟨e1, e2⟩
    have h3 := X.same.trans h2
    rw [List.append_nil] at h3
    exact h3.mono hc hs
  refine ⟨U, ?_, .threw T.heap.size, hrun, hend, Or.inr ⟨T.heap.size, rfl, cls, ce, locs, hx U hWs.alike f1 (fun q hq => f2 q hq (fun z hz => nomatch hz)), hce, hO.vm, hcl, hWs, hall, hf⟩⟩
  refine st1 _ ?_
  show Steps p.tables e below (T1.setTop { method := m, pc := pc + 3, locals := ls, stack := .ref T.heap.size :: rest, locked := none }) _
  jvm_step X₁.here [X₁.here.top, hexec, d3', Value.category]
  exact X₁.ldcStringW hexec (own := own) (text := text) (index := is) (a := sa) hown' hstr'.1 hstr'.2
    (g := { method := m, pc := pc + 4, locals := ls, stack := .ref T.heap.size :: .ref T.heap.size :: rest, locked := none }) rfl d4' _ hsteps
end Ends
section Bodies
variable {l : Launch}
theorem vx_ofW {y : MethodName} {ws ws' : List Cond} {rm : Room} {Pc : Array Value → State → Prop} {Qc : Array Value → State → Outcome → State → Prop} {XC : String → State → State → Prop} {mc ms : Nat} {free : Addr → Prop} {cc : ByteArray} {maxL : Nat} {ret : Option FieldType}
    (hy : plainName y.cls = true) (hw : ws = Cond.code y cc maxL ret :: ws')
    (body : ∀ p e s m args below meth c s₁, BodyLoose p l y (headSpec ws rm) cc maxL ret e s m args below meth c s₁ → c.maxLocals = maxL → (∀ x ∈ c.exceptionTable.toList, False) → Pc args s →
      W p l e (headSpec ws rm).room s m args below meth c s.heap [] 0 0 (vx_MQ below Qc XC args s mc ms free) (entryFrame m args maxL)) : vx_Met l y ws rm Pc Qc XC mc ms free := by
  refine MetFree.of_bodyS (code := cc) (maxLocals := maxL) (ret := ret) hy ?_ ?_
  · intro args s m h hn
    obtain ⟨meth, c, h1, h2, h3, h4, h5, h6, -, -⟩ := Cond.code_spec hn (atoms_spec (ws := ws) h _ (by rw [hw]; exact List.mem_cons_self))
    exact ⟨meth, c, h1, h2, h3, h4, h5, h6⟩
  · intro p e s m args below meth c s₁ B hml hP _
    have hh0 : s₁.heap = s.heap := by rw [B.state]; rfl
    have ht : ∀ x ∈ c.exceptionTable.toList, False := by
      obtain ⟨meth9, c9, h1, h2, -, -, -, -, h7, -⟩ := Cond.code_spec B.named (atoms_spec (ws := ws) B.pre _ (by rw [hw]; exact List.mem_cons_self))
      cases Option.some.inj (h1.symm.trans B.method)
      cases Option.some.inj (h2.symm.trans (Stand.of_body B).code)
      intro x hx
      rw [Array.isEmpty_iff.mp h7] at hx
      cases hx
    obtain ⟨t, a1, o, b1, b2, b3⟩ := body p e s m args below meth c s₁ B hml ht hP s₁ hh0 (Stand.of_body B)
    exact ⟨t, o, a1, b1, b2, b3⟩
/-- the table of a body with handlers -/
theorem vx_table {p : Program} {x y : MethodName} {S : Spec} {cc bytes : ByteArray} {maxL maxL' : Nat} {ret ret' : Option FieldType} {e : Env} {s s₁ : State} {m : MethodId} {args : Array Value} {below : List Frame} {meth : Method} {c : Code} {hh : List (Nat × Nat × Nat × Nat)}
    (B : BodyLoose p l y S cc maxL ret e s m args below meth c s₁) (h : (Cond.codeWith y bytes maxL' ret' hh).before args s = true) : c.exceptionTable.toList = tableOf hh := by
  obtain ⟨m9, meth9, c9, hn9, h1, h2, -, -, h6, -⟩ := Cond.codeWith_spec h
  cases Option.some.inj (hn9.symm.trans B.named)
  cases Option.some.inj (h1.symm.trans B.method)
  cases Option.some.inj (h2.symm.trans (Stand.of_body B).code)
  rw [← h6, table_eq]
end Bodies
end VXA
/-! ===== END ===== -/
/-! ===== BEGIN a static call of a method with an exception table ===== -/
section VXS
variable {p : Program} {l : Launch} {e : Env} {R : Room} {s : State} {m : MethodId} {args : Array Value} {below : List Frame} {meth : Method} {c : Code} {T : State} {H : Heap} {locs : List Loc} {cells slots : Nat}
abbrev vx_CSW (R : Room) (s : State) (args : Array Value) (own : String) (index : Nat) (y : MethodName) (bytes : ByteArray) (maxL : Nat) (ret : Option FieldType) (hh : List (Nat × Nat × Nat × Nat)) (ws : List Cond) (rm : Room) (mc ms n : Nat) : Prop :=
  (rm.cells = mc ∧ rm.slots = ms ∧ rm.frames + 1 ≤ R.frames ∧ 8 + (maxL + 11) + rm.locals ≤ R.locals ∧ (∀ w ∈ ws, ∀ (a' : Array Value) (U : State), s.WarmedH U.vm → w.before a' U = true) ∧ Cond.codeWith y bytes maxL ret hh ∈ ws) ∧
  (Cond.codeWith y bytes maxL ret hh).before args s = true ∧ (Cond.initialized y.cls).before args s = true ∧ (y.cls ≠ "java/lang/invoke/MethodHandle" ∧ y.cls ≠ "java/lang/invoke/VarHandle") ∧
  (∀ sig, parseMethodDescriptor y.desc = some sig → n = sig.parameters.length) ∧ (Cond.methodLink own index y).before args s = true ∧ (Cond.static y).before args s = true
theorem vx_cwSW {own : String} {index maxL mc ms : Nat} {y : MethodName} {bytes : ByteArray} {ret : Option FieldType} {hh : List (Nat × Nat × Nat × Nat)} {Ts ws ws' : List Cond} {rm : Room} (n : Nat) (ht : ∀ w ∈ Ts, w.before args s = true) (hT : GoodIn Ts (va_wsS own index y ws)) (hw : ws = Cond.codeWith y bytes maxL ret hh :: ws') (hrc : rm.cells = mc) (hrs : rm.slots = ms)
    (hd : y.cls ≠ "java/lang/invoke/MethodHandle" ∧ y.cls ≠ "java/lang/invoke/VarHandle" ∧ (parseMethodDescriptor y.desc).map (fun d => d.parameters.length) = some n) (hR : rm.frames + 1 ≤ R.frames ∧ 8 + (maxL + 11) + rm.locals ≤ R.locals) :
    vx_CSW R s args own index y bytes maxL ret hh ws rm mc ms n := by
  have ok : ∀ w ∈ va_wsS own index y ws, w.before args s = true := fun w h => ht w (hT w h).1
  have hG : GoodIn Ts ws := fun w h => hT w (by unfold va_wsS; exact List.mem_append_right _ h)
  have hc : Cond.codeWith y bytes maxL ret hh ∈ ws := by rw [hw]; exact List.mem_cons_self
  refine ⟨⟨hrc, hrs, hR.1, hR.2, pay_in ht hG, hc⟩, ht _ (hG _ hc).1, ok _ (by simp [va_wsS]), ⟨hd.1, hd.2.1⟩, fun sig h => ?_, ok _ (by simp [va_wsS]), ok _ (by simp [va_wsS])⟩
  have h2 := hd.2.2
  rw [h] at h2
  exact (Option.some.inj h2).symm
theorem vx_callSW (X : Stand p l e R s m args below meth c T locs cells slots) (hexec : p.tables.exec = Jvm.exec) {own : String} {index : Nat} {y : MethodName} {bytes : ByteArray} {maxL : Nat} {ret : Option FieldType} {hh : List (Nat × Nat × Nat × Nat)}
    (hown : s.vm.findClass own = some m.cls) (hlink : (Cond.methodLink own index y).before args s = true) (hstat : (Cond.static y).before args s = true) (hinit : (Cond.initialized y.cls).before args s = true)
    (hcode : (Cond.codeWith y bytes maxL ret hh).before args s = true) (hy : y.cls ≠ "java/lang/invoke/MethodHandle" ∧ y.cls ≠ "java/lang/invoke/VarHandle")
    {W9 : Nat} {Pre : Pt → Array Value → Prop} {Post : Pt → Array Value → Option Value → Pt → Prop} (hK : Back l R p e below s args y 3 W9 Pre Post)
    {g : JFrame} (hg : g.method = m) (hsize : g.locals.size = c.maxLocals) {argsL rest : List Value} (hlen : ∀ sig, parseMethodDescriptor y.desc = some sig → argsL.length = sig.parameters.length)
    (hstack : g.stack = argsL.reverse ++ rest) (hW : 2 * g.monitorRoom + (rest.map fun v => v.category).sum ≤ W9) (hdg : decode c.code g.pc = .ok (.invokestatic index, 3))
    (hpre : ∀ vm₁, s.WarmedH vm₁ → Pre ⟨T.setVm vm₁, locs, cells, slots⟩ argsL.toArray) :
    ∃ (v : Option Value) (vm₁ : Vm) (B : Pt), s.WarmedH vm₁ ∧ Stand p l e R s m args below meth c B.U B.locs B.cells B.slots ∧ Post ⟨T.setVm vm₁, locs, cells, slots⟩ argsL.toArray v B ∧
      ∀ target, Steps p.tables e below (B.U.setTop { g with pc := g.pc + 3, stack := v.toList ++ rest }) target → Steps p.tables e below (T.setTop g) target := by
  obtain ⟨mk, methM, cM, hnamed, hmethM, -, -, -, -, -, -, hsigM⟩ := Cond.codeWith_spec hcode
  have hstatic : methM.isStatic = true := Cond.static_spec hnamed hmethM hstat
  obtain ⟨kP, hkP, -⟩ := className_of_methodNamed hnamed
  have hinitP : kP.init = .initialized := Cond.initialized_spec (findClass_of_methodNamed hnamed) hkP hinit
  obtain ⟨vm₁, X₁, hstep₁⟩ := X.invokestatic hexec hown hlink hnamed hmethM hstatic hkP hinitP hy (g := g) hg (argsL := argsL) (rest := rest) (hlen _ hsigM) hstack hdg
  obtain ⟨v, B, X', hpost, hsteps⟩ := hK m meth c ⟨T.setVm vm₁, locs, cells, slots⟩ { g with stack := rest } (.invokestatic index) mk argsL.toArray X₁ hg hsize hdg hW (X₁.named hnamed) (hpre vm₁ X₁.warmed)
  exact ⟨v, vm₁, B, X₁.warmed, X', hpost, fun target h => hstep₁ _ fun acts => by rw [doInvoke_state]; exact hsteps.trans h⟩
theorem vx_runSW {y : MethodName} {bytes cc : ByteArray} {maxL nL mc ms n index : Nat} {ret : Option FieldType} {hh : List (Nat × Nat × Nat × Nat)} {ws : List Cond} {rm : Room} {Pc : Array Value → State → Prop} {Qc : Array Value → State → Outcome → State → Prop} {free : Addr → Prop} {Ts : List Cond} {own : String} {As rest : List Value} {g : JFrame}
    (S : CallFix p m c cc nL s args Ts own) (hM : Met l y ws rm Pc Qc mc ms free) (cw : vx_CSW R s args own index y bytes maxL ret hh ws rm mc ms n) (hp : PreS s H Pc As)
    (hg : g.method = m) (hn : As.length = n) (hsize : g.locals.size = nL) (hstack : g.stack = As.reverse ++ rest) (hW : 2 * g.monitorRoom + (rest.map fun v => v.category).sum ≤ 8) (hdg : decode cc g.pc = .ok (.invokestatic index, 3)) (hf : cells + mc ≤ R.cells ∧ slots + ms ≤ R.slots) :
    va_Run p l e R s m args below meth c H locs cells slots mc ms g rest (Qc As.toArray) (free) := by
  obtain ⟨⟨hrc, hrs, hfr, hlo, hws, hcw⟩, hcode, hini, hy, hlen, hl, hstt⟩ := cw
  have hK : Back l R p e below s args y 3 8 (PreOf R mc ms Pc) (PostOf Qc mc ms free) := va_backW (hh := hh) (bytes := bytes) (maxL := maxL) (ret := ret) hM hp.1 hrc hrs hfr hlo hws hcw (fun a' U hW => word_at hW (Or.inl (by first | rfl | simp [Cond.onTables, Cond.keeps, Cond.steady])) hini)
  obtain ⟨hx, hb, hml, ho, -⟩ := S
  intro T hT X
  obtain ⟨v, vm₁, ⟨U', l2, c2, s2⟩, hW₁, X', ⟨g', mk, t, L, e1, e2, hq, h1, hL, h2, h3⟩, st⟩ := vx_callSW X hx (hh := hh) (bytes := bytes) (maxL := maxL) (ret := ret) ho hl hstt hini hcode hy hK hg (hsize.trans hml.symm) (argsL := As) (rest := rest) (fun sig h => hn.trans (hlen sig h)) hstack hW (by rw [hb]; exact hdg)
    (fun vm₁ hW₁ => ⟨hf.1, hf.2, hp.2 (T.setVm vm₁) hT hW₁⟩)
  dsimp only [Pt.U, Pt.locs, Pt.cells, Pt.slots] at X' e1 e2 h1 h2 h3 st
  subst h1; subst h2; subst h3
  exact ⟨v, (T.setVm vm₁).calling g' mk As.toArray, t, U', L, hT, X', hL, e1, e2, hq, st⟩
/-- not caught here, past rows that name other classes: it goes on to the caller -/
theorem vx_outP {p : Program} {l : Launch} {e : Env} {R : Room} {s : State} {m : MethodId} {args : Array Value} {below : List Frame} {meth : Method} {c : Code} {H : Heap} {locs : List Loc} {cells slots : Nat} {free : Addr → Prop} {ls : Array Slot} {rest : List Value} {Qc : Array Value → State → Outcome → State → Prop} {XC : String → State → State → Prop}
    {pc : Nat} {own E : String} {ce : Cell} {q : Addr} {mc ms : Nat} (hown : s.vm.findClass own = some m.cls) (hlocks : meth.locks = false)
    (hpass : ∀ z ∈ c.exceptionTable.toList, covers z pc = false ∨ (z.catchType ≠ 0 ∧ ∃ nm : String, (Cond.classLink own z.catchType nm).before args s = true ∧ va_Nc E nm s)) (hcell : H[q]? = some ce) (hv : ce.vm = .none) (hcl : s.vm.findClass E = some ce.cls)
    (hx : ∀ t : State, t.heap = H → s.vm.Alike t.vm → XC E s t) (hf : ∀ z ∈ locs, free z.base) (hc : cells ≤ mc) (hs : slots ≤ ms) :
    vx_W p l e R s m args below meth c H locs cells slots (vx_MQ below Qc XC args s mc ms free) (F0 m pc ls rest) q := by
  intro T hT X
  have hpl : e.platform.magicAccessors = ({} : Platform).magicAccessors := by rw [X.admits.platform]
  obtain ⟨vm', hW', X', st⟩ := X.outThrough hlocks q (g := F0 m pc ls rest) rfl rfl rfl (cell := ce) (by rw [hT]; exact hcell) (by rw [hv]; rfl)
    (by obtain ⟨k9, h9, -⟩ := Vm.findClass_spec hcl; exact ⟨k9, h9⟩) (fun z hz => by
      rcases hpass z hz with h | ⟨hz0, nm, hl1, hn1⟩
      · exact Or.inl h
      · obtain ⟨c6, hc6, hcl6⟩ := Cond.classLink_spec hown hl1 e.platform hpl
        obtain ⟨a8, b8, h1, h2, h3⟩ := hn1
        cases Option.some.inj (h1.symm.trans hcl)
        cases Option.some.inj (h2.symm.trans hc6)
        exact Or.inr ⟨hz0, _, hcl6, h3⟩)
  obtain ⟨g₀, hfr⟩ := X'.frames_eq
  have hcell9 : ((T.setVm vm').setFrames (.throwing q :: below)).heap[q]? = some ce := by
    show T.heap[q]? = some ce
    rw [hT]; exact hcell
  have hend : Ended ((T.setVm vm').setFrames (.throwing q :: below)) below (.threw q) := State.frames_setFrames _ (State.cur_lt_of_frames hfr)
  refine ⟨(T.setVm vm').setFrames (.throwing q :: below), ?_, .threw q, X'.here.running, hend, Or.inr ⟨q, rfl, E, ce, locs, hx _ hT (X'.ends _).1.alike, hcell9, hv, hcl, (X'.ends _).1, (X'.ends _).2.mono hc hs, hf⟩⟩
  rw [X.pushThrowing_eq]
  exact st
/-- a thing of a world lies in the heap -/
theorem vx_lt {D : va_G} {cl : List vw_C} {ws : va_W} {H1 : Heap} (h : va_P D cl ws H1) {k : Nat} {q : Nat × va_E} (hk : ws[k]? = some q) : q.1 < H1.size := (h k q hk).lt
end VXS
/-! ===== END ===== -/
/-! ===== BEGIN methods with a table of their own: called by a name, returning or throwing ===== -/
section VXH
/-! vx_backW, vx_callVX, vx_callSX, vx_callVW, vx_runVW, vx_runVX, vx_runSX, vx_ofWH follow the same proofs as their sisters above (Free/Laws.lean, Shelf42/LK1.lean); vx_outP calls Shelf42/NT130.lean (outThrough). -/
section
variable {l : Launch} {R : Room} {p : Program} {e : Env} {below : List Frame} {s : State} {sargs : Array Value} {y : MethodName} {len W9 : Nat}
theorem vx_backW {ws : List Cond} {rm : Room} {Pc : Array Value → State → Prop} {Qc : Array Value → State → Outcome → State → Prop} {XC : String → State → State → Prop} {mc ms : Nat} {free : Addr → Prop} {bytes : ByteArray} {maxL : Nat} {ret : Option FieldType} {hh : List (Nat × Nat × Nat × Nat)}
    (hM : vx_Met l y ws rm Pc Qc XC mc ms free) (hblind : FrameBlind Pc) (hrc : rm.cells = mc) (hrs : rm.slots = ms)
    (hframes : rm.frames + 1 ≤ R.frames) (hlocals : W9 + (maxL + 11) + rm.locals ≤ R.locals)
    (hws : ∀ w ∈ ws, ∀ a' U, s.WarmedH U.vm → w.before a' U = true) (hcode : Cond.codeWith y bytes maxL ret hh ∈ ws) (hinit : ∀ a' U, s.WarmedH U.vm → (Cond.initialized y.cls).before a' U = true) :
    vx_Back l R p e below s sargs y len W9 (PreOf R mc ms Pc) (PostOf Qc mc ms free) (vx_Post XC mc ms free) := by
  intro m meth c A g ig mk a X hg hsize hdg hW hn hp
  have h1 : (headSpec ws rm).pre.before a A.U = true := atoms_intro fun w hw => hws w hw _ _ X.warmed
  have h2 : (Cond.codeWith y bytes maxL ret hh).before a A.U = true := hws _ hcode _ _ X.warmed
  have h3 : (Cond.initialized y.cls).before a A.U = true := hinit _ _ X.warmed
  have h4 : A.cells + (headSpec ws rm).room.cells ≤ R.cells := by rw [show (headSpec ws rm).room.cells = mc from hrc]; exact hp.1
  have h5 : A.slots + (headSpec ws rm).room.slots ≤ R.slots := by rw [show (headSpec ws rm).room.slots = ms from hrs]; exact hp.2.1
  have hPc : Pc a (A.U.calling g mk a) := hblind _ _ _ _ hp.2.2
  obtain ⟨U, Ls, c0, s0⟩ := A
  dsimp only [Pt.U, Pt.locs, Pt.cells, Pt.slots] at h1 h2 h3 h4 h5 X hn hPc ⊢
  obtain ⟨m9, methY, cY, hn9, hmY, hcY, -, hlY, -⟩ := Cond.codeWith_spec h2
  cases Option.some.inj (hn9.symm.trans hn)
  obtain ⟨kY, hkY, -⟩ := className_of_methodNamed hn
  have hinitY : kY.init = .initialized := Cond.initialized_spec (findClass_of_methodNamed hn) hkY h3
  have h : At U g.method c below := by rw [hg]; exact X.here
  have hlocals9 : W9 + (maxL + 11) + (headSpec ws rm).room.locals ≤ R.locals := hlocals
  have happ : (headSpec ws rm).appliesLoose y e.platform (U.calling g mk a) = true :=
    Spec.appliesLoose_calling (g := g) h hdg hn hkY hinitY
      (X.room_calling (g := g) (R' := (headSpec ws rm).room) hsize hmY hcY hframes (by rw [hlY]; omega) h4 h5) h1
  obtain ⟨mid, hmid⟩ := h.above
  have hfr : (U.setTop g).frames = (.java g :: mid) ++ below := by rw [State.frames_setTop' g h.top, hmid]; rfl
  obtain ⟨o, s₂, hsteps, -, hend, hq⟩ := Steps.callFree hM p X.admits X.cas X.clock (acts := []) hfr happ hPc trivial
  have hq' : vx_Q Qc XC mc ms free a (U.calling g mk a) o s₂ := hq
  rw [State.frames_setTop' g h.top] at hend
  obtain ⟨g₀, hg0⟩ := Option.isSome_iff_exists.mp h.top
  obtain ⟨r, hr⟩ := State.topJava?_eq_some.mp hg0
  have hr' : (({ U with heap := s₂.heap, slotsUsed := s₂.slotsUsed } : State).setVm s₂.vm).frames = .java g₀ :: r := hr
  rcases hq' with ⟨hqc, L, hfe, hL⟩ | ⟨q, rfl, E, ce, L, hx, hce, hcv, hcl, hW₂, hsm, hL⟩
  · obtain ⟨⟨v, rfl⟩, hW₂, e2, q2, q3, q4, q5, q6⟩ := id hfe
    have e3 : s₂ = ({ (U.calling g mk a).setFrames s₂.frames with heap := s₂.heap, slotsUsed := s₂.slotsUsed } : State).setVm s₂.vm := by
      have : s₂ = ({ s₂ with vm := (U.calling g mk a).vm } : State).setVm s₂.vm := rfl
      rw [e2] at this
      exact this
    obtain ⟨c₂, i₂, len₂, hc₂, hd₂, hf₂⟩ := hend
    have hW' : U.WarmedH s₂.vm := hW₂
    have hcc : c₂ = c := by
      have h1 : s₂.code? g.method = U.code? g.method := by
        rw [State.code?_eq, State.code?_eq, hW'.alike.method?]
      exact Option.some.inj (hc₂.symm.trans (h1.trans h.code))
    subst hcc
    have hlen : len₂ = len := by rw [hdg] at hd₂; cases hd₂; rfl
    subst hlen
    have hs₂ : s₂ = (({ U with heap := s₂.heap, slotsUsed := s₂.slotsUsed } : State).setVm s₂.vm).setTop { g with pc := g.pc + len₂, stack := v.toList ++ g.stack } := by
      refine e3.trans ?_
      rw [hf₂, State.calling_eq h.top, State.setFrames_setFrames, State.setTop_of_frames _ hr', hr]
      rfl
    have hsame : U.sameButNew ({ U with heap := s₂.heap, slotsUsed := s₂.slotsUsed } : State) L mc ms := by
      refine ⟨?_, q2, q3, q4, q5, q6⟩
      obtain ⟨t, ht, -⟩ := State.frames_cons hr
      show ({ U with heap := s₂.heap, slotsUsed := s₂.slotsUsed } : State) = { U.setFrames U.frames with heap := s₂.heap, slotsUsed := s₂.slotsUsed }
      rw [State.setFrames_self ht]
    subst hg
    refine Or.inl ⟨v, ⟨(({ U with heap := s₂.heap, slotsUsed := s₂.slotsUsed } : State).setVm s₂.vm), Ls ++ L, c0 + mc, s0 + ms⟩,
      ⟨X.admits, X.cas, X.clock, X.frames, X.room, X.hears, X.method, X.code, (X.here.setHeapUsed s₂.heap s₂.slotsUsed).setVm hW'.alike, X.tail, State.WarmedH.trans X.warmed hW', X.limits, X.bytes, X.same.trans (hsame.setVm s.vm)⟩,
      ⟨g, mk, s₂, L, rfl, rfl, hqc, rfl, hL, rfl, rfl⟩, ?_⟩
    show Steps p.tables e below _ ((({ U with heap := s₂.heap, slotsUsed := s₂.slotsUsed } : State).setVm s₂.vm).setTop { g with pc := g.pc + len₂, stack := v.toList ++ g.stack })
    rw [← hs₂]
    exact hsteps
  · obtain ⟨e2, q2, q3, q4, q5, q6⟩ := id hsm
    have e3 : s₂ = ({ (U.calling g mk a).setFrames s₂.frames with heap := s₂.heap, slotsUsed := s₂.slotsUsed } : State).setVm s₂.vm := by
      have : s₂ = ({ s₂ with vm := (U.calling g mk a).vm } : State).setVm s₂.vm := rfl
      rw [e2] at this
      exact this
    have hf₂ : s₂.frames = .throwing q :: .java g :: U.frames.tail := hend
    have hW' : U.WarmedH s₂.vm := hW₂
    have hs₂ : s₂ = ((({ U with heap := s₂.heap, slotsUsed := s₂.slotsUsed } : State).setVm s₂.vm).setTop g).pushFrame (.throwing q) := by
      refine e3.trans ?_
      rw [hf₂, State.calling_eq h.top, State.setFrames_setFrames, State.pushFrame, State.frames_setTop _ hr', State.setTop_of_frames _ hr', State.setFrames_setFrames, hr]
      rfl
    have hsame : U.sameButNew ({ U with heap := s₂.heap, slotsUsed := s₂.slotsUsed } : State) L mc ms := by
      refine ⟨?_, q2, q3, q4, q5, q6⟩
      obtain ⟨t, ht, -⟩ := State.frames_cons hr
      show ({ U with heap := s₂.heap, slotsUsed := s₂.slotsUsed } : State) = { U.setFrames U.frames with heap := s₂.heap, slotsUsed := s₂.slotsUsed }
      rw [State.setFrames_self ht]
    subst hg
    refine Or.inr ⟨q, ⟨(({ U with heap := s₂.heap, slotsUsed := s₂.slotsUsed } : State).setVm s₂.vm), Ls ++ L, c0 + mc, s0 + ms⟩,
      ⟨X.admits, X.cas, X.clock, X.frames, X.room, X.hears, X.method, X.code, (X.here.setHeapUsed s₂.heap s₂.slotsUsed).setVm hW'.alike, X.tail, State.WarmedH.trans X.warmed hW', X.limits, X.bytes, X.same.trans (hsame.setVm s.vm)⟩,
      ⟨g, mk, s₂, L, E, ce, rfl, rfl, hx, hce, hcv, hcl, rfl, hL, rfl, rfl⟩, ?_⟩
    show Steps p.tables e below _ (((({ U with heap := s₂.heap, slotsUsed := s₂.slotsUsed } : State).setVm s₂.vm).setTop g).pushFrame (.throwing q))
    rw [← hs₂]
    exact hsteps
end
variable {p : Program} {l : Launch} {e : Env} {R : Room} {s : State} {m : MethodId} {args : Array Value} {below : List Frame} {meth : Method} {c : Code} {T : State} {H : Heap} {locs : List Loc} {cells slots : Nat}
theorem vx_callVX (X : Stand p l e R s m args below meth c T locs cells slots) (hexec : p.tables.exec = Jvm.exec) {own C : String} {index : Nat} {y : MethodName} {bytes : ByteArray} {maxL : Nat} {ret : Option FieldType} {hh : List (Nat × Nat × Nat × Nat)}
    (hown : s.vm.findClass own = some m.cls) (hlink : (Cond.methodLink own index y).before args s = true) (hinst : (Cond.instanceMethod y).before args s = true) (hsel : (Cond.selects C y y).before args s = true)
    (hcode : (Cond.codeWith y bytes maxL ret hh).before args s = true) (hy : y.cls ≠ "java/lang/invoke/MethodHandle" ∧ y.cls ≠ "java/lang/invoke/VarHandle")
    {W9 : Nat} {Pre : Pt → Array Value → Prop} {Post : Pt → Array Value → Option Value → Pt → Prop} {PostX : Pt → Array Value → Addr → Pt → Prop} (hK : vx_Back l R p e below s args y 3 W9 Pre Post PostX)
    {b : Addr} {cellB : Cell} (hcell : T.heap[b]? = some cellB) (hobj : cellB.vm.isStatics = false) (hcls : s.vm.findClass C = some cellB.cls)
    {g : JFrame} (hg : g.method = m) (hsize : g.locals.size = c.maxLocals) {argsL rest : List Value} (hlen : ∀ sig, parseMethodDescriptor y.desc = some sig → argsL.length = sig.parameters.length)
    (hstack : g.stack = argsL.reverse ++ .ref b :: rest) (hW : 2 * g.monitorRoom + (rest.map fun v => v.category).sum ≤ W9) (hdg : decode c.code g.pc = .ok (.invokevirtual index, 3))
    (hpre : ∀ vm₁, s.WarmedH vm₁ → Pre ⟨T.setVm vm₁, locs, cells, slots⟩ (Value.ref b :: argsL).toArray) :
    (∃ (v : Option Value) (vm₁ : Vm) (B : Pt), s.WarmedH vm₁ ∧ Stand p l e R s m args below meth c B.U B.locs B.cells B.slots ∧ Post ⟨T.setVm vm₁, locs, cells, slots⟩ (Value.ref b :: argsL).toArray v B ∧
      ∀ target, Steps p.tables e below (B.U.setTop { g with pc := g.pc + 3, stack := v.toList ++ rest }) target → Steps p.tables e below (T.setTop g) target) ∨
    (∃ (q : Addr) (vm₁ : Vm) (B : Pt), s.WarmedH vm₁ ∧ Stand p l e R s m args below meth c B.U B.locs B.cells B.slots ∧ PostX ⟨T.setVm vm₁, locs, cells, slots⟩ (Value.ref b :: argsL).toArray q B ∧
      Steps p.tables e below (T.setTop g) ((B.U.setTop { g with stack := rest }).pushFrame (.throwing q))) := by
  obtain ⟨mk, methM, hnamed, hmethM, hstM, habM⟩ := Cond.instanceMethod_spec hinst
  obtain ⟨m8, methM', cM, hn8, hmethM', -, -, -, -, -, -, hsigM⟩ := Cond.codeWith_spec hcode
  cases Option.some.inj (hn8.symm.trans hnamed)
  cases hmethM.symm.trans hmethM'
  obtain ⟨c2, r2, m2, q1, q2, q3, q4, kP, hkP, hkPi⟩ := Cond.selects_spec hsel
  cases hcls.symm.trans q1
  cases (State.methodFound?_of_named hnamed hy).symm.trans q2
  cases hnamed.symm.trans q3
  have hselP : selectMethod e.platform s.vm cellB.cls mk = .method mk := by rw [Launch.admits_selectMethod X.admits]; exact q4
  obtain ⟨vm₁, X₁, hstep₁⟩ := X.invokevirtual hexec hown hlink hnamed hmethM hstM hkP hkPi hy (a := b) (cell := cellB) hcell
    (fun z h => by rw [h] at hobj; cases hobj) hselP hmethM habM hkP hkPi (g := g) hg (argsL := argsL) (rest := rest) (hlen _ hsigM) hstack hdg
  rcases hK m meth c ⟨T.setVm vm₁, locs, cells, slots⟩ { g with stack := rest } (.invokevirtual index) mk (Value.ref b :: argsL).toArray X₁ hg hsize hdg hW (X₁.named hnamed) (hpre vm₁ X₁.warmed) with ⟨v, B, X', hpost, hsteps⟩ | ⟨q, B, X', hpost, hsteps⟩
  · exact Or.inl ⟨v, vm₁, B, X₁.warmed, X', hpost, fun target h => hstep₁ _ fun acts => by rw [doInvoke_state]; exact hsteps.trans h⟩
  · exact Or.inr ⟨q, vm₁, B, X₁.warmed, X', hpost, hstep₁ _ fun acts => by rw [doInvoke_state]; exact hsteps⟩
theorem vx_callSX (X : Stand p l e R s m args below meth c T locs cells slots) (hexec : p.tables.exec = Jvm.exec) {own : String} {index : Nat} {y : MethodName} {bytes : ByteArray} {maxL : Nat} {ret : Option FieldType} {hh : List (Nat × Nat × Nat × Nat)}
    (hown : s.vm.findClass own = some m.cls) (hlink : (Cond.methodLink own index y).before args s = true) (hstat : (Cond.static y).before args s = true) (hinit : (Cond.initialized y.cls).before args s = true)
    (hcode : (Cond.codeWith y bytes maxL ret hh).before args s = true) (hy : y.cls ≠ "java/lang/invoke/MethodHandle" ∧ y.cls ≠ "java/lang/invoke/VarHandle")
    {W9 : Nat} {Pre : Pt → Array Value → Prop} {Post : Pt → Array Value → Option Value → Pt → Prop} {PostX : Pt → Array Value → Addr → Pt → Prop} (hK : vx_Back l R p e below s args y 3 W9 Pre Post PostX)
    {g : JFrame} (hg : g.method = m) (hsize : g.locals.size = c.maxLocals) {argsL rest : List Value} (hlen : ∀ sig, parseMethodDescriptor y.desc = some sig → argsL.length = sig.parameters.length)
    (hstack : g.stack = argsL.reverse ++ rest) (hW : 2 * g.monitorRoom + (rest.map fun v => v.category).sum ≤ W9) (hdg : decode c.code g.pc = .ok (.invokestatic index, 3))
    (hpre : ∀ vm₁, s.WarmedH vm₁ → Pre ⟨T.setVm vm₁, locs, cells, slots⟩ argsL.toArray) :
    (∃ (v : Option Value) (vm₁ : Vm) (B : Pt), s.WarmedH vm₁ ∧ Stand p l e R s m args below meth c B.U B.locs B.cells B.slots ∧ Post ⟨T.setVm vm₁, locs, cells, slots⟩ argsL.toArray v B ∧
      ∀ target, Steps p.tables e below (B.U.setTop { g with pc := g.pc + 3, stack := v.toList ++ rest }) target → Steps p.tables e below (T.setTop g) target) ∨
    (∃ (q : Addr) (vm₁ : Vm) (B : Pt), s.WarmedH vm₁ ∧ Stand p l e R s m args below meth c B.U B.locs B.cells B.slots ∧ PostX ⟨T.setVm vm₁, locs, cells, slots⟩ argsL.toArray q B ∧
      Steps p.tables e below (T.setTop g) ((B.U.setTop { g with stack := rest }).pushFrame (.throwing q))) := by
  obtain ⟨mk, methM, cM, hnamed, hmethM, -, -, -, -, -, -, hsigM⟩ := Cond.codeWith_spec hcode
  have hstatic : methM.isStatic = true := Cond.static_spec hnamed hmethM hstat
  obtain ⟨kP, hkP, -⟩ := className_of_methodNamed hnamed
  have hinitP : kP.init = .initialized := Cond.initialized_spec (findClass_of_methodNamed hnamed) hkP hinit
  obtain ⟨vm₁, X₁, hstep₁⟩ := X.invokestatic hexec hown hlink hnamed hmethM hstatic hkP hinitP hy (g := g) hg (argsL := argsL) (rest := rest) (hlen _ hsigM) hstack hdg
  rcases hK m meth c ⟨T.setVm vm₁, locs, cells, slots⟩ { g with stack := rest } (.invokestatic index) mk argsL.toArray X₁ hg hsize hdg hW (X₁.named hnamed) (hpre vm₁ X₁.warmed) with ⟨v, B, X', hpost, hsteps⟩ | ⟨q, B, X', hpost, hsteps⟩
  · exact Or.inl ⟨v, vm₁, B, X₁.warmed, X', hpost, fun target h => hstep₁ _ fun acts => by rw [doInvoke_state]; exact hsteps.trans h⟩
  · exact Or.inr ⟨q, vm₁, B, X₁.warmed, X', hpost, hstep₁ _ fun acts => by rw [doInvoke_state]; exact hsteps⟩
theorem vx_callVW (X : Stand p l e R s m args below meth c T locs cells slots) (hexec : p.tables.exec = Jvm.exec) {own C : String} {index : Nat} {y : MethodName} {bytes : ByteArray} {maxL : Nat} {ret : Option FieldType} {hh : List (Nat × Nat × Nat × Nat)}
    (hown : s.vm.findClass own = some m.cls) (hlink : (Cond.methodLink own index y).before args s = true) (hinst : (Cond.instanceMethod y).before args s = true) (hsel : (Cond.selects C y y).before args s = true)
    (hcode : (Cond.codeWith y bytes maxL ret hh).before args s = true) (hy : y.cls ≠ "java/lang/invoke/MethodHandle" ∧ y.cls ≠ "java/lang/invoke/VarHandle")
    {W9 : Nat} {Pre : Pt → Array Value → Prop} {Post : Pt → Array Value → Option Value → Pt → Prop} (hK : Back l R p e below s args y 3 W9 Pre Post)
    {b : Addr} {cellB : Cell} (hcell : T.heap[b]? = some cellB) (hobj : cellB.vm.isStatics = false) (hcls : s.vm.findClass C = some cellB.cls)
    {g : JFrame} (hg : g.method = m) (hsize : g.locals.size = c.maxLocals) {argsL rest : List Value} (hlen : ∀ sig, parseMethodDescriptor y.desc = some sig → argsL.length = sig.parameters.length)
    (hstack : g.stack = argsL.reverse ++ .ref b :: rest) (hW : 2 * g.monitorRoom + (rest.map fun v => v.category).sum ≤ W9) (hdg : decode c.code g.pc = .ok (.invokevirtual index, 3))
    (hpre : ∀ vm₁, s.WarmedH vm₁ → Pre ⟨T.setVm vm₁, locs, cells, slots⟩ (Value.ref b :: argsL).toArray) :
    ∃ (v : Option Value) (vm₁ : Vm) (B : Pt), s.WarmedH vm₁ ∧ Stand p l e R s m args below meth c B.U B.locs B.cells B.slots ∧ Post ⟨T.setVm vm₁, locs, cells, slots⟩ (Value.ref b :: argsL).toArray v B ∧
      ∀ target, Steps p.tables e below (B.U.setTop { g with pc := g.pc + 3, stack := v.toList ++ rest }) target → Steps p.tables e below (T.setTop g) target := by
  obtain ⟨mk, methM, hnamed, hmethM, hstM, habM⟩ := Cond.instanceMethod_spec hinst
  obtain ⟨m8, methM', cM, hn8, hmethM', -, -, -, -, -, -, hsigM⟩ := Cond.codeWith_spec hcode
  cases Option.some.inj (hn8.symm.trans hnamed)
  cases hmethM.symm.trans hmethM'
  obtain ⟨c2, r2, m2, q1, q2, q3, q4, kP, hkP, hkPi⟩ := Cond.selects_spec hsel
  cases hcls.symm.trans q1
  cases (State.methodFound?_of_named hnamed hy).symm.trans q2
  cases hnamed.symm.trans q3
  have hselP : selectMethod e.platform s.vm cellB.cls mk = .method mk := by rw [Launch.admits_selectMethod X.admits]; exact q4
  obtain ⟨vm₁, X₁, hstep₁⟩ := X.invokevirtual hexec hown hlink hnamed hmethM hstM hkP hkPi hy (a := b) (cell := cellB) hcell
    (fun z h => by rw [h] at hobj; cases hobj) hselP hmethM habM hkP hkPi (g := g) hg (argsL := argsL) (rest := rest) (hlen _ hsigM) hstack hdg
  obtain ⟨v, B, X', hpost, hsteps⟩ := hK m meth c ⟨T.setVm vm₁, locs, cells, slots⟩ { g with stack := rest } (.invokevirtual index) mk (Value.ref b :: argsL).toArray X₁ hg hsize hdg hW (X₁.named hnamed) (hpre vm₁ X₁.warmed)
  exact ⟨v, vm₁, B, X₁.warmed, X', hpost, fun target h => hstep₁ _ fun acts => by rw [doInvoke_state]; exact hsteps.trans h⟩
abbrev vx_CVW (R : Room) (s : State) (args : Array Value) (own C : String) (index : Nat) (y : MethodName) (bytes : ByteArray) (maxL : Nat) (ret : Option FieldType) (hh : List (Nat × Nat × Nat × Nat)) (ws : List Cond) (rm : Room) (mc ms n : Nat) : Prop :=
  (rm.cells = mc ∧ rm.slots = ms ∧ rm.frames + 1 ≤ R.frames ∧ 8 + (maxL + 11) + rm.locals ≤ R.locals ∧ (∀ w ∈ ws, ∀ (a' : Array Value) (U : State), s.WarmedH U.vm → w.before a' U = true) ∧ Cond.codeWith y bytes maxL ret hh ∈ ws) ∧
  (Cond.codeWith y bytes maxL ret hh).before args s = true ∧ (Cond.initialized y.cls).before args s = true ∧ (y.cls ≠ "java/lang/invoke/MethodHandle" ∧ y.cls ≠ "java/lang/invoke/VarHandle") ∧
  (∀ sig, parseMethodDescriptor y.desc = some sig → n = sig.parameters.length) ∧ (Cond.methodLink own index y).before args s = true ∧ (Cond.instanceMethod y).before args s = true ∧ (Cond.selects C y y).before args s = true
theorem vx_cwVW {own C : String} {index maxL mc ms : Nat} {y : MethodName} {bytes : ByteArray} {ret : Option FieldType} {hh : List (Nat × Nat × Nat × Nat)} {Ts ws ws' : List Cond} {rm : Room} (n : Nat) (ht : ∀ w ∈ Ts, w.before args s = true) (hT : GoodIn Ts (wsV own index C y ws)) (hw : ws = Cond.codeWith y bytes maxL ret hh :: ws') (hrc : rm.cells = mc) (hrs : rm.slots = ms)
    (hd : y.cls = C ∧ y.cls ≠ "java/lang/invoke/MethodHandle" ∧ y.cls ≠ "java/lang/invoke/VarHandle" ∧ (parseMethodDescriptor y.desc).map (fun d => d.parameters.length) = some n) (hR : rm.frames + 1 ≤ R.frames ∧ 8 + (maxL + 11) + rm.locals ≤ R.locals) :
    vx_CVW R s args own C index y bytes maxL ret hh ws rm mc ms n := by
  obtain ⟨hC, hd⟩ := hd
  subst hC
  have ok : ∀ w ∈ wsV own index y.cls y ws, w.before args s = true := fun w h => ht w (hT w h).1
  have hG : GoodIn Ts ws := fun w h => hT w (by unfold wsV; exact List.mem_append_right _ h)
  have hc : Cond.codeWith y bytes maxL ret hh ∈ ws := by rw [hw]; exact List.mem_cons_self
  refine ⟨⟨hrc, hrs, hR.1, hR.2, pay_in ht hG, hc⟩, ht _ (hG _ hc).1, ok _ (by simp [wsV]), ⟨hd.1, hd.2.1⟩, fun sig h => ?_, ok _ (by simp [wsV]), ok _ (by simp [wsV]), ok _ (by simp [wsV])⟩
  have h2 := hd.2.2
  rw [h] at h2
  exact (Option.some.inj h2).symm
theorem vx_runVW {y : MethodName} {bytes cc : ByteArray} {maxL nL mc ms n index : Nat} {ret : Option FieldType} {hh : List (Nat × Nat × Nat × Nat)} {ws : List Cond} {rm : Room} {Pc : Array Value → State → Prop} {Qc : Array Value → State → Outcome → State → Prop} {free : Addr → Prop} {Ts : List Cond} {own C : String} {b : Addr} {As rest : List Value} {g : JFrame}
    (S : CallFix p m c cc nL s args Ts own) (hM : Met l y ws rm Pc Qc mc ms free) (cw : vx_CVW R s args own C index y bytes maxL ret hh ws rm mc ms n) (hp : PreV s H C b Pc As)
    (hg : g.method = m) (hn : As.length = n) (hsize : g.locals.size = nL) (hstack : g.stack = As.reverse ++ .ref b :: rest) (hW : 2 * g.monitorRoom + (rest.map fun v => v.category).sum ≤ 8) (hdg : decode cc g.pc = .ok (.invokevirtual index, 3)) (hf : cells + mc ≤ R.cells ∧ slots + ms ≤ R.slots) :
    va_Run p l e R s m args below meth c H locs cells slots mc ms g rest (Qc (Value.ref b :: As).toArray) free := by
  obtain ⟨⟨hrc, hrs, hfr, hlo, hws, hcw⟩, hcode, hini, hy, hlen, hl, hin, hse⟩ := cw
  have hK : Back l R p e below s args y 3 8 (PreOf R mc ms Pc) (PostOf Qc mc ms free) := va_backW (hh := hh) (bytes := bytes) (maxL := maxL) (ret := ret) hM hp.1 hrc hrs hfr hlo hws hcw (fun a' U hW => word_at hW (Or.inl (by first | rfl | simp [Cond.onTables, Cond.keeps, Cond.steady])) hini)
  obtain ⟨hx, hb, hml, ho, -⟩ := S
  obtain ⟨-, ⟨cellB, hcB, hoB, hclB⟩, hPc⟩ := hp
  intro T hT X
  obtain ⟨v, vm₁, ⟨U', l2, c2, s2⟩, hW₁, X', ⟨g', mk, t, L, e1, e2, hq, h1, hL, h2, h3⟩, st⟩ := vx_callVW X hx (C := C) (hh := hh) (bytes := bytes) (maxL := maxL) (ret := ret) ho hl hin hse hcode hy hK (by rw [hT]; exact hcB) hoB hclB hg (hsize.trans hml.symm) (argsL := As) (rest := rest) (fun sig h => hn.trans (hlen sig h)) hstack hW (by rw [hb]; exact hdg)
    (fun vm₁ hW₁ => ⟨hf.1, hf.2, hPc (T.setVm vm₁) hT hW₁⟩)
  dsimp only [Pt.U, Pt.locs, Pt.cells, Pt.slots] at X' e1 e2 h1 h2 h3 st
  subst h1; subst h2; subst h3
  exact ⟨v, (T.setVm vm₁).calling g' mk (Value.ref b :: As).toArray, t, U', L, hT, X', hL, e1, e2, hq, st⟩
section
variable {y : MethodName} {bytes cc : ByteArray} {maxL nL mc ms n index : Nat} {ret : Option FieldType} {ws : List Cond} {rm : Room} {Pc : Array Value → State → Prop} {Qc : Array Value → State → Outcome → State → Prop} {XC : String → State → State → Prop} {free : Addr → Prop} {Ts : List Cond} {own C : String} {b : Addr} {As rest : List Value} {g : JFrame}
theorem vx_runVX {hh : List (Nat × Nat × Nat × Nat)} (S : CallFix p m c cc nL s args Ts own) (hM : vx_Met l y ws rm Pc Qc XC mc ms free) (cw : vx_CVW R s args own C index y bytes maxL ret hh ws rm mc ms n) (hp : PreV s H C b Pc As)
    (hg : g.method = m) (hn : As.length = n) (hsize : g.locals.size = nL) (hstack : g.stack = As.reverse ++ .ref b :: rest) (hW : 2 * g.monitorRoom + (rest.map fun v => v.category).sum ≤ 8) (hdg : decode cc g.pc = .ok (.invokevirtual index, 3)) (hf : cells + mc ≤ R.cells ∧ slots + ms ≤ R.slots) :
    vx_Run p l e R s m args below meth c H locs cells slots mc ms g rest (Qc (Value.ref b :: As).toArray) XC free := by
  obtain ⟨⟨hrc, hrs, hfr, hlo, hws, hcw⟩, hcode, hini, hy, hlen, hl, hin, hse⟩ := cw
  have hK : vx_Back l R p e below s args y 3 8 (PreOf R mc ms Pc) (PostOf Qc mc ms free) (vx_Post XC mc ms free) := vx_backW (hh := hh) (bytes := bytes) (maxL := maxL) (ret := ret) hM hp.1 hrc hrs hfr hlo hws hcw (fun a' U hW => word_at hW (Or.inl (by first | rfl | simp [Cond.onTables, Cond.keeps, Cond.steady])) hini)
  obtain ⟨hx, hb, hml, ho, -⟩ := S
  obtain ⟨-, ⟨cellB, hcB, hoB, hclB⟩, hPc⟩ := hp
  intro T hT X
  rcases vx_callVX X hx (C := C) (hh := hh) (bytes := bytes) (maxL := maxL) (ret := ret) ho hl hin hse hcode hy hK (by rw [hT]; exact hcB) hoB hclB hg (hsize.trans hml.symm) (argsL := As) (rest := rest) (fun sig h => hn.trans (hlen sig h)) hstack hW (by rw [hb]; exact hdg)
    (fun vm₁ hW₁ => ⟨hf.1, hf.2, hPc (T.setVm vm₁) hT hW₁⟩) with ⟨v, vm₁, ⟨U', l2, c2, s2⟩, hW₁, X', ⟨g', mk, t, L, e1, e2, hq, h1, hL, h2, h3⟩, st⟩ | ⟨q, vm₁, ⟨U', l2, c2, s2⟩, hW₁, X', ⟨g', mk, t, L, E, ce, e1, e2, hq, hce, hcv, hcl, h1, hL, h2, h3⟩, st⟩
  · dsimp only [Pt.U, Pt.locs, Pt.cells, Pt.slots] at X' e1 e2 h1 h2 h3 st
    subst h1; subst h2; subst h3
    exact Or.inl ⟨v, (T.setVm vm₁).calling g' mk (Value.ref b :: As).toArray, t, U', L, hT, X', hL, e1, e2, hq, st⟩
  · dsimp only [Pt.U, Pt.locs, Pt.cells, Pt.slots] at X' e1 e2 h1 h2 h3 st hcl
    subst h1; subst h2; subst h3
    exact Or.inr ⟨q, (T.setVm vm₁).calling g' mk (Value.ref b :: As).toArray, t, U', L, E, ce, hT, X', hL, e1, e2, hq, hce, hcv, vx_cls hW₁ hcl, st⟩
theorem vx_runSX {hh : List (Nat × Nat × Nat × Nat)} (S : CallFix p m c cc nL s args Ts own) (hM : vx_Met l y ws rm Pc Qc XC mc ms free) (cw : vx_CSW R s args own index y bytes maxL ret hh ws rm mc ms n) (hp : PreS s H Pc As)
    (hg : g.method = m) (hn : As.length = n) (hsize : g.locals.size = nL) (hstack : g.stack = As.reverse ++ rest) (hW : 2 * g.monitorRoom + (rest.map fun v => v.category).sum ≤ 8) (hdg : decode cc g.pc = .ok (.invokestatic index, 3)) (hf : cells + mc ≤ R.cells ∧ slots + ms ≤ R.slots) :
    vx_Run p l e R s m args below meth c H locs cells slots mc ms g rest (Qc As.toArray) XC free := by
  obtain ⟨⟨hrc, hrs, hfr, hlo, hws, hcw⟩, hcode, hini, hy, hlen, hl, hstt⟩ := cw
  have hK : vx_Back l R p e below s args y 3 8 (PreOf R mc ms Pc) (PostOf Qc mc ms free) (vx_Post XC mc ms free) := vx_backW (hh := hh) (bytes := bytes) (maxL := maxL) (ret := ret) hM hp.1 hrc hrs hfr hlo hws hcw (fun a' U hW => word_at hW (Or.inl (by first | rfl | simp [Cond.onTables, Cond.keeps, Cond.steady])) hini)
  obtain ⟨hx, hb, hml, ho, -⟩ := S
  intro T hT X
  rcases vx_callSX X hx (hh := hh) (bytes := bytes) (maxL := maxL) (ret := ret) ho hl hstt hini hcode hy hK hg (hsize.trans hml.symm) (argsL := As) (rest := rest) (fun sig h => hn.trans (hlen sig h)) hstack hW (by rw [hb]; exact hdg)
    (fun vm₁ hW₁ => ⟨hf.1, hf.2, hp.2 (T.setVm vm₁) hT hW₁⟩) with ⟨v, vm₁, ⟨U', l2, c2, s2⟩, hW₁, X', ⟨g', mk, t, L, e1, e2, hq, h1, hL, h2, h3⟩, st⟩ | ⟨q, vm₁, ⟨U', l2, c2, s2⟩, hW₁, X', ⟨g', mk, t, L, E, ce, e1, e2, hq, hce, hcv, hcl, h1, hL, h2, h3⟩, st⟩
  · dsimp only [Pt.U, Pt.locs, Pt.cells, Pt.slots] at X' e1 e2 h1 h2 h3 st
    subst h1; subst h2; subst h3
    exact Or.inl ⟨v, (T.setVm vm₁).calling g' mk As.toArray, t, U', L, hT, X', hL, e1, e2, hq, st⟩
  · dsimp only [Pt.U, Pt.locs, Pt.cells, Pt.slots] at X' e1 e2 h1 h2 h3 st hcl
    subst h1; subst h2; subst h3
    exact Or.inr ⟨q, (T.setVm vm₁).calling g' mk As.toArray, t, U', L, E, ce, hT, X', hL, e1, e2, hq, hce, hcv, vx_cls hW₁ hcl, st⟩
end
end VXH
theorem vx_ofWH {l : Launch} {y : MethodName} {ws ws' : List Cond} {rm : Room} {Pc : Array Value → State → Prop} {Qc : Array Value → State → Outcome → State → Prop} {XC : String → State → State → Prop} {mc ms : Nat} {free : Addr → Prop} {cc : ByteArray} {maxL : Nat} {ret : Option FieldType} {hh : List (Nat × Nat × Nat × Nat)}
    (hy : plainName y.cls = true) (hw : ws = Cond.codeWith y cc maxL ret hh :: ws')
    (body : ∀ p e s m args below meth c s₁, BodyLoose p l y (headSpec ws rm) cc maxL ret e s m args below meth c s₁ → c.maxLocals = maxL → Pc args s →
      W p l e (headSpec ws rm).room s m args below meth c s.heap [] 0 0 (vx_MQ below Qc XC args s mc ms free) (entryFrame m args maxL)) : vx_Met l y ws rm Pc Qc XC mc ms free := by
  refine MetFree.of_bodyS (code := cc) (maxLocals := maxL) (ret := ret) hy ?_ ?_
  · intro args s m h hn
    obtain ⟨m9, meth, c, hn9, h1, h2, h3, h4, -, h5, h6, -⟩ := Cond.codeWith_spec (atoms_spec (ws := ws) h _ (by rw [hw]; exact List.mem_cons_self))
    cases hn.symm.trans hn9
    exact ⟨meth, c, h1, h2, h3, h4, h5, h6⟩
  · intro p e s m args below meth c s₁ B hml hP _
    have hh0 : s₁.heap = s.heap := by rw [B.state]; rfl
    obtain ⟨t, a1, o, b1, b2, b3⟩ := body p e s m args below meth c s₁ B hml hP s₁ hh0 (Stand.of_body B)
    exact ⟨t, o, a1, b1, b2, b3⟩
/-! ===== END ===== -/
end
section
/-! ===== BEGIN printed: names, fields, word lists, decode rows ===== -/
def RX0 : String := "PortRules"
def TX0 : u_T := fun k => match k with
  | 0 => ("PortRules", "partCount", "I", false)
  | 1 => ("PortRules", "compositionOf", "[I", true)
  | 2 => ("PortRules", "hasInnerParts", "[Z", true)
  | 3 => ("PortRules", "managerOf", "[I", true)
  | 4 => ("PortRules", "portCount", "I", false)
  | 5 => ("PortRules", "partOf", "[I", true)
  | 6 => ("PortRules", "kindOf", "[I", true)
  | 7 => ("PortRules", "isProvided", "[Z", true)
  | 8 => ("PortRules", "unitOf", "[I", true)
  | 9 => ("PortRules", "upOf", "[J", true)
  | 10 => ("PortRules", "downOf", "[J", true)
  | 11 => ("PortRules", "versionOf", "[I", true)
  | 12 => ("PortRules", "hasFallback", "[Z", true)
  | 13 => ("PortRules", "fallbackOf", "[I", true)
  | 14 => ("PortRules", "queueOf", "[I", true)
  | 15 => ("PortRules", "connectedTo", "[J", true)
  | 16 => ("PortRules", "reachedFrom", "[J", true)
  | 17 => ("PortRules", "atomicProvided", "J", false)
  | _ => ("PortRules", "atomicRequired", "J", false)
def tyX0 : Nat → FieldType := fun k => match k with
  | 0 => .int
  | 1 => .array .int
  | 2 => .array .boolean
  | 3 => .array .int
  | 4 => .int
  | 5 => .array .int
  | 6 => .array .int
  | 7 => .array .boolean
  | 8 => .array .int
  | 9 => .array .long
  | 10 => .array .long
  | 11 => .array .int
  | 12 => .array .boolean
  | 13 => .array .int
  | 14 => .array .int
  | 15 => .array .long
  | 16 => .array .long
  | 17 => .long
  | _ => .long
abbrev wsX00 : List Cond := u_ws RX0 TX0 19
theorem nmX0 : ∀ a, a < 19 → ∀ b, b < 19 → a ≠ b → (TX0 a).2.1 ≠ (TX0 b).2.1 := by decide +kernel
theorem tyX0_ok : ∀ k, k < 19 → parseFieldDescriptor (TX0 k).2.2.1 = some (tyX0 k) := by decide +kernel
abbrev cX0_init : ByteArray := prog_1_method_1_code
def yX0_init : MethodName := ⟨RX0, "<init>", "()V"⟩
abbrev cX0_part : ByteArray := prog_1_method_2_code
def yX0_part : MethodName := ⟨RX0, "part", "(I)I"⟩
abbrev cX0_port : ByteArray := prog_1_method_3_code
def yX0_port : MethodName := ⟨RX0, "port", "(IIZ)I"⟩
abbrev cX0_unit : ByteArray := prog_1_method_4_code
def yX0_unit : MethodName := ⟨RX0, "unit", "(IIJJ)I"⟩
abbrev cX0_connect : ByteArray := prog_1_method_5_code
def yX0_connect : MethodName := ⟨RX0, "connect", "(II)I"⟩
abbrev cX0_flatten : ByteArray := prog_1_method_6_code
def yX0_flatten : MethodName := ⟨RX0, "flatten", "()I"⟩
abbrev cX0_at : ByteArray := prog_1_method_7_code
def yX0_at : MethodName := ⟨RX0, "at", "(II)I"⟩
abbrev cX0_check : ByteArray := prog_1_method_8_code
def yX0_check : MethodName := ⟨RX0, "check", "()I"⟩
abbrev cX0_manager : ByteArray := prog_1_method_9_code
def yX0_manager : MethodName := ⟨RX0, "manager", "(II)I"⟩
abbrev cX0_fallback : ByteArray := prog_1_method_10_code
def yX0_fallback : MethodName := ⟨RX0, "fallback", "(II)I"⟩
abbrev cX0_queue : ByteArray := prog_1_method_11_code
def yX0_queue : MethodName := ⟨RX0, "queue", "(II)I"⟩
abbrev cX0_version : ByteArray := prog_1_method_12_code
def yX0_version : MethodName := ⟨RX0, "version", "(II)I"⟩
abbrev cX0_open : ByteArray := prog_1_method_13_code
def yX0_open : MethodName := ⟨RX0, "open", "(I)I"⟩
abbrev cX0_isPart : ByteArray := prog_1_method_14_code
def yX0_isPart : MethodName := ⟨RX0, "isPart", "(I)Z"⟩
abbrev cX0_isPort : ByteArray := prog_1_method_15_code
def yX0_isPort : MethodName := ⟨RX0, "isPort", "(I)Z"⟩
abbrev cX0_isScaling : ByteArray := prog_1_method_16_code
def yX0_isScaling : MethodName := ⟨RX0, "isScaling", "(J)Z"⟩
abbrev cX0_bit : ByteArray := prog_1_method_17_code
def yX0_bit : MethodName := ⟨RX0, "bit", "(I)J"⟩
abbrev cX0_holds : ByteArray := prog_1_method_18_code
def yX0_holds : MethodName := ⟨RX0, "holds", "(JI)Z"⟩
abbrev cX0_nthPort : ByteArray := prog_1_method_19_code
def yX0_nthPort : MethodName := ⟨RX0, "nthPort", "(JI)I"⟩
abbrev cX0_addAtomicPort : ByteArray := prog_1_method_20_code
def yX0_addAtomicPort : MethodName := ⟨RX0, "addAtomicPort", "(I)V"⟩
abbrev cX0_endAtomic : ByteArray := prog_1_method_21_code
def yX0_endAtomic : MethodName := ⟨RX0, "endAtomic", "(I)V"⟩
abbrev cX0_isWay : ByteArray := prog_1_method_22_code
def yX0_isWay : MethodName := ⟨RX0, "isWay", "(II)Z"⟩
abbrev cX0_spreadReach : ByteArray := prog_1_method_23_code
def yX0_spreadReach : MethodName := ⟨RX0, "spreadReach", "(II)V"⟩
abbrev cX0_flatFrom : ByteArray := prog_1_method_24_code
def yX0_flatFrom : MethodName := ⟨RX0, "flatFrom", "(I)J"⟩
abbrev cX0_flatSeconds : ByteArray := prog_1_method_25_code
def yX0_flatSeconds : MethodName := ⟨RX0, "flatSeconds", "()J"⟩
abbrev cX0_flatCountTo : ByteArray := prog_1_method_26_code
def yX0_flatCountTo : MethodName := ⟨RX0, "flatCountTo", "(I)I"⟩
abbrev cX0_isPortRule : ByteArray := prog_1_method_27_code
def yX0_isPortRule : MethodName := ⟨RX0, "isPortRule", "(I)Z"⟩
abbrev cX0_firstBadPort : ByteArray := prog_1_method_28_code
def yX0_firstBadPort : MethodName := ⟨RX0, "firstBadPort", "(I)I"⟩
abbrev cX0_portBreaks : ByteArray := prog_1_method_29_code
def yX0_portBreaks : MethodName := ⟨RX0, "portBreaks", "(II)Z"⟩
abbrev cX0_firstBadConnector : ByteArray := prog_1_method_30_code
def yX0_firstBadConnector : MethodName := ⟨RX0, "firstBadConnector", "(I)I"⟩
abbrev cX0_connectorBreaks : ByteArray := prog_1_method_31_code
def yX0_connectorBreaks : MethodName := ⟨RX0, "connectorBreaks", "(III)Z"⟩
abbrev cX0_isExactScaling : ByteArray := prog_1_method_32_code
def yX0_isExactScaling : MethodName := ⟨RX0, "isExactScaling", "(II)Z"⟩
abbrev cX0_servesVersion : ByteArray := prog_1_method_33_code
def yX0_servesVersion : MethodName := ⟨RX0, "servesVersion", "(II)Z"⟩
abbrev cX0_managesMode : ByteArray := prog_1_method_34_code
def yX0_managesMode : MethodName := ⟨RX0, "managesMode", "(I)Z"⟩
def RX1 : String := "PortRulesModel"
def TX1 : u_T := fun k => match k with
  | _ => ("", "", "", false)
def tyX1 : Nat → FieldType := fun k => match k with
  | _ => .int
abbrev wsX10 : List Cond := u_ws RX1 TX1 0
theorem nmX1 : ∀ a, a < 0 → ∀ b, b < 0 → a ≠ b → (TX1 a).2.1 ≠ (TX1 b).2.1 := by decide +kernel
theorem tyX1_ok : ∀ k, k < 0 → parseFieldDescriptor (TX1 k).2.2.1 = some (tyX1 k) := by decide +kernel
def RJ13 : String := "java/lang/Long"
def TJ13 : u_T := fun k => match k with
  | _ => ("", "", "", false)
def tyJ13 : Nat → FieldType := fun k => match k with
  | _ => .int
abbrev wsJ130 : List Cond := u_ws RJ13 TJ13 0
theorem nmJ13 : ∀ a, a < 0 → ∀ b, b < 0 → a ≠ b → (TJ13 a).2.1 ≠ (TJ13 b).2.1 := by decide +kernel
theorem tyJ13_ok : ∀ k, k < 0 → parseFieldDescriptor (TJ13 k).2.2.1 = some (tyJ13 k) := by decide +kernel
abbrev cJ13_bitCount_95d88 : ByteArray := prog_6_method_50_code
def yJ13_bitCount_95d88 : MethodName := ⟨RJ13, "bitCount", "(J)I"⟩
def RJ0 : String := "java/lang/String"
def TJ0 : u_T := fun k => match k with
  | _ => ("", "", "", false)
def tyJ0 : Nat → FieldType := fun k => match k with
  | _ => .int
abbrev wsJ00 : List Cond := u_ws RJ0 TJ0 0
theorem nmJ0 : ∀ a, a < 0 → ∀ b, b < 0 → a ≠ b → (TJ0 a).2.1 ≠ (TJ0 b).2.1 := by decide +kernel
theorem tyJ0_ok : ∀ k, k < 0 → parseFieldDescriptor (TJ0 k).2.2.1 = some (tyJ0 k) := by decide +kernel
def RJ7 : String := "java/util/Arrays"
def TJ7 : u_T := fun k => match k with
  | _ => ("", "", "", false)
def tyJ7 : Nat → FieldType := fun k => match k with
  | _ => .int
abbrev wsJ70 : List Cond := u_ws RJ7 TJ7 0
theorem nmJ7 : ∀ a, a < 0 → ∀ b, b < 0 → a ≠ b → (TJ7 a).2.1 ≠ (TJ7 b).2.1 := by decide +kernel
theorem tyJ7_ok : ∀ k, k < 0 → parseFieldDescriptor (TJ7 k).2.2.1 = some (tyJ7 k) := by decide +kernel
abbrev cJ7_fill_53178 : ByteArray := prog_10_method_103_code
def yJ7_fill_53178 : MethodName := ⟨RJ7, "fill", "([II)V"⟩
def RL : String := "PortRulesLaw"
abbrev cL_at : ByteArray := method_3_code
def yL_at : MethodName := ⟨RL, "at", "(LPortRules;II[J)I"⟩
abbrev cL_law : ByteArray := code
def yL_law : MethodName := ⟨RL, "law", "([I)Z"⟩
def wsJ7_fill_53178 : List Cond := .code yJ7_fill_53178 cJ7_fill_53178 4 none :: ([])
def wsX0_init_r1 : List Cond := [Cond.methodLink RX0 1 objectInit, Cond.instanceMethod objectInit, Cond.code objectInit ⟨#[0xb1]⟩ 1 none, Cond.arrayClass .int, Cond.fieldLink RX0 9 "PortRules" "compositionOf" "[I", Cond.arrayClass .boolean, Cond.fieldLink RX0 13 "PortRules" "hasInnerParts" "[Z", Cond.fieldLink RX0 17 "PortRules" "managerOf" "[I", Cond.fieldLink RX0 20 "PortRules" "partOf" "[I", Cond.fieldLink RX0 23 "PortRules" "kindOf" "[I", Cond.fieldLink RX0 26 "PortRules" "isProvided" "[Z", Cond.fieldLink RX0 29 "PortRules" "unitOf" "[I", Cond.arrayClass .long, Cond.fieldLink RX0 32 "PortRules" "upOf" "[J", Cond.fieldLink RX0 36 "PortRules" "downOf" "[J", Cond.fieldLink RX0 39 "PortRules" "versionOf" "[I", Cond.fieldLink RX0 42 "PortRules" "hasFallback" "[Z", Cond.fieldLink RX0 45 "PortRules" "fallbackOf" "[I", Cond.fieldLink RX0 48 "PortRules" "queueOf" "[I", Cond.fieldLink RX0 51 "PortRules" "connectedTo" "[J", Cond.fieldLink RX0 54 "PortRules" "reachedFrom" "[J", Cond.methodLink RX0 57 yJ7_fill_53178, Cond.static yJ7_fill_53178, Cond.initialized RJ7]
def wsX0_init_r2 : List Cond := [Cond.code yJ7_fill_53178 cJ7_fill_53178 4 none]
def wsX0_init : List Cond := .code yX0_init cX0_init 1 none :: ((wsX0_init_r1 ++ wsX0_init_r2) ++ wsX00)
def wsX0_isPart : List Cond := .code yX0_isPart cX0_isPart 2 (some .boolean) :: ([.fieldLink RX0 67 "PortRules" "partCount" "I"] ++ wsX00)
def wsX0_bit : List Cond := .code yX0_bit cX0_bit 1 (some .long) :: ([])
def wsX0_endAtomic : List Cond := .code yX0_endAtomic cX0_endAtomic 3 none :: ([.fieldLink RX0 13 "PortRules" "hasInnerParts" "[Z", .fieldLink RX0 75 "PortRules" "portCount" "I", .fieldLink RX0 20 "PortRules" "partOf" "[I", .fieldLink RX0 146 "PortRules" "atomicProvided" "J", .constantLong RX0 142 (-1), .fieldLink RX0 134 "PortRules" "atomicRequired" "J", .methodLink RX0 96 yX0_bit, .static yX0_bit, .initialized RX0, .code yX0_bit cX0_bit 1 (some .long)] ++ wsX00)
def wsX0_part : List Cond := .code yX0_part cX0_part 2 (some .int) :: ([.fieldLink RX0 67 "PortRules" "partCount" "I", .fieldLink RX0 9 "PortRules" "compositionOf" "[I", .methodLink RX0 63 yX0_isPart, .instanceMethod yX0_isPart, .selects RX0 yX0_isPart yX0_isPart, .initialized RX0, .code yX0_isPart cX0_isPart 2 (some .boolean), .methodLink RX0 71 yX0_endAtomic, .instanceMethod yX0_endAtomic, .selects RX0 yX0_endAtomic yX0_endAtomic, .code yX0_endAtomic cX0_endAtomic 3 none, .fieldLink RX0 13 "PortRules" "hasInnerParts" "[Z", .fieldLink RX0 75 "PortRules" "portCount" "I", .fieldLink RX0 20 "PortRules" "partOf" "[I", .fieldLink RX0 146 "PortRules" "atomicProvided" "J", .constantLong RX0 142 (-1), .fieldLink RX0 134 "PortRules" "atomicRequired" "J", .methodLink RX0 96 yX0_bit, .static yX0_bit, .code yX0_bit cX0_bit 1 (some .long)] ++ wsX00)
def wsX0_addAtomicPort : List Cond := .code yX0_addAtomicPort cX0_addAtomicPort 2 none :: ([.fieldLink RX0 26 "PortRules" "isProvided" "[Z", .fieldLink RX0 146 "PortRules" "atomicProvided" "J", .fieldLink RX0 134 "PortRules" "atomicRequired" "J", .methodLink RX0 96 yX0_bit, .static yX0_bit, .initialized RX0, .code yX0_bit cX0_bit 1 (some .long)] ++ wsX00)
def wsX0_port : List Cond := .code yX0_port cX0_port 4 (some .int) :: ([.fieldLink RX0 75 "PortRules" "portCount" "I", .fieldLink RX0 20 "PortRules" "partOf" "[I", .fieldLink RX0 23 "PortRules" "kindOf" "[I", .fieldLink RX0 26 "PortRules" "isProvided" "[Z", .fieldLink RX0 13 "PortRules" "hasInnerParts" "[Z", .methodLink RX0 63 yX0_isPart, .instanceMethod yX0_isPart, .selects RX0 yX0_isPart yX0_isPart, .initialized RX0, .code yX0_isPart cX0_isPart 2 (some .boolean), .fieldLink RX0 67 "PortRules" "partCount" "I", .methodLink RX0 78 yX0_addAtomicPort, .instanceMethod yX0_addAtomicPort, .selects RX0 yX0_addAtomicPort yX0_addAtomicPort, .code yX0_addAtomicPort cX0_addAtomicPort 2 none, .fieldLink RX0 146 "PortRules" "atomicProvided" "J", .fieldLink RX0 134 "PortRules" "atomicRequired" "J", .methodLink RX0 96 yX0_bit, .static yX0_bit, .code yX0_bit cX0_bit 1 (some .long)] ++ wsX00)
def wsX0_isPort : List Cond := .code yX0_isPort cX0_isPort 2 (some .boolean) :: ([.fieldLink RX0 75 "PortRules" "portCount" "I"] ++ wsX00)
def wsX0_isScaling : List Cond := .code yX0_isScaling cX0_isScaling 2 (some .boolean) :: ([.constantLong RX0 144 (1000)])
def wsX0_unit : List Cond := .code yX0_unit cX0_unit 7 (some .int) :: ([.fieldLink RX0 29 "PortRules" "unitOf" "[I", .fieldLink RX0 32 "PortRules" "upOf" "[J", .fieldLink RX0 36 "PortRules" "downOf" "[J", .methodLink RX0 81 yX0_isPort, .instanceMethod yX0_isPort, .selects RX0 yX0_isPort yX0_isPort, .initialized RX0, .code yX0_isPort cX0_isPort 2 (some .boolean), .fieldLink RX0 75 "PortRules" "portCount" "I", .methodLink RX0 84 yX0_isScaling, .static yX0_isScaling, .code yX0_isScaling cX0_isScaling 2 (some .boolean), .constantLong RX0 144 (1000)] ++ wsX00)
def wsX0_isWay : List Cond := .code yX0_isWay cX0_isWay 5 (some .boolean) :: ([.fieldLink RX0 20 "PortRules" "partOf" "[I", .fieldLink RX0 26 "PortRules" "isProvided" "[Z", .fieldLink RX0 9 "PortRules" "compositionOf" "[I"] ++ wsX00)
def wsX0_holds : List Cond := .code yX0_holds cX0_holds 3 (some .boolean) :: ([.methodLink RX0 96 yX0_bit, .static yX0_bit, .initialized RX0, .code yX0_bit cX0_bit 1 (some .long)])
def wsX0_spreadReach : List Cond := .code yX0_spreadReach cX0_spreadReach 6 none :: ([.fieldLink RX0 54 "PortRules" "reachedFrom" "[J", .fieldLink RX0 75 "PortRules" "portCount" "I", .methodLink RX0 96 yX0_bit, .static yX0_bit, .initialized RX0, .code yX0_bit cX0_bit 1 (some .long), .methodLink RX0 92 yX0_holds, .static yX0_holds, .code yX0_holds cX0_holds 3 (some .boolean)] ++ wsX00)
def wsX0_connect_r1 : List Cond := [Cond.fieldLink RX0 23 "PortRules" "kindOf" "[I", Cond.fieldLink RX0 51 "PortRules" "connectedTo" "[J", Cond.methodLink RX0 81 yX0_isPort, Cond.instanceMethod yX0_isPort, Cond.selects RX0 yX0_isPort yX0_isPort, Cond.initialized RX0, Cond.code yX0_isPort cX0_isPort 2 (some .boolean), Cond.fieldLink RX0 75 "PortRules" "portCount" "I", Cond.methodLink RX0 88 yX0_isWay, Cond.instanceMethod yX0_isWay, Cond.selects RX0 yX0_isWay yX0_isWay, Cond.code yX0_isWay cX0_isWay 5 (some .boolean), Cond.fieldLink RX0 20 "PortRules" "partOf" "[I", Cond.fieldLink RX0 26 "PortRules" "isProvided" "[Z", Cond.fieldLink RX0 9 "PortRules" "compositionOf" "[I", Cond.methodLink RX0 92 yX0_holds, Cond.static yX0_holds, Cond.code yX0_holds cX0_holds 3 (some .boolean), Cond.methodLink RX0 96 yX0_bit, Cond.static yX0_bit, Cond.code yX0_bit cX0_bit 1 (some .long), Cond.methodLink RX0 100 yX0_spreadReach, Cond.instanceMethod yX0_spreadReach, Cond.selects RX0 yX0_spreadReach yX0_spreadReach]
def wsX0_connect_r2 : List Cond := [Cond.code yX0_spreadReach cX0_spreadReach 6 none, Cond.fieldLink RX0 54 "PortRules" "reachedFrom" "[J"]
def wsX0_connect : List Cond := .code yX0_connect cX0_connect 3 (some .int) :: ((wsX0_connect_r1 ++ wsX0_connect_r2) ++ wsX00)
def wsX0_flatFrom : List Cond := .code yX0_flatFrom cX0_flatFrom 2 (some .long) :: ([.fieldLink RX0 146 "PortRules" "atomicProvided" "J", .fieldLink RX0 54 "PortRules" "reachedFrom" "[J", .fieldLink RX0 134 "PortRules" "atomicRequired" "J", .methodLink RX0 92 yX0_holds, .static yX0_holds, .initialized RX0, .code yX0_holds cX0_holds 3 (some .boolean), .methodLink RX0 96 yX0_bit, .static yX0_bit, .code yX0_bit cX0_bit 1 (some .long)] ++ wsX00)
def wsJ13_bitCount_95d88 : List Cond := .code yJ13_bitCount_95d88 cJ13_bitCount_95d88 2 (some .int) :: ([.constantLong RJ13 314 (6148914691236517205), .constantLong RJ13 316 (3689348814741910323), .constantLong RJ13 318 (1085102592571150095)])
def wsX0_flatten : List Cond := .code yX0_flatten cX0_flatten 3 (some .int) :: ([.fieldLink RX0 75 "PortRules" "portCount" "I", .methodLink RX0 104 yX0_flatFrom, .instanceMethod yX0_flatFrom, .selects RX0 yX0_flatFrom yX0_flatFrom, .initialized RX0, .code yX0_flatFrom cX0_flatFrom 2 (some .long), .fieldLink RX0 146 "PortRules" "atomicProvided" "J", .fieldLink RX0 54 "PortRules" "reachedFrom" "[J", .fieldLink RX0 134 "PortRules" "atomicRequired" "J", .methodLink RX0 92 yX0_holds, .static yX0_holds, .code yX0_holds cX0_holds 3 (some .boolean), .methodLink RX0 96 yX0_bit, .static yX0_bit, .code yX0_bit cX0_bit 1 (some .long), .methodLink RX0 107 yJ13_bitCount_95d88, .static yJ13_bitCount_95d88, .initialized RJ13, .code yJ13_bitCount_95d88 cJ13_bitCount_95d88 2 (some .int), .constantLong RJ13 314 (6148914691236517205), .constantLong RJ13 316 (3689348814741910323), .constantLong RJ13 318 (1085102592571150095)] ++ wsX00)
def wsX0_nthPort : List Cond := .code yX0_nthPort cX0_nthPort 6 (some .int) :: ([.fieldLink RX0 75 "PortRules" "portCount" "I", .methodLink RX0 92 yX0_holds, .static yX0_holds, .initialized RX0, .code yX0_holds cX0_holds 3 (some .boolean), .methodLink RX0 96 yX0_bit, .static yX0_bit, .code yX0_bit cX0_bit 1 (some .long)] ++ wsX00)
def wsX0_at_r1 : List Cond := [Cond.classLink RX0 117 "java/lang/IndexOutOfBoundsException", Cond.initialized "java/lang/IndexOutOfBoundsException", Cond.fieldLink RX0 75 "PortRules" "portCount" "I", Cond.methodLink RX0 104 yX0_flatFrom, Cond.instanceMethod yX0_flatFrom, Cond.selects RX0 yX0_flatFrom yX0_flatFrom, Cond.initialized RX0, Cond.code yX0_flatFrom cX0_flatFrom 2 (some .long), Cond.fieldLink RX0 146 "PortRules" "atomicProvided" "J", Cond.fieldLink RX0 54 "PortRules" "reachedFrom" "[J", Cond.fieldLink RX0 134 "PortRules" "atomicRequired" "J", Cond.methodLink RX0 92 yX0_holds, Cond.static yX0_holds, Cond.code yX0_holds cX0_holds 3 (some .boolean), Cond.methodLink RX0 96 yX0_bit, Cond.static yX0_bit, Cond.code yX0_bit cX0_bit 1 (some .long), Cond.methodLink RX0 107 yJ13_bitCount_95d88, Cond.static yJ13_bitCount_95d88, Cond.initialized RJ13, Cond.code yJ13_bitCount_95d88 cJ13_bitCount_95d88 2 (some .int), Cond.constantLong RJ13 314 (6148914691236517205), Cond.constantLong RJ13 316 (3689348814741910323), Cond.constantLong RJ13 318 (1085102592571150095)]
def wsX0_at_r2 : List Cond := [Cond.methodLink RX0 113 yX0_nthPort, Cond.instanceMethod yX0_nthPort, Cond.selects RX0 yX0_nthPort yX0_nthPort, Cond.code yX0_nthPort cX0_nthPort 6 (some .int)]
def wsX0_at : List Cond := .code yX0_at cX0_at 8 (some .int) :: ((wsX0_at_r1 ++ wsX0_at_r2) ++ wsX00 ++ (vx_atS RX0 121 "java/lang/IndexOutOfBoundsException" ["java/lang/RuntimeException", "java/lang/Exception"]).filter goodWord)
def wsX0_isPortRule : List Cond := .code yX0_isPortRule cX0_isPortRule 1 (some .boolean) :: ([])
def wsX0_flatCountTo : List Cond := .code yX0_flatCountTo cX0_flatCountTo 4 (some .int) :: ([.fieldLink RX0 75 "PortRules" "portCount" "I", .methodLink RX0 104 yX0_flatFrom, .instanceMethod yX0_flatFrom, .selects RX0 yX0_flatFrom yX0_flatFrom, .initialized RX0, .code yX0_flatFrom cX0_flatFrom 2 (some .long), .fieldLink RX0 146 "PortRules" "atomicProvided" "J", .fieldLink RX0 54 "PortRules" "reachedFrom" "[J", .fieldLink RX0 134 "PortRules" "atomicRequired" "J", .methodLink RX0 92 yX0_holds, .static yX0_holds, .code yX0_holds cX0_holds 3 (some .boolean), .methodLink RX0 96 yX0_bit, .static yX0_bit, .code yX0_bit cX0_bit 1 (some .long)] ++ wsX00)
def wsX0_portBreaks : List Cond := .code yX0_portBreaks cX0_portBreaks 4 (some .boolean) :: ([.fieldLink RX0 23 "PortRules" "kindOf" "[I", .fieldLink RX0 42 "PortRules" "hasFallback" "[Z", .fieldLink RX0 48 "PortRules" "queueOf" "[I", .methodLink RX0 152 yX0_flatCountTo, .instanceMethod yX0_flatCountTo, .selects RX0 yX0_flatCountTo yX0_flatCountTo, .initialized RX0, .code yX0_flatCountTo cX0_flatCountTo 4 (some .int), .fieldLink RX0 75 "PortRules" "portCount" "I", .methodLink RX0 104 yX0_flatFrom, .instanceMethod yX0_flatFrom, .selects RX0 yX0_flatFrom yX0_flatFrom, .code yX0_flatFrom cX0_flatFrom 2 (some .long), .fieldLink RX0 146 "PortRules" "atomicProvided" "J", .fieldLink RX0 54 "PortRules" "reachedFrom" "[J", .fieldLink RX0 134 "PortRules" "atomicRequired" "J", .methodLink RX0 92 yX0_holds, .static yX0_holds, .code yX0_holds cX0_holds 3 (some .boolean), .methodLink RX0 96 yX0_bit, .static yX0_bit, .code yX0_bit cX0_bit 1 (some .long)] ++ wsX00)
def wsX0_firstBadPort_r1 : List Cond := [Cond.fieldLink RX0 75 "PortRules" "portCount" "I", Cond.fieldLink RX0 134 "PortRules" "atomicRequired" "J", Cond.methodLink RX0 92 yX0_holds, Cond.static yX0_holds, Cond.initialized RX0, Cond.code yX0_holds cX0_holds 3 (some .boolean), Cond.methodLink RX0 96 yX0_bit, Cond.static yX0_bit, Cond.code yX0_bit cX0_bit 1 (some .long), Cond.methodLink RX0 149 yX0_portBreaks, Cond.instanceMethod yX0_portBreaks, Cond.selects RX0 yX0_portBreaks yX0_portBreaks, Cond.code yX0_portBreaks cX0_portBreaks 4 (some .boolean), Cond.fieldLink RX0 23 "PortRules" "kindOf" "[I", Cond.fieldLink RX0 42 "PortRules" "hasFallback" "[Z", Cond.fieldLink RX0 48 "PortRules" "queueOf" "[I", Cond.methodLink RX0 152 yX0_flatCountTo, Cond.instanceMethod yX0_flatCountTo, Cond.selects RX0 yX0_flatCountTo yX0_flatCountTo, Cond.code yX0_flatCountTo cX0_flatCountTo 4 (some .int), Cond.methodLink RX0 104 yX0_flatFrom, Cond.instanceMethod yX0_flatFrom, Cond.selects RX0 yX0_flatFrom yX0_flatFrom, Cond.code yX0_flatFrom cX0_flatFrom 2 (some .long)]
def wsX0_firstBadPort_r2 : List Cond := [Cond.fieldLink RX0 146 "PortRules" "atomicProvided" "J", Cond.fieldLink RX0 54 "PortRules" "reachedFrom" "[J"]
def wsX0_firstBadPort : List Cond := .code yX0_firstBadPort cX0_firstBadPort 3 (some .int) :: ((wsX0_firstBadPort_r1 ++ wsX0_firstBadPort_r2) ++ wsX00)
def wsX0_isExactScaling : List Cond := .code yX0_isExactScaling cX0_isExactScaling 5 (some .boolean) :: ([.fieldLink RX0 36 "PortRules" "downOf" "[J", .fieldLink RX0 32 "PortRules" "upOf" "[J"] ++ wsX00)
def wsX0_servesVersion : List Cond := .code yX0_servesVersion cX0_servesVersion 5 (some .boolean) :: ([.fieldLink RX0 39 "PortRules" "versionOf" "[I"] ++ wsX00)
def wsX0_managesMode : List Cond := .code yX0_managesMode cX0_managesMode 3 (some .boolean) :: ([.fieldLink RX0 17 "PortRules" "managerOf" "[I"] ++ wsX00)
def wsX0_connectorBreaks : List Cond := .code yX0_connectorBreaks cX0_connectorBreaks 4 (some .boolean) :: ([.fieldLink RX0 29 "PortRules" "unitOf" "[I", .fieldLink RX0 39 "PortRules" "versionOf" "[I", .fieldLink RX0 23 "PortRules" "kindOf" "[I", .fieldLink RX0 20 "PortRules" "partOf" "[I", .methodLink RX0 159 yX0_isExactScaling, .instanceMethod yX0_isExactScaling, .selects RX0 yX0_isExactScaling yX0_isExactScaling, .initialized RX0, .code yX0_isExactScaling cX0_isExactScaling 5 (some .boolean), .fieldLink RX0 36 "PortRules" "downOf" "[J", .fieldLink RX0 32 "PortRules" "upOf" "[J", .methodLink RX0 162 yX0_servesVersion, .instanceMethod yX0_servesVersion, .selects RX0 yX0_servesVersion yX0_servesVersion, .code yX0_servesVersion cX0_servesVersion 5 (some .boolean), .methodLink RX0 165 yX0_managesMode, .instanceMethod yX0_managesMode, .selects RX0 yX0_managesMode yX0_managesMode, .code yX0_managesMode cX0_managesMode 3 (some .boolean), .fieldLink RX0 17 "PortRules" "managerOf" "[I"] ++ wsX00)
def wsX0_firstBadConnector_r1 : List Cond := [Cond.fieldLink RX0 75 "PortRules" "portCount" "I", Cond.methodLink RX0 104 yX0_flatFrom, Cond.instanceMethod yX0_flatFrom, Cond.selects RX0 yX0_flatFrom yX0_flatFrom, Cond.initialized RX0, Cond.code yX0_flatFrom cX0_flatFrom 2 (some .long), Cond.fieldLink RX0 146 "PortRules" "atomicProvided" "J", Cond.fieldLink RX0 54 "PortRules" "reachedFrom" "[J", Cond.fieldLink RX0 134 "PortRules" "atomicRequired" "J", Cond.methodLink RX0 92 yX0_holds, Cond.static yX0_holds, Cond.code yX0_holds cX0_holds 3 (some .boolean), Cond.methodLink RX0 96 yX0_bit, Cond.static yX0_bit, Cond.code yX0_bit cX0_bit 1 (some .long), Cond.methodLink RX0 155 yX0_connectorBreaks, Cond.instanceMethod yX0_connectorBreaks, Cond.selects RX0 yX0_connectorBreaks yX0_connectorBreaks, Cond.code yX0_connectorBreaks cX0_connectorBreaks 4 (some .boolean), Cond.fieldLink RX0 29 "PortRules" "unitOf" "[I", Cond.fieldLink RX0 39 "PortRules" "versionOf" "[I", Cond.fieldLink RX0 23 "PortRules" "kindOf" "[I", Cond.fieldLink RX0 20 "PortRules" "partOf" "[I", Cond.methodLink RX0 159 yX0_isExactScaling]
def wsX0_firstBadConnector_r2 : List Cond := [Cond.instanceMethod yX0_isExactScaling, Cond.selects RX0 yX0_isExactScaling yX0_isExactScaling, Cond.code yX0_isExactScaling cX0_isExactScaling 5 (some .boolean), Cond.fieldLink RX0 36 "PortRules" "downOf" "[J", Cond.fieldLink RX0 32 "PortRules" "upOf" "[J", Cond.methodLink RX0 162 yX0_servesVersion, Cond.instanceMethod yX0_servesVersion, Cond.selects RX0 yX0_servesVersion yX0_servesVersion, Cond.code yX0_servesVersion cX0_servesVersion 5 (some .boolean), Cond.methodLink RX0 165 yX0_managesMode, Cond.instanceMethod yX0_managesMode, Cond.selects RX0 yX0_managesMode yX0_managesMode, Cond.code yX0_managesMode cX0_managesMode 3 (some .boolean), Cond.fieldLink RX0 17 "PortRules" "managerOf" "[I"]
def wsX0_firstBadConnector : List Cond := .code yX0_firstBadConnector cX0_firstBadConnector 6 (some .int) :: ((wsX0_firstBadConnector_r1 ++ wsX0_firstBadConnector_r2) ++ wsX00)
def wsX0_check_r1 : List Cond := [Cond.methodLink RX0 124 yX0_isPortRule, Cond.static yX0_isPortRule, Cond.initialized RX0, Cond.code yX0_isPortRule cX0_isPortRule 1 (some .boolean), Cond.methodLink RX0 127 yX0_firstBadPort, Cond.instanceMethod yX0_firstBadPort, Cond.selects RX0 yX0_firstBadPort yX0_firstBadPort, Cond.code yX0_firstBadPort cX0_firstBadPort 3 (some .int), Cond.fieldLink RX0 75 "PortRules" "portCount" "I", Cond.fieldLink RX0 134 "PortRules" "atomicRequired" "J", Cond.methodLink RX0 92 yX0_holds, Cond.static yX0_holds, Cond.code yX0_holds cX0_holds 3 (some .boolean), Cond.methodLink RX0 96 yX0_bit, Cond.static yX0_bit, Cond.code yX0_bit cX0_bit 1 (some .long), Cond.methodLink RX0 149 yX0_portBreaks, Cond.instanceMethod yX0_portBreaks, Cond.selects RX0 yX0_portBreaks yX0_portBreaks, Cond.code yX0_portBreaks cX0_portBreaks 4 (some .boolean), Cond.fieldLink RX0 23 "PortRules" "kindOf" "[I", Cond.fieldLink RX0 42 "PortRules" "hasFallback" "[Z", Cond.fieldLink RX0 48 "PortRules" "queueOf" "[I", Cond.methodLink RX0 152 yX0_flatCountTo]
def wsX0_check_r2 : List Cond := [Cond.instanceMethod yX0_flatCountTo, Cond.selects RX0 yX0_flatCountTo yX0_flatCountTo, Cond.code yX0_flatCountTo cX0_flatCountTo 4 (some .int), Cond.methodLink RX0 104 yX0_flatFrom, Cond.instanceMethod yX0_flatFrom, Cond.selects RX0 yX0_flatFrom yX0_flatFrom, Cond.code yX0_flatFrom cX0_flatFrom 2 (some .long), Cond.fieldLink RX0 146 "PortRules" "atomicProvided" "J", Cond.fieldLink RX0 54 "PortRules" "reachedFrom" "[J", Cond.methodLink RX0 131 yX0_firstBadConnector, Cond.instanceMethod yX0_firstBadConnector, Cond.selects RX0 yX0_firstBadConnector yX0_firstBadConnector, Cond.code yX0_firstBadConnector cX0_firstBadConnector 6 (some .int), Cond.methodLink RX0 155 yX0_connectorBreaks, Cond.instanceMethod yX0_connectorBreaks, Cond.selects RX0 yX0_connectorBreaks yX0_connectorBreaks, Cond.code yX0_connectorBreaks cX0_connectorBreaks 4 (some .boolean), Cond.fieldLink RX0 29 "PortRules" "unitOf" "[I", Cond.fieldLink RX0 39 "PortRules" "versionOf" "[I", Cond.fieldLink RX0 20 "PortRules" "partOf" "[I", Cond.methodLink RX0 159 yX0_isExactScaling, Cond.instanceMethod yX0_isExactScaling, Cond.selects RX0 yX0_isExactScaling yX0_isExactScaling, Cond.code yX0_isExactScaling cX0_isExactScaling 5 (some .boolean)]
def wsX0_check_r3 : List Cond := [Cond.fieldLink RX0 36 "PortRules" "downOf" "[J", Cond.fieldLink RX0 32 "PortRules" "upOf" "[J", Cond.methodLink RX0 162 yX0_servesVersion, Cond.instanceMethod yX0_servesVersion, Cond.selects RX0 yX0_servesVersion yX0_servesVersion, Cond.code yX0_servesVersion cX0_servesVersion 5 (some .boolean), Cond.methodLink RX0 165 yX0_managesMode, Cond.instanceMethod yX0_managesMode, Cond.selects RX0 yX0_managesMode yX0_managesMode, Cond.code yX0_managesMode cX0_managesMode 3 (some .boolean), Cond.fieldLink RX0 17 "PortRules" "managerOf" "[I"]
def wsX0_check : List Cond := .code yX0_check cX0_check 3 (some .int) :: ((wsX0_check_r1 ++ (wsX0_check_r2 ++ wsX0_check_r3)) ++ wsX00)
def wsX0_manager : List Cond := .code yX0_manager cX0_manager 3 (some .int) :: ([.fieldLink RX0 17 "PortRules" "managerOf" "[I", .methodLink RX0 63 yX0_isPart, .instanceMethod yX0_isPart, .selects RX0 yX0_isPart yX0_isPart, .initialized RX0, .code yX0_isPart cX0_isPart 2 (some .boolean), .fieldLink RX0 67 "PortRules" "partCount" "I"] ++ wsX00)
def wsX0_fallback : List Cond := .code yX0_fallback cX0_fallback 4 (some .int) :: ([.fieldLink RX0 26 "PortRules" "isProvided" "[Z", .fieldLink RX0 45 "PortRules" "fallbackOf" "[I", .fieldLink RX0 42 "PortRules" "hasFallback" "[Z", .methodLink RX0 81 yX0_isPort, .instanceMethod yX0_isPort, .selects RX0 yX0_isPort yX0_isPort, .initialized RX0, .code yX0_isPort cX0_isPort 2 (some .boolean), .fieldLink RX0 75 "PortRules" "portCount" "I"] ++ wsX00)
def wsX0_queue : List Cond := .code yX0_queue cX0_queue 3 (some .int) :: ([.fieldLink RX0 23 "PortRules" "kindOf" "[I", .fieldLink RX0 48 "PortRules" "queueOf" "[I", .methodLink RX0 81 yX0_isPort, .instanceMethod yX0_isPort, .selects RX0 yX0_isPort yX0_isPort, .initialized RX0, .code yX0_isPort cX0_isPort 2 (some .boolean), .fieldLink RX0 75 "PortRules" "portCount" "I"] ++ wsX00)
def wsX0_version : List Cond := .code yX0_version cX0_version 3 (some .int) :: ([.fieldLink RX0 39 "PortRules" "versionOf" "[I", .methodLink RX0 81 yX0_isPort, .instanceMethod yX0_isPort, .selects RX0 yX0_isPort yX0_isPort, .initialized RX0, .code yX0_isPort cX0_isPort 2 (some .boolean), .fieldLink RX0 75 "PortRules" "portCount" "I"] ++ wsX00)
def wsX0_flatSeconds : List Cond := .code yX0_flatSeconds cX0_flatSeconds 4 (some .long) :: ([.fieldLink RX0 75 "PortRules" "portCount" "I", .methodLink RX0 104 yX0_flatFrom, .instanceMethod yX0_flatFrom, .selects RX0 yX0_flatFrom yX0_flatFrom, .initialized RX0, .code yX0_flatFrom cX0_flatFrom 2 (some .long), .fieldLink RX0 146 "PortRules" "atomicProvided" "J", .fieldLink RX0 54 "PortRules" "reachedFrom" "[J", .fieldLink RX0 134 "PortRules" "atomicRequired" "J", .methodLink RX0 92 yX0_holds, .static yX0_holds, .code yX0_holds cX0_holds 3 (some .boolean), .methodLink RX0 96 yX0_bit, .static yX0_bit, .code yX0_bit cX0_bit 1 (some .long)] ++ wsX00)
def wsX0_open : List Cond := .code yX0_open cX0_open 2 (some .int) :: ([.fieldLink RX0 134 "PortRules" "atomicRequired" "J", .constantLong RX0 142 (-1), .methodLink RX0 138 yX0_flatSeconds, .instanceMethod yX0_flatSeconds, .selects RX0 yX0_flatSeconds yX0_flatSeconds, .initialized RX0, .code yX0_flatSeconds cX0_flatSeconds 4 (some .long), .fieldLink RX0 75 "PortRules" "portCount" "I", .methodLink RX0 104 yX0_flatFrom, .instanceMethod yX0_flatFrom, .selects RX0 yX0_flatFrom yX0_flatFrom, .code yX0_flatFrom cX0_flatFrom 2 (some .long), .fieldLink RX0 146 "PortRules" "atomicProvided" "J", .fieldLink RX0 54 "PortRules" "reachedFrom" "[J", .methodLink RX0 92 yX0_holds, .static yX0_holds, .code yX0_holds cX0_holds 3 (some .boolean), .methodLink RX0 96 yX0_bit, .static yX0_bit, .code yX0_bit cX0_bit 1 (some .long), .methodLink RX0 113 yX0_nthPort, .instanceMethod yX0_nthPort, .selects RX0 yX0_nthPort yX0_nthPort, .code yX0_nthPort cX0_nthPort 6 (some .int)] ++ wsX00)
def wsL_at_r1 : List Cond := [Cond.classLink RL 13 "java/lang/IndexOutOfBoundsException", Cond.methodLink RL 7 yX0_at, Cond.instanceMethod yX0_at, Cond.selects RX0 yX0_at yX0_at, Cond.initialized RX0, Cond.code yX0_at cX0_at 8 (some .int), Cond.classLink RX0 117 "java/lang/IndexOutOfBoundsException", Cond.initialized "java/lang/IndexOutOfBoundsException", Cond.fieldLink RX0 75 "PortRules" "portCount" "I", Cond.methodLink RX0 104 yX0_flatFrom, Cond.instanceMethod yX0_flatFrom, Cond.selects RX0 yX0_flatFrom yX0_flatFrom, Cond.code yX0_flatFrom cX0_flatFrom 2 (some .long), Cond.fieldLink RX0 146 "PortRules" "atomicProvided" "J", Cond.fieldLink RX0 54 "PortRules" "reachedFrom" "[J", Cond.fieldLink RX0 134 "PortRules" "atomicRequired" "J", Cond.methodLink RX0 92 yX0_holds, Cond.static yX0_holds, Cond.code yX0_holds cX0_holds 3 (some .boolean), Cond.methodLink RX0 96 yX0_bit, Cond.static yX0_bit, Cond.code yX0_bit cX0_bit 1 (some .long), Cond.methodLink RX0 107 yJ13_bitCount_95d88, Cond.static yJ13_bitCount_95d88]
def wsL_at_r2 : List Cond := [Cond.initialized RJ13, Cond.code yJ13_bitCount_95d88 cJ13_bitCount_95d88 2 (some .int), Cond.constantLong RJ13 314 (6148914691236517205), Cond.constantLong RJ13 316 (3689348814741910323), Cond.constantLong RJ13 318 (1085102592571150095), Cond.methodLink RX0 113 yX0_nthPort, Cond.instanceMethod yX0_nthPort, Cond.selects RX0 yX0_nthPort yX0_nthPort, Cond.code yX0_nthPort cX0_nthPort 6 (some .int)]
def wsL_at : List Cond := .codeWith yL_at cL_at 5 (some .int) [(0, 10, 13, 13)] :: ((wsL_at_r1 ++ wsL_at_r2) ++ wsX00 ++ (vx_atS RX0 121 "java/lang/IndexOutOfBoundsException" ["java/lang/RuntimeException", "java/lang/Exception"]).filter goodWord)
def wsL_law0_r1 : List Cond := [Cond.classLink RL 8 RX0, Cond.instantiable RX0 19, Cond.initialized RX0, Cond.arrayClass .long, Cond.methodLink RL 15 yX0_init, Cond.instanceMethod yX0_init, Cond.code yX0_init cX0_init 1 none, Cond.methodLink RX0 1 objectInit, Cond.instanceMethod objectInit, Cond.code objectInit ⟨#[0xb1]⟩ 1 none, Cond.arrayClass .int, Cond.fieldLink RX0 9 "PortRules" "compositionOf" "[I", Cond.arrayClass .boolean, Cond.fieldLink RX0 13 "PortRules" "hasInnerParts" "[Z", Cond.fieldLink RX0 17 "PortRules" "managerOf" "[I", Cond.fieldLink RX0 20 "PortRules" "partOf" "[I", Cond.fieldLink RX0 23 "PortRules" "kindOf" "[I", Cond.fieldLink RX0 26 "PortRules" "isProvided" "[Z", Cond.fieldLink RX0 29 "PortRules" "unitOf" "[I", Cond.fieldLink RX0 32 "PortRules" "upOf" "[J", Cond.fieldLink RX0 36 "PortRules" "downOf" "[J", Cond.fieldLink RX0 39 "PortRules" "versionOf" "[I", Cond.fieldLink RX0 42 "PortRules" "hasFallback" "[Z", Cond.fieldLink RX0 45 "PortRules" "fallbackOf" "[I"]
def wsL_law0_r2 : List Cond := [Cond.fieldLink RX0 48 "PortRules" "queueOf" "[I", Cond.fieldLink RX0 51 "PortRules" "connectedTo" "[J", Cond.fieldLink RX0 54 "PortRules" "reachedFrom" "[J", Cond.methodLink RX0 57 yJ7_fill_53178, Cond.static yJ7_fill_53178, Cond.initialized RJ7, Cond.code yJ7_fill_53178 cJ7_fill_53178 4 none, Cond.methodLink RL 19 yX0_part, Cond.instanceMethod yX0_part, Cond.selects RX0 yX0_part yX0_part, Cond.code yX0_part cX0_part 2 (some .int), Cond.fieldLink RX0 67 "PortRules" "partCount" "I", Cond.methodLink RX0 63 yX0_isPart, Cond.instanceMethod yX0_isPart, Cond.selects RX0 yX0_isPart yX0_isPart, Cond.code yX0_isPart cX0_isPart 2 (some .boolean), Cond.methodLink RX0 71 yX0_endAtomic, Cond.instanceMethod yX0_endAtomic, Cond.selects RX0 yX0_endAtomic yX0_endAtomic, Cond.code yX0_endAtomic cX0_endAtomic 3 none, Cond.fieldLink RX0 75 "PortRules" "portCount" "I", Cond.fieldLink RX0 146 "PortRules" "atomicProvided" "J", Cond.constantLong RX0 142 (-1), Cond.fieldLink RX0 134 "PortRules" "atomicRequired" "J"]
def wsL_law0_r3 : List Cond := [Cond.methodLink RX0 96 yX0_bit, Cond.static yX0_bit, Cond.code yX0_bit cX0_bit 1 (some .long), Cond.methodLink RL 24 yX0_port, Cond.instanceMethod yX0_port, Cond.selects RX0 yX0_port yX0_port, Cond.code yX0_port cX0_port 4 (some .int), Cond.methodLink RX0 78 yX0_addAtomicPort, Cond.instanceMethod yX0_addAtomicPort, Cond.selects RX0 yX0_addAtomicPort yX0_addAtomicPort, Cond.code yX0_addAtomicPort cX0_addAtomicPort 2 none, Cond.methodLink RL 31 yX0_unit, Cond.instanceMethod yX0_unit, Cond.selects RX0 yX0_unit yX0_unit, Cond.code yX0_unit cX0_unit 7 (some .int), Cond.methodLink RX0 81 yX0_isPort, Cond.instanceMethod yX0_isPort, Cond.selects RX0 yX0_isPort yX0_isPort, Cond.code yX0_isPort cX0_isPort 2 (some .boolean), Cond.methodLink RX0 84 yX0_isScaling, Cond.static yX0_isScaling, Cond.code yX0_isScaling cX0_isScaling 2 (some .boolean), Cond.constantLong RX0 144 (1000), Cond.methodLink RL 36 yX0_connect]
def wsL_law0_r4 : List Cond := [Cond.instanceMethod yX0_connect, Cond.selects RX0 yX0_connect yX0_connect, Cond.code yX0_connect cX0_connect 3 (some .int), Cond.methodLink RX0 88 yX0_isWay, Cond.instanceMethod yX0_isWay, Cond.selects RX0 yX0_isWay yX0_isWay, Cond.code yX0_isWay cX0_isWay 5 (some .boolean), Cond.methodLink RX0 92 yX0_holds, Cond.static yX0_holds, Cond.code yX0_holds cX0_holds 3 (some .boolean), Cond.methodLink RX0 100 yX0_spreadReach, Cond.instanceMethod yX0_spreadReach, Cond.selects RX0 yX0_spreadReach yX0_spreadReach, Cond.code yX0_spreadReach cX0_spreadReach 6 none, Cond.methodLink RL 40 yX0_flatten, Cond.instanceMethod yX0_flatten, Cond.selects RX0 yX0_flatten yX0_flatten, Cond.code yX0_flatten cX0_flatten 3 (some .int), Cond.methodLink RX0 104 yX0_flatFrom, Cond.instanceMethod yX0_flatFrom, Cond.selects RX0 yX0_flatFrom yX0_flatFrom, Cond.code yX0_flatFrom cX0_flatFrom 2 (some .long), Cond.methodLink RX0 107 yJ13_bitCount_95d88, Cond.static yJ13_bitCount_95d88]
def wsL_law0_r5 : List Cond := [Cond.initialized RJ13, Cond.code yJ13_bitCount_95d88 cJ13_bitCount_95d88 2 (some .int), Cond.constantLong RJ13 314 (6148914691236517205), Cond.constantLong RJ13 316 (3689348814741910323), Cond.constantLong RJ13 318 (1085102592571150095), Cond.methodLink RL 45 yL_at, Cond.static yL_at, Cond.initialized RL, Cond.codeWith yL_at cL_at 5 (some .int) [(0, 10, 13, 13)], Cond.classLink RL 13 "java/lang/IndexOutOfBoundsException", Cond.methodLink RL 7 yX0_at, Cond.instanceMethod yX0_at, Cond.selects RX0 yX0_at yX0_at, Cond.code yX0_at cX0_at 8 (some .int), Cond.classLink RX0 117 "java/lang/IndexOutOfBoundsException", Cond.initialized "java/lang/IndexOutOfBoundsException", Cond.methodLink RX0 113 yX0_nthPort, Cond.instanceMethod yX0_nthPort, Cond.selects RX0 yX0_nthPort yX0_nthPort, Cond.code yX0_nthPort cX0_nthPort 6 (some .int), Cond.methodLink RL 54 yX0_check, Cond.instanceMethod yX0_check, Cond.selects RX0 yX0_check yX0_check, Cond.code yX0_check cX0_check 3 (some .int)]
def wsL_law0_r6 : List Cond := [Cond.methodLink RX0 124 yX0_isPortRule, Cond.static yX0_isPortRule, Cond.code yX0_isPortRule cX0_isPortRule 1 (some .boolean), Cond.methodLink RX0 127 yX0_firstBadPort, Cond.instanceMethod yX0_firstBadPort, Cond.selects RX0 yX0_firstBadPort yX0_firstBadPort, Cond.code yX0_firstBadPort cX0_firstBadPort 3 (some .int), Cond.methodLink RX0 149 yX0_portBreaks, Cond.instanceMethod yX0_portBreaks, Cond.selects RX0 yX0_portBreaks yX0_portBreaks, Cond.code yX0_portBreaks cX0_portBreaks 4 (some .boolean), Cond.methodLink RX0 152 yX0_flatCountTo, Cond.instanceMethod yX0_flatCountTo, Cond.selects RX0 yX0_flatCountTo yX0_flatCountTo, Cond.code yX0_flatCountTo cX0_flatCountTo 4 (some .int), Cond.methodLink RX0 131 yX0_firstBadConnector, Cond.instanceMethod yX0_firstBadConnector, Cond.selects RX0 yX0_firstBadConnector yX0_firstBadConnector, Cond.code yX0_firstBadConnector cX0_firstBadConnector 6 (some .int), Cond.methodLink RX0 155 yX0_connectorBreaks, Cond.instanceMethod yX0_connectorBreaks, Cond.selects RX0 yX0_connectorBreaks yX0_connectorBreaks, Cond.code yX0_connectorBreaks cX0_connectorBreaks 4 (some .boolean), Cond.methodLink RX0 159 yX0_isExactScaling]
def wsL_law0_r7 : List Cond := [Cond.instanceMethod yX0_isExactScaling, Cond.selects RX0 yX0_isExactScaling yX0_isExactScaling, Cond.code yX0_isExactScaling cX0_isExactScaling 5 (some .boolean), Cond.methodLink RX0 162 yX0_servesVersion, Cond.instanceMethod yX0_servesVersion, Cond.selects RX0 yX0_servesVersion yX0_servesVersion, Cond.code yX0_servesVersion cX0_servesVersion 5 (some .boolean), Cond.methodLink RX0 165 yX0_managesMode, Cond.instanceMethod yX0_managesMode, Cond.selects RX0 yX0_managesMode yX0_managesMode, Cond.code yX0_managesMode cX0_managesMode 3 (some .boolean), Cond.methodLink RL 58 yX0_manager, Cond.instanceMethod yX0_manager, Cond.selects RX0 yX0_manager yX0_manager, Cond.code yX0_manager cX0_manager 3 (some .int), Cond.methodLink RL 62 yX0_fallback, Cond.instanceMethod yX0_fallback, Cond.selects RX0 yX0_fallback yX0_fallback, Cond.code yX0_fallback cX0_fallback 4 (some .int), Cond.methodLink RL 66 yX0_queue, Cond.instanceMethod yX0_queue, Cond.selects RX0 yX0_queue yX0_queue, Cond.code yX0_queue cX0_queue 3 (some .int), Cond.methodLink RL 70 yX0_version]
def wsL_law0_r8 : List Cond := [Cond.instanceMethod yX0_version, Cond.selects RX0 yX0_version yX0_version, Cond.code yX0_version cX0_version 3 (some .int), Cond.methodLink RL 74 yX0_open, Cond.instanceMethod yX0_open, Cond.selects RX0 yX0_open yX0_open, Cond.code yX0_open cX0_open 2 (some .int), Cond.methodLink RX0 138 yX0_flatSeconds, Cond.instanceMethod yX0_flatSeconds, Cond.selects RX0 yX0_flatSeconds yX0_flatSeconds, Cond.code yX0_flatSeconds cX0_flatSeconds 4 (some .long)]
def wsL_law0 : List Cond := (wsL_law0_r1 ++ (wsL_law0_r2 ++ (wsL_law0_r3 ++ (wsL_law0_r4 ++ (wsL_law0_r5 ++ (wsL_law0_r6 ++ (wsL_law0_r7 ++ wsL_law0_r8))))))) ++ wsX00 ++ ([] : List Cond)
def wsL_law : List Cond := wsL_law0 ++ (vx_atS RX0 121 "java/lang/IndexOutOfBoundsException" ["java/lang/RuntimeException", "java/lang/Exception"]).filter goodWord
set_option maxRecDepth 20000 in
theorem wsL_law_in0 : ∀ w ∈ wsL_law0, w ∈ lw_tbl := by decide +kernel
theorem wsL_law_x0 : ∀ w ∈ (vx_atS RX0 121 "java/lang/IndexOutOfBoundsException" ["java/lang/RuntimeException", "java/lang/Exception"]).filter goodWord, w ∈ lw_tbl := by decide +kernel
theorem wsL_law_in : ∀ w ∈ wsL_law, w ∈ lw_tbl := fun w h => (List.mem_append.mp h).elim (fun h => wsL_law_in0 w h) (fun h => wsL_law_x0 w h)
theorem inlX0 : ∀ w ∈ wsX00, w ∈ wsL_law := fun _ h => List.mem_append_left _ (List.mem_append_left _ (List.mem_append_right _ h))
theorem inX0 : ∀ w ∈ wsX00, w ∈ lw_tbl := fun w h => wsL_law_in w (inlX0 w h)
theorem inX1 : ∀ w ∈ wsX10, w ∈ lw_tbl := by decide +kernel
theorem inJ13 : ∀ w ∈ wsJ130, w ∈ lw_tbl := by decide +kernel
theorem inJ0 : ∀ w ∈ wsJ00, w ∈ lw_tbl := by decide +kernel
theorem inJ7 : ∀ w ∈ wsJ70, w ∈ lw_tbl := by decide +kernel
set_option maxRecDepth 20000 in
theorem ggX0_init_J7_fill_53178 : GoodIn wsX0_init wsJ7_fill_53178 := goodIn_r _ [25] (by decide +kernel) (by decide +kernel)
set_option maxRecDepth 20000 in
theorem gX0_init_J7_fill_53178 : GoodIn wsX0_init (va_wsS RX0 57 yJ7_fill_53178 wsJ7_fill_53178) := goodIn_app (goodIn_of _ (by decide +kernel)) ggX0_init_J7_fill_53178
theorem dX0_init_0 : decode cX0_init 0 = .ok (.aload_n 0, 1) := by decide +kernel
theorem dX0_init_1 : decode cX0_init 1 = .ok (.invokespecial 1, 3) := by decide +kernel
theorem dX0_init_4 : decode cX0_init 4 = .ok (.aload_n 0, 1) := by decide +kernel
theorem dX0_init_5 : decode cX0_init 5 = .ok (.bipush 31, 2) := by decide +kernel
theorem dX0_init_7 : decode cX0_init 7 = .ok (.newarray .int, 2) := by decide +kernel
theorem dX0_init_9 : decode cX0_init 9 = .ok (.putfield 9, 3) := by decide +kernel
theorem dX0_init_12 : decode cX0_init 12 = .ok (.aload_n 0, 1) := by decide +kernel
theorem dX0_init_13 : decode cX0_init 13 = .ok (.bipush 31, 2) := by decide +kernel
theorem dX0_init_15 : decode cX0_init 15 = .ok (.newarray .boolean, 2) := by decide +kernel
theorem dX0_init_17 : decode cX0_init 17 = .ok (.putfield 13, 3) := by decide +kernel
theorem dX0_init_20 : decode cX0_init 20 = .ok (.aload_n 0, 1) := by decide +kernel
theorem dX0_init_21 : decode cX0_init 21 = .ok (.bipush 10, 2) := by decide +kernel
theorem dX0_init_23 : decode cX0_init 23 = .ok (.newarray .int, 2) := by decide +kernel
theorem dX0_init_25 : decode cX0_init 25 = .ok (.putfield 17, 3) := by decide +kernel
theorem dX0_init_28 : decode cX0_init 28 = .ok (.aload_n 0, 1) := by decide +kernel
theorem dX0_init_29 : decode cX0_init 29 = .ok (.bipush 61, 2) := by decide +kernel
theorem dX0_init_31 : decode cX0_init 31 = .ok (.newarray .int, 2) := by decide +kernel
theorem dX0_init_33 : decode cX0_init 33 = .ok (.putfield 20, 3) := by decide +kernel
theorem dX0_init_36 : decode cX0_init 36 = .ok (.aload_n 0, 1) := by decide +kernel
theorem dX0_init_37 : decode cX0_init 37 = .ok (.bipush 61, 2) := by decide +kernel
theorem dX0_init_39 : decode cX0_init 39 = .ok (.newarray .int, 2) := by decide +kernel
theorem dX0_init_41 : decode cX0_init 41 = .ok (.putfield 23, 3) := by decide +kernel
theorem dX0_init_44 : decode cX0_init 44 = .ok (.aload_n 0, 1) := by decide +kernel
theorem dX0_init_45 : decode cX0_init 45 = .ok (.bipush 61, 2) := by decide +kernel
theorem dX0_init_47 : decode cX0_init 47 = .ok (.newarray .boolean, 2) := by decide +kernel
theorem dX0_init_49 : decode cX0_init 49 = .ok (.putfield 26, 3) := by decide +kernel
theorem dX0_init_52 : decode cX0_init 52 = .ok (.aload_n 0, 1) := by decide +kernel
theorem dX0_init_53 : decode cX0_init 53 = .ok (.bipush 61, 2) := by decide +kernel
theorem dX0_init_55 : decode cX0_init 55 = .ok (.newarray .int, 2) := by decide +kernel
theorem dX0_init_57 : decode cX0_init 57 = .ok (.putfield 29, 3) := by decide +kernel
theorem dX0_init_60 : decode cX0_init 60 = .ok (.aload_n 0, 1) := by decide +kernel
theorem dX0_init_61 : decode cX0_init 61 = .ok (.bipush 61, 2) := by decide +kernel
theorem dX0_init_63 : decode cX0_init 63 = .ok (.newarray .long, 2) := by decide +kernel
theorem dX0_init_65 : decode cX0_init 65 = .ok (.putfield 32, 3) := by decide +kernel
theorem dX0_init_68 : decode cX0_init 68 = .ok (.aload_n 0, 1) := by decide +kernel
theorem dX0_init_69 : decode cX0_init 69 = .ok (.bipush 61, 2) := by decide +kernel
theorem dX0_init_71 : decode cX0_init 71 = .ok (.newarray .long, 2) := by decide +kernel
theorem dX0_init_73 : decode cX0_init 73 = .ok (.putfield 36, 3) := by decide +kernel
theorem dX0_init_76 : decode cX0_init 76 = .ok (.aload_n 0, 1) := by decide +kernel
theorem dX0_init_77 : decode cX0_init 77 = .ok (.bipush 61, 2) := by decide +kernel
theorem dX0_init_79 : decode cX0_init 79 = .ok (.newarray .int, 2) := by decide +kernel
theorem dX0_init_81 : decode cX0_init 81 = .ok (.putfield 39, 3) := by decide +kernel
theorem dX0_init_84 : decode cX0_init 84 = .ok (.aload_n 0, 1) := by decide +kernel
theorem dX0_init_85 : decode cX0_init 85 = .ok (.bipush 61, 2) := by decide +kernel
theorem dX0_init_87 : decode cX0_init 87 = .ok (.newarray .boolean, 2) := by decide +kernel
theorem dX0_init_89 : decode cX0_init 89 = .ok (.putfield 42, 3) := by decide +kernel
theorem dX0_init_92 : decode cX0_init 92 = .ok (.aload_n 0, 1) := by decide +kernel
theorem dX0_init_93 : decode cX0_init 93 = .ok (.bipush 61, 2) := by decide +kernel
theorem dX0_init_95 : decode cX0_init 95 = .ok (.newarray .int, 2) := by decide +kernel
theorem dX0_init_97 : decode cX0_init 97 = .ok (.putfield 45, 3) := by decide +kernel
theorem dX0_init_100 : decode cX0_init 100 = .ok (.aload_n 0, 1) := by decide +kernel
theorem dX0_init_101 : decode cX0_init 101 = .ok (.bipush 61, 2) := by decide +kernel
theorem dX0_init_103 : decode cX0_init 103 = .ok (.newarray .int, 2) := by decide +kernel
theorem dX0_init_105 : decode cX0_init 105 = .ok (.putfield 48, 3) := by decide +kernel
theorem dX0_init_108 : decode cX0_init 108 = .ok (.aload_n 0, 1) := by decide +kernel
theorem dX0_init_109 : decode cX0_init 109 = .ok (.bipush 61, 2) := by decide +kernel
theorem dX0_init_111 : decode cX0_init 111 = .ok (.newarray .long, 2) := by decide +kernel
theorem dX0_init_113 : decode cX0_init 113 = .ok (.putfield 51, 3) := by decide +kernel
theorem dX0_init_116 : decode cX0_init 116 = .ok (.aload_n 0, 1) := by decide +kernel
theorem dX0_init_117 : decode cX0_init 117 = .ok (.bipush 61, 2) := by decide +kernel
theorem dX0_init_119 : decode cX0_init 119 = .ok (.newarray .long, 2) := by decide +kernel
theorem dX0_init_121 : decode cX0_init 121 = .ok (.putfield 54, 3) := by decide +kernel
theorem dX0_init_124 : decode cX0_init 124 = .ok (.aload_n 0, 1) := by decide +kernel
theorem dX0_init_125 : decode cX0_init 125 = .ok (.getfield 29, 3) := by decide +kernel
theorem dX0_init_128 : decode cX0_init 128 = .ok (.iconst (-1), 1) := by decide +kernel
theorem dX0_init_129 : decode cX0_init 129 = .ok (.invokestatic 57, 3) := by decide +kernel
theorem dX0_init_132 : decode cX0_init 132 = .ok (.aload_n 0, 1) := by decide +kernel
theorem dX0_init_133 : decode cX0_init 133 = .ok (.getfield 39, 3) := by decide +kernel
theorem dX0_init_136 : decode cX0_init 136 = .ok (.iconst (-1), 1) := by decide +kernel
theorem dX0_init_137 : decode cX0_init 137 = .ok (.invokestatic 57, 3) := by decide +kernel
theorem dX0_init_140 : decode cX0_init 140 = .ok (.return_, 1) := by decide +kernel
set_option maxRecDepth 20000 in
theorem ggX0_part_X0_isPart : GoodIn wsX0_part wsX0_isPart := goodIn_r _ [7, 1, 21, 22, 23, 24, 25, 26, 27, 28, 29, 30, 31, 32, 33, 34, 35, 36, 37, 38, 39] (by decide +kernel) (by decide +kernel)
set_option maxRecDepth 20000 in
theorem gX0_part_X0_isPart : GoodIn wsX0_part (wsV RX0 63 RX0 yX0_isPart wsX0_isPart) := goodIn_app (goodIn_of _ (by decide +kernel)) ggX0_part_X0_isPart
set_option maxRecDepth 20000 in
theorem ggX0_part_X0_endAtomic : GoodIn wsX0_part wsX0_endAtomic := goodIn_r _ [11, 12, 13, 14, 15, 16, 17, 18, 19, 6, 20, 21, 22, 23, 24, 25, 26, 27, 28, 29, 30, 31, 32, 33, 34, 35, 36, 37, 38, 39] (by decide +kernel) (by decide +kernel)
set_option maxRecDepth 20000 in
theorem gX0_part_X0_endAtomic : GoodIn wsX0_part (wsV RX0 71 RX0 yX0_endAtomic wsX0_endAtomic) := goodIn_app (goodIn_of _ (by decide +kernel)) ggX0_part_X0_endAtomic
theorem dX0_part_0 : decode cX0_part 0 = .ok (.iload_n 1, 1) := by decide +kernel
theorem dX0_part_1 : decode cX0_part 1 = .ok (.ifCond .eq 13, 3) := by decide +kernel
theorem dX0_part_4 : decode cX0_part 4 = .ok (.aload_n 0, 1) := by decide +kernel
theorem dX0_part_5 : decode cX0_part 5 = .ok (.iload_n 1, 1) := by decide +kernel
theorem dX0_part_6 : decode cX0_part 6 = .ok (.invokevirtual 63, 3) := by decide +kernel
theorem dX0_part_9 : decode cX0_part 9 = .ok (.ifCond .ne 5, 3) := by decide +kernel
theorem dX0_part_12 : decode cX0_part 12 = .ok (.iconst (-1), 1) := by decide +kernel
theorem dX0_part_13 : decode cX0_part 13 = .ok (.ireturn, 1) := by decide +kernel
theorem dX0_part_14 : decode cX0_part 14 = .ok (.aload_n 0, 1) := by decide +kernel
theorem dX0_part_15 : decode cX0_part 15 = .ok (.getfield 67, 3) := by decide +kernel
theorem dX0_part_18 : decode cX0_part 18 = .ok (.bipush 30, 2) := by decide +kernel
theorem dX0_part_20 : decode cX0_part 20 = .ok (.if_icmp .lt 6, 3) := by decide +kernel
theorem dX0_part_23 : decode cX0_part 23 = .ok (.bipush (-4), 2) := by decide +kernel
theorem dX0_part_25 : decode cX0_part 25 = .ok (.ireturn, 1) := by decide +kernel
theorem dX0_part_26 : decode cX0_part 26 = .ok (.aload_n 0, 1) := by decide +kernel
theorem dX0_part_27 : decode cX0_part 27 = .ok (.dup, 1) := by decide +kernel
theorem dX0_part_28 : decode cX0_part 28 = .ok (.getfield 67, 3) := by decide +kernel
theorem dX0_part_31 : decode cX0_part 31 = .ok (.iconst 1, 1) := by decide +kernel
theorem dX0_part_32 : decode cX0_part 32 = .ok (.iadd, 1) := by decide +kernel
theorem dX0_part_33 : decode cX0_part 33 = .ok (.putfield 67, 3) := by decide +kernel
theorem dX0_part_36 : decode cX0_part 36 = .ok (.aload_n 0, 1) := by decide +kernel
theorem dX0_part_37 : decode cX0_part 37 = .ok (.getfield 9, 3) := by decide +kernel
theorem dX0_part_40 : decode cX0_part 40 = .ok (.aload_n 0, 1) := by decide +kernel
theorem dX0_part_41 : decode cX0_part 41 = .ok (.getfield 67, 3) := by decide +kernel
theorem dX0_part_44 : decode cX0_part 44 = .ok (.iload_n 1, 1) := by decide +kernel
theorem dX0_part_45 : decode cX0_part 45 = .ok (.iastore, 1) := by decide +kernel
theorem dX0_part_46 : decode cX0_part 46 = .ok (.iload_n 1, 1) := by decide +kernel
theorem dX0_part_47 : decode cX0_part 47 = .ok (.ifCond .eq 8, 3) := by decide +kernel
theorem dX0_part_50 : decode cX0_part 50 = .ok (.aload_n 0, 1) := by decide +kernel
theorem dX0_part_51 : decode cX0_part 51 = .ok (.iload_n 1, 1) := by decide +kernel
theorem dX0_part_52 : decode cX0_part 52 = .ok (.invokevirtual 71, 3) := by decide +kernel
theorem dX0_part_55 : decode cX0_part 55 = .ok (.aload_n 0, 1) := by decide +kernel
theorem dX0_part_56 : decode cX0_part 56 = .ok (.getfield 67, 3) := by decide +kernel
theorem dX0_part_59 : decode cX0_part 59 = .ok (.ireturn, 1) := by decide +kernel
set_option maxRecDepth 20000 in
theorem ggX0_port_X0_isPart : GoodIn wsX0_port wsX0_isPart := goodIn_r _ [10, 11, 21, 22, 23, 24, 25, 26, 27, 28, 29, 30, 31, 32, 33, 34, 35, 36, 37, 38, 39] (by decide +kernel) (by decide +kernel)
set_option maxRecDepth 20000 in
theorem gX0_port_X0_isPart : GoodIn wsX0_port (wsV RX0 63 RX0 yX0_isPart wsX0_isPart) := goodIn_app (goodIn_of _ (by decide +kernel)) ggX0_port_X0_isPart
set_option maxRecDepth 20000 in
theorem ggX0_port_X0_addAtomicPort : GoodIn wsX0_port wsX0_addAtomicPort := goodIn_r _ [15, 4, 16, 17, 18, 19, 9, 20, 21, 22, 23, 24, 25, 26, 27, 28, 29, 30, 31, 32, 33, 34, 35, 36, 37, 38, 39] (by decide +kernel) (by decide +kernel)
set_option maxRecDepth 20000 in
theorem gX0_port_X0_addAtomicPort : GoodIn wsX0_port (wsV RX0 78 RX0 yX0_addAtomicPort wsX0_addAtomicPort) := goodIn_app (goodIn_of _ (by decide +kernel)) ggX0_port_X0_addAtomicPort
theorem dX0_port_0 : decode cX0_port 0 = .ok (.aload_n 0, 1) := by decide +kernel
theorem dX0_port_1 : decode cX0_port 1 = .ok (.iload_n 1, 1) := by decide +kernel
theorem dX0_port_2 : decode cX0_port 2 = .ok (.invokevirtual 63, 3) := by decide +kernel
theorem dX0_port_5 : decode cX0_port 5 = .ok (.ifCond .ne 5, 3) := by decide +kernel
theorem dX0_port_8 : decode cX0_port 8 = .ok (.iconst (-1), 1) := by decide +kernel
theorem dX0_port_9 : decode cX0_port 9 = .ok (.ireturn, 1) := by decide +kernel
theorem dX0_port_10 : decode cX0_port 10 = .ok (.iload_n 2, 1) := by decide +kernel
theorem dX0_port_11 : decode cX0_port 11 = .ok (.ifCond .lt 8, 3) := by decide +kernel
theorem dX0_port_14 : decode cX0_port 14 = .ok (.iload_n 2, 1) := by decide +kernel
theorem dX0_port_15 : decode cX0_port 15 = .ok (.iconst 3, 1) := by decide +kernel
theorem dX0_port_16 : decode cX0_port 16 = .ok (.if_icmp .le 6, 3) := by decide +kernel
theorem dX0_port_19 : decode cX0_port 19 = .ok (.bipush (-2), 2) := by decide +kernel
theorem dX0_port_21 : decode cX0_port 21 = .ok (.ireturn, 1) := by decide +kernel
theorem dX0_port_22 : decode cX0_port 22 = .ok (.aload_n 0, 1) := by decide +kernel
theorem dX0_port_23 : decode cX0_port 23 = .ok (.getfield 75, 3) := by decide +kernel
theorem dX0_port_26 : decode cX0_port 26 = .ok (.bipush 60, 2) := by decide +kernel
theorem dX0_port_28 : decode cX0_port 28 = .ok (.if_icmp .lt 6, 3) := by decide +kernel
theorem dX0_port_31 : decode cX0_port 31 = .ok (.bipush (-4), 2) := by decide +kernel
theorem dX0_port_33 : decode cX0_port 33 = .ok (.ireturn, 1) := by decide +kernel
theorem dX0_port_34 : decode cX0_port 34 = .ok (.aload_n 0, 1) := by decide +kernel
theorem dX0_port_35 : decode cX0_port 35 = .ok (.dup, 1) := by decide +kernel
theorem dX0_port_36 : decode cX0_port 36 = .ok (.getfield 75, 3) := by decide +kernel
theorem dX0_port_39 : decode cX0_port 39 = .ok (.iconst 1, 1) := by decide +kernel
theorem dX0_port_40 : decode cX0_port 40 = .ok (.iadd, 1) := by decide +kernel
theorem dX0_port_41 : decode cX0_port 41 = .ok (.putfield 75, 3) := by decide +kernel
theorem dX0_port_44 : decode cX0_port 44 = .ok (.aload_n 0, 1) := by decide +kernel
theorem dX0_port_45 : decode cX0_port 45 = .ok (.getfield 20, 3) := by decide +kernel
theorem dX0_port_48 : decode cX0_port 48 = .ok (.aload_n 0, 1) := by decide +kernel
theorem dX0_port_49 : decode cX0_port 49 = .ok (.getfield 75, 3) := by decide +kernel
theorem dX0_port_52 : decode cX0_port 52 = .ok (.iload_n 1, 1) := by decide +kernel
theorem dX0_port_53 : decode cX0_port 53 = .ok (.iastore, 1) := by decide +kernel
theorem dX0_port_54 : decode cX0_port 54 = .ok (.aload_n 0, 1) := by decide +kernel
theorem dX0_port_55 : decode cX0_port 55 = .ok (.getfield 23, 3) := by decide +kernel
theorem dX0_port_58 : decode cX0_port 58 = .ok (.aload_n 0, 1) := by decide +kernel
theorem dX0_port_59 : decode cX0_port 59 = .ok (.getfield 75, 3) := by decide +kernel
theorem dX0_port_62 : decode cX0_port 62 = .ok (.iload_n 2, 1) := by decide +kernel
theorem dX0_port_63 : decode cX0_port 63 = .ok (.iastore, 1) := by decide +kernel
theorem dX0_port_64 : decode cX0_port 64 = .ok (.aload_n 0, 1) := by decide +kernel
theorem dX0_port_65 : decode cX0_port 65 = .ok (.getfield 26, 3) := by decide +kernel
theorem dX0_port_68 : decode cX0_port 68 = .ok (.aload_n 0, 1) := by decide +kernel
theorem dX0_port_69 : decode cX0_port 69 = .ok (.getfield 75, 3) := by decide +kernel
theorem dX0_port_72 : decode cX0_port 72 = .ok (.iload_n 3, 1) := by decide +kernel
theorem dX0_port_73 : decode cX0_port 73 = .ok (.bastore, 1) := by decide +kernel
theorem dX0_port_74 : decode cX0_port 74 = .ok (.aload_n 0, 1) := by decide +kernel
theorem dX0_port_75 : decode cX0_port 75 = .ok (.getfield 13, 3) := by decide +kernel
theorem dX0_port_78 : decode cX0_port 78 = .ok (.iload_n 1, 1) := by decide +kernel
theorem dX0_port_79 : decode cX0_port 79 = .ok (.baload, 1) := by decide +kernel
theorem dX0_port_80 : decode cX0_port 80 = .ok (.ifCond .ne 11, 3) := by decide +kernel
theorem dX0_port_83 : decode cX0_port 83 = .ok (.aload_n 0, 1) := by decide +kernel
theorem dX0_port_84 : decode cX0_port 84 = .ok (.aload_n 0, 1) := by decide +kernel
theorem dX0_port_85 : decode cX0_port 85 = .ok (.getfield 75, 3) := by decide +kernel
theorem dX0_port_88 : decode cX0_port 88 = .ok (.invokevirtual 78, 3) := by decide +kernel
theorem dX0_port_91 : decode cX0_port 91 = .ok (.aload_n 0, 1) := by decide +kernel
theorem dX0_port_92 : decode cX0_port 92 = .ok (.getfield 75, 3) := by decide +kernel
theorem dX0_port_95 : decode cX0_port 95 = .ok (.ireturn, 1) := by decide +kernel
set_option maxRecDepth 20000 in
theorem ggX0_unit_X0_isPort : GoodIn wsX0_unit wsX0_isPort := goodIn_r _ [8, 9, 14, 15, 16, 17, 18, 19, 20, 21, 22, 23, 24, 25, 26, 27, 28, 29, 30, 31, 32] (by decide +kernel) (by decide +kernel)
set_option maxRecDepth 20000 in
theorem gX0_unit_X0_isPort : GoodIn wsX0_unit (wsV RX0 81 RX0 yX0_isPort wsX0_isPort) := goodIn_app (goodIn_of _ (by decide +kernel)) ggX0_unit_X0_isPort
set_option maxRecDepth 20000 in
theorem ggX0_unit_X0_isScaling : GoodIn wsX0_unit wsX0_isScaling := goodIn_r _ [12, 13] (by decide +kernel) (by decide +kernel)
set_option maxRecDepth 20000 in
theorem gX0_unit_X0_isScaling : GoodIn wsX0_unit (va_wsS RX0 84 yX0_isScaling wsX0_isScaling) := goodIn_app (goodIn_of _ (by decide +kernel)) ggX0_unit_X0_isScaling
theorem dX0_unit_0 : decode cX0_unit 0 = .ok (.aload_n 0, 1) := by decide +kernel
theorem dX0_unit_1 : decode cX0_unit 1 = .ok (.iload_n 1, 1) := by decide +kernel
theorem dX0_unit_2 : decode cX0_unit 2 = .ok (.invokevirtual 81, 3) := by decide +kernel
theorem dX0_unit_5 : decode cX0_unit 5 = .ok (.ifCond .ne 5, 3) := by decide +kernel
theorem dX0_unit_8 : decode cX0_unit 8 = .ok (.iconst (-1), 1) := by decide +kernel
theorem dX0_unit_9 : decode cX0_unit 9 = .ok (.ireturn, 1) := by decide +kernel
theorem dX0_unit_10 : decode cX0_unit 10 = .ok (.iload_n 2, 1) := by decide +kernel
theorem dX0_unit_11 : decode cX0_unit 11 = .ok (.ifCond .lt 24, 3) := by decide +kernel
theorem dX0_unit_14 : decode cX0_unit 14 = .ok (.iload_n 2, 1) := by decide +kernel
theorem dX0_unit_15 : decode cX0_unit 15 = .ok (.bipush 20, 2) := by decide +kernel
theorem dX0_unit_17 : decode cX0_unit 17 = .ok (.if_icmp .gt 18, 3) := by decide +kernel
theorem dX0_unit_20 : decode cX0_unit 20 = .ok (.lload_n 3, 1) := by decide +kernel
theorem dX0_unit_21 : decode cX0_unit 21 = .ok (.invokestatic 84, 3) := by decide +kernel
theorem dX0_unit_24 : decode cX0_unit 24 = .ok (.ifCond .eq 11, 3) := by decide +kernel
theorem dX0_unit_27 : decode cX0_unit 27 = .ok (.lload 5, 2) := by decide +kernel
theorem dX0_unit_29 : decode cX0_unit 29 = .ok (.invokestatic 84, 3) := by decide +kernel
theorem dX0_unit_32 : decode cX0_unit 32 = .ok (.ifCond .ne 6, 3) := by decide +kernel
theorem dX0_unit_35 : decode cX0_unit 35 = .ok (.bipush (-2), 2) := by decide +kernel
theorem dX0_unit_37 : decode cX0_unit 37 = .ok (.ireturn, 1) := by decide +kernel
theorem dX0_unit_38 : decode cX0_unit 38 = .ok (.aload_n 0, 1) := by decide +kernel
theorem dX0_unit_39 : decode cX0_unit 39 = .ok (.getfield 29, 3) := by decide +kernel
theorem dX0_unit_42 : decode cX0_unit 42 = .ok (.iload_n 1, 1) := by decide +kernel
theorem dX0_unit_43 : decode cX0_unit 43 = .ok (.iload_n 2, 1) := by decide +kernel
theorem dX0_unit_44 : decode cX0_unit 44 = .ok (.iastore, 1) := by decide +kernel
theorem dX0_unit_45 : decode cX0_unit 45 = .ok (.aload_n 0, 1) := by decide +kernel
theorem dX0_unit_46 : decode cX0_unit 46 = .ok (.getfield 32, 3) := by decide +kernel
theorem dX0_unit_49 : decode cX0_unit 49 = .ok (.iload_n 1, 1) := by decide +kernel
theorem dX0_unit_50 : decode cX0_unit 50 = .ok (.lload_n 3, 1) := by decide +kernel
theorem dX0_unit_51 : decode cX0_unit 51 = .ok (.lastore, 1) := by decide +kernel
theorem dX0_unit_52 : decode cX0_unit 52 = .ok (.aload_n 0, 1) := by decide +kernel
theorem dX0_unit_53 : decode cX0_unit 53 = .ok (.getfield 36, 3) := by decide +kernel
theorem dX0_unit_56 : decode cX0_unit 56 = .ok (.iload_n 1, 1) := by decide +kernel
theorem dX0_unit_57 : decode cX0_unit 57 = .ok (.lload 5, 2) := by decide +kernel
theorem dX0_unit_59 : decode cX0_unit 59 = .ok (.lastore, 1) := by decide +kernel
theorem dX0_unit_60 : decode cX0_unit 60 = .ok (.iconst 1, 1) := by decide +kernel
theorem dX0_unit_61 : decode cX0_unit 61 = .ok (.ireturn, 1) := by decide +kernel
set_option maxRecDepth 20000 in
theorem ggX0_connect_X0_isPort : GoodIn wsX0_connect wsX0_isPort := goodIn_r _ [7, 8, 27, 28, 29, 30, 31, 32, 33, 34, 35, 36, 37, 38, 39, 40, 41, 42, 43, 44, 45] (by decide +kernel) (by decide +kernel)
set_option maxRecDepth 20000 in
theorem gX0_connect_X0_isPort : GoodIn wsX0_connect (wsV RX0 81 RX0 yX0_isPort wsX0_isPort) := goodIn_app (goodIn_of _ (by decide +kernel)) ggX0_connect_X0_isPort
set_option maxRecDepth 20000 in
theorem ggX0_connect_X0_isWay : GoodIn wsX0_connect wsX0_isWay := goodIn_r _ [12, 13, 14, 15, 27, 28, 29, 30, 31, 32, 33, 34, 35, 36, 37, 38, 39, 40, 41, 42, 43, 44, 45] (by decide +kernel) (by decide +kernel)
set_option maxRecDepth 20000 in
theorem gX0_connect_X0_isWay : GoodIn wsX0_connect (wsV RX0 88 RX0 yX0_isWay wsX0_isWay) := goodIn_app (goodIn_of _ (by decide +kernel)) ggX0_connect_X0_isWay
set_option maxRecDepth 20000 in
theorem ggX0_connect_X0_holds : GoodIn wsX0_connect wsX0_holds := goodIn_r _ [18, 19, 20, 6, 21] (by decide +kernel) (by decide +kernel)
set_option maxRecDepth 20000 in
theorem gX0_connect_X0_holds : GoodIn wsX0_connect (va_wsS RX0 92 yX0_holds wsX0_holds) := goodIn_app (goodIn_of _ (by decide +kernel)) ggX0_connect_X0_holds
set_option maxRecDepth 20000 in
theorem ggX0_connect_X0_bit : GoodIn wsX0_connect wsX0_bit := goodIn_r _ [21] (by decide +kernel) (by decide +kernel)
set_option maxRecDepth 20000 in
theorem gX0_connect_X0_bit : GoodIn wsX0_connect (va_wsS RX0 96 yX0_bit wsX0_bit) := goodIn_app (goodIn_of _ (by decide +kernel)) ggX0_connect_X0_bit
set_option maxRecDepth 20000 in
theorem ggX0_connect_X0_spreadReach : GoodIn wsX0_connect wsX0_spreadReach := goodIn_r _ [25, 26, 8, 19, 20, 6, 21, 16, 17, 18, 27, 28, 29, 30, 31, 32, 33, 34, 35, 36, 37, 38, 39, 40, 41, 42, 43, 44, 45] (by decide +kernel) (by decide +kernel)
set_option maxRecDepth 20000 in
theorem gX0_connect_X0_spreadReach : GoodIn wsX0_connect (wsV RX0 100 RX0 yX0_spreadReach wsX0_spreadReach) := goodIn_app (goodIn_of _ (by decide +kernel)) ggX0_connect_X0_spreadReach
theorem dX0_connect_0 : decode cX0_connect 0 = .ok (.aload_n 0, 1) := by decide +kernel
theorem dX0_connect_1 : decode cX0_connect 1 = .ok (.iload_n 1, 1) := by decide +kernel
theorem dX0_connect_2 : decode cX0_connect 2 = .ok (.invokevirtual 81, 3) := by decide +kernel
theorem dX0_connect_5 : decode cX0_connect 5 = .ok (.ifCond .eq 11, 3) := by decide +kernel
theorem dX0_connect_8 : decode cX0_connect 8 = .ok (.aload_n 0, 1) := by decide +kernel
theorem dX0_connect_9 : decode cX0_connect 9 = .ok (.iload_n 2, 1) := by decide +kernel
theorem dX0_connect_10 : decode cX0_connect 10 = .ok (.invokevirtual 81, 3) := by decide +kernel
theorem dX0_connect_13 : decode cX0_connect 13 = .ok (.ifCond .ne 5, 3) := by decide +kernel
theorem dX0_connect_16 : decode cX0_connect 16 = .ok (.iconst (-1), 1) := by decide +kernel
theorem dX0_connect_17 : decode cX0_connect 17 = .ok (.ireturn, 1) := by decide +kernel
theorem dX0_connect_18 : decode cX0_connect 18 = .ok (.aload_n 0, 1) := by decide +kernel
theorem dX0_connect_19 : decode cX0_connect 19 = .ok (.getfield 23, 3) := by decide +kernel
theorem dX0_connect_22 : decode cX0_connect 22 = .ok (.iload_n 1, 1) := by decide +kernel
theorem dX0_connect_23 : decode cX0_connect 23 = .ok (.iaload, 1) := by decide +kernel
theorem dX0_connect_24 : decode cX0_connect 24 = .ok (.aload_n 0, 1) := by decide +kernel
theorem dX0_connect_25 : decode cX0_connect 25 = .ok (.getfield 23, 3) := by decide +kernel
theorem dX0_connect_28 : decode cX0_connect 28 = .ok (.iload_n 2, 1) := by decide +kernel
theorem dX0_connect_29 : decode cX0_connect 29 = .ok (.iaload, 1) := by decide +kernel
theorem dX0_connect_30 : decode cX0_connect 30 = .ok (.if_icmp .ne 12, 3) := by decide +kernel
theorem dX0_connect_33 : decode cX0_connect 33 = .ok (.aload_n 0, 1) := by decide +kernel
theorem dX0_connect_34 : decode cX0_connect 34 = .ok (.iload_n 1, 1) := by decide +kernel
theorem dX0_connect_35 : decode cX0_connect 35 = .ok (.iload_n 2, 1) := by decide +kernel
theorem dX0_connect_36 : decode cX0_connect 36 = .ok (.invokevirtual 88, 3) := by decide +kernel
theorem dX0_connect_39 : decode cX0_connect 39 = .ok (.ifCond .ne 6, 3) := by decide +kernel
theorem dX0_connect_42 : decode cX0_connect 42 = .ok (.bipush (-2), 2) := by decide +kernel
theorem dX0_connect_44 : decode cX0_connect 44 = .ok (.ireturn, 1) := by decide +kernel
theorem dX0_connect_45 : decode cX0_connect 45 = .ok (.aload_n 0, 1) := by decide +kernel
theorem dX0_connect_46 : decode cX0_connect 46 = .ok (.getfield 51, 3) := by decide +kernel
theorem dX0_connect_49 : decode cX0_connect 49 = .ok (.iload_n 1, 1) := by decide +kernel
theorem dX0_connect_50 : decode cX0_connect 50 = .ok (.laload, 1) := by decide +kernel
theorem dX0_connect_51 : decode cX0_connect 51 = .ok (.iload_n 2, 1) := by decide +kernel
theorem dX0_connect_52 : decode cX0_connect 52 = .ok (.invokestatic 92, 3) := by decide +kernel
theorem dX0_connect_55 : decode cX0_connect 55 = .ok (.ifCond .eq 5, 3) := by decide +kernel
theorem dX0_connect_58 : decode cX0_connect 58 = .ok (.iconst 0, 1) := by decide +kernel
theorem dX0_connect_59 : decode cX0_connect 59 = .ok (.ireturn, 1) := by decide +kernel
theorem dX0_connect_60 : decode cX0_connect 60 = .ok (.aload_n 0, 1) := by decide +kernel
theorem dX0_connect_61 : decode cX0_connect 61 = .ok (.getfield 51, 3) := by decide +kernel
theorem dX0_connect_64 : decode cX0_connect 64 = .ok (.iload_n 1, 1) := by decide +kernel
theorem dX0_connect_65 : decode cX0_connect 65 = .ok (.dup2, 1) := by decide +kernel
theorem dX0_connect_66 : decode cX0_connect 66 = .ok (.laload, 1) := by decide +kernel
theorem dX0_connect_67 : decode cX0_connect 67 = .ok (.iload_n 2, 1) := by decide +kernel
theorem dX0_connect_68 : decode cX0_connect 68 = .ok (.invokestatic 96, 3) := by decide +kernel
theorem dX0_connect_71 : decode cX0_connect 71 = .ok (.lor, 1) := by decide +kernel
theorem dX0_connect_72 : decode cX0_connect 72 = .ok (.lastore, 1) := by decide +kernel
theorem dX0_connect_73 : decode cX0_connect 73 = .ok (.aload_n 0, 1) := by decide +kernel
theorem dX0_connect_74 : decode cX0_connect 74 = .ok (.iload_n 1, 1) := by decide +kernel
theorem dX0_connect_75 : decode cX0_connect 75 = .ok (.iload_n 2, 1) := by decide +kernel
theorem dX0_connect_76 : decode cX0_connect 76 = .ok (.invokevirtual 100, 3) := by decide +kernel
theorem dX0_connect_79 : decode cX0_connect 79 = .ok (.iconst 1, 1) := by decide +kernel
theorem dX0_connect_80 : decode cX0_connect 80 = .ok (.ireturn, 1) := by decide +kernel
set_option maxRecDepth 20000 in
theorem ggX0_flatten_X0_flatFrom : GoodIn wsX0_flatten wsX0_flatFrom := goodIn_r _ [6, 7, 8, 9, 10, 11, 5, 12, 13, 14, 15, 23, 24, 25, 26, 27, 28, 29, 30, 31, 32, 33, 34, 35, 36, 37, 38, 39, 40, 41] (by decide +kernel) (by decide +kernel)
set_option maxRecDepth 20000 in
theorem gX0_flatten_X0_flatFrom : GoodIn wsX0_flatten (wsV RX0 104 RX0 yX0_flatFrom wsX0_flatFrom) := goodIn_app (goodIn_of _ (by decide +kernel)) ggX0_flatten_X0_flatFrom
set_option maxRecDepth 20000 in
theorem ggX0_flatten_J13_bitCount_95d88 : GoodIn wsX0_flatten wsJ13_bitCount_95d88 := goodIn_r _ [19, 20, 21, 22] (by decide +kernel) (by decide +kernel)
set_option maxRecDepth 20000 in
theorem gX0_flatten_J13_bitCount_95d88 : GoodIn wsX0_flatten (va_wsS RX0 107 yJ13_bitCount_95d88 wsJ13_bitCount_95d88) := goodIn_app (goodIn_of _ (by decide +kernel)) ggX0_flatten_J13_bitCount_95d88
theorem dX0_flatten_0 : decode cX0_flatten 0 = .ok (.iconst 0, 1) := by decide +kernel
theorem dX0_flatten_1 : decode cX0_flatten 1 = .ok (.istore_n 1, 1) := by decide +kernel
theorem dX0_flatten_2 : decode cX0_flatten 2 = .ok (.iconst 1, 1) := by decide +kernel
theorem dX0_flatten_3 : decode cX0_flatten 3 = .ok (.istore_n 2, 1) := by decide +kernel
theorem dX0_flatten_4 : decode cX0_flatten 4 = .ok (.iload_n 2, 1) := by decide +kernel
theorem dX0_flatten_5 : decode cX0_flatten 5 = .ok (.aload_n 0, 1) := by decide +kernel
theorem dX0_flatten_6 : decode cX0_flatten 6 = .ok (.getfield 75, 3) := by decide +kernel
theorem dX0_flatten_9 : decode cX0_flatten 9 = .ok (.if_icmp .gt 20, 3) := by decide +kernel
theorem dX0_flatten_12 : decode cX0_flatten 12 = .ok (.iload_n 1, 1) := by decide +kernel
theorem dX0_flatten_13 : decode cX0_flatten 13 = .ok (.aload_n 0, 1) := by decide +kernel
theorem dX0_flatten_14 : decode cX0_flatten 14 = .ok (.iload_n 2, 1) := by decide +kernel
theorem dX0_flatten_15 : decode cX0_flatten 15 = .ok (.invokevirtual 104, 3) := by decide +kernel
theorem dX0_flatten_18 : decode cX0_flatten 18 = .ok (.invokestatic 107, 3) := by decide +kernel
theorem dX0_flatten_21 : decode cX0_flatten 21 = .ok (.iadd, 1) := by decide +kernel
theorem dX0_flatten_22 : decode cX0_flatten 22 = .ok (.istore_n 1, 1) := by decide +kernel
theorem dX0_flatten_23 : decode cX0_flatten 23 = .ok (.iinc 2 1, 3) := by decide +kernel
theorem dX0_flatten_26 : decode cX0_flatten 26 = .ok (.goto (-22), 3) := by decide +kernel
theorem dX0_flatten_29 : decode cX0_flatten 29 = .ok (.iload_n 1, 1) := by decide +kernel
theorem dX0_flatten_30 : decode cX0_flatten 30 = .ok (.ireturn, 1) := by decide +kernel
set_option maxRecDepth 20000 in
theorem ggX0_at_X0_flatFrom : GoodIn wsX0_at wsX0_flatFrom := goodIn_r _ [8, 9, 10, 11, 12, 13, 7, 14, 15, 16, 17, 29, 30, 31, 32, 33, 34, 35, 36, 37, 38, 39, 40, 41, 42, 43, 44, 45, 46, 47] (by decide +kernel) (by decide +kernel)
set_option maxRecDepth 20000 in
theorem gX0_at_X0_flatFrom : GoodIn wsX0_at (wsV RX0 104 RX0 yX0_flatFrom wsX0_flatFrom) := goodIn_app (goodIn_of _ (by decide +kernel)) ggX0_at_X0_flatFrom
set_option maxRecDepth 20000 in
theorem ggX0_at_J13_bitCount_95d88 : GoodIn wsX0_at wsJ13_bitCount_95d88 := goodIn_r _ [21, 22, 23, 24] (by decide +kernel) (by decide +kernel)
set_option maxRecDepth 20000 in
theorem gX0_at_J13_bitCount_95d88 : GoodIn wsX0_at (va_wsS RX0 107 yJ13_bitCount_95d88 wsJ13_bitCount_95d88) := goodIn_app (goodIn_of _ (by decide +kernel)) ggX0_at_J13_bitCount_95d88
set_option maxRecDepth 20000 in
theorem ggX0_at_X0_nthPort : GoodIn wsX0_at wsX0_nthPort := goodIn_r _ [28, 3, 12, 13, 7, 14, 15, 16, 17, 29, 30, 31, 32, 33, 34, 35, 36, 37, 38, 39, 40, 41, 42, 43, 44, 45, 46, 47] (by decide +kernel) (by decide +kernel)
set_option maxRecDepth 20000 in
theorem gX0_at_X0_nthPort : GoodIn wsX0_at (wsV RX0 113 RX0 yX0_nthPort wsX0_nthPort) := goodIn_app (goodIn_of _ (by decide +kernel)) ggX0_at_X0_nthPort
theorem dX0_at_0 : decode cX0_at 0 = .ok (.iload_n 1, 1) := by decide +kernel
theorem dX0_at_1 : decode cX0_at 1 = .ok (.istore_n 3, 1) := by decide +kernel
theorem dX0_at_2 : decode cX0_at 2 = .ok (.iconst 1, 1) := by decide +kernel
theorem dX0_at_3 : decode cX0_at 3 = .ok (.istore 4, 2) := by decide +kernel
theorem dX0_at_5 : decode cX0_at 5 = .ok (.iload 4, 2) := by decide +kernel
theorem dX0_at_7 : decode cX0_at 7 = .ok (.aload_n 0, 1) := by decide +kernel
theorem dX0_at_8 : decode cX0_at 8 = .ok (.getfield 75, 3) := by decide +kernel
theorem dX0_at_11 : decode cX0_at 11 = .ok (.if_icmp .gt 56, 3) := by decide +kernel
theorem dX0_at_14 : decode cX0_at 14 = .ok (.iload_n 3, 1) := by decide +kernel
theorem dX0_at_15 : decode cX0_at 15 = .ok (.ifCond .lt 52, 3) := by decide +kernel
theorem dX0_at_18 : decode cX0_at 18 = .ok (.aload_n 0, 1) := by decide +kernel
theorem dX0_at_19 : decode cX0_at 19 = .ok (.iload 4, 2) := by decide +kernel
theorem dX0_at_21 : decode cX0_at 21 = .ok (.invokevirtual 104, 3) := by decide +kernel
theorem dX0_at_24 : decode cX0_at 24 = .ok (.lstore 5, 2) := by decide +kernel
theorem dX0_at_26 : decode cX0_at 26 = .ok (.lload 5, 2) := by decide +kernel
theorem dX0_at_28 : decode cX0_at 28 = .ok (.invokestatic 107, 3) := by decide +kernel
theorem dX0_at_31 : decode cX0_at 31 = .ok (.istore 7, 2) := by decide +kernel
theorem dX0_at_33 : decode cX0_at 33 = .ok (.iload_n 3, 1) := by decide +kernel
theorem dX0_at_34 : decode cX0_at 34 = .ok (.iload 7, 2) := by decide +kernel
theorem dX0_at_36 : decode cX0_at 36 = .ok (.if_icmp .ge 20, 3) := by decide +kernel
theorem dX0_at_39 : decode cX0_at 39 = .ok (.iload_n 2, 1) := by decide +kernel
theorem dX0_at_40 : decode cX0_at 40 = .ok (.ifCond .ne 8, 3) := by decide +kernel
theorem dX0_at_43 : decode cX0_at 43 = .ok (.iload 4, 2) := by decide +kernel
theorem dX0_at_45 : decode cX0_at 45 = .ok (.goto 10, 3) := by decide +kernel
theorem dX0_at_48 : decode cX0_at 48 = .ok (.aload_n 0, 1) := by decide +kernel
theorem dX0_at_49 : decode cX0_at 49 = .ok (.lload 5, 2) := by decide +kernel
theorem dX0_at_51 : decode cX0_at 51 = .ok (.iload_n 3, 1) := by decide +kernel
theorem dX0_at_52 : decode cX0_at 52 = .ok (.invokevirtual 113, 3) := by decide +kernel
theorem dX0_at_55 : decode cX0_at 55 = .ok (.ireturn, 1) := by decide +kernel
theorem dX0_at_56 : decode cX0_at 56 = .ok (.iload_n 3, 1) := by decide +kernel
theorem dX0_at_57 : decode cX0_at 57 = .ok (.iload 7, 2) := by decide +kernel
theorem dX0_at_59 : decode cX0_at 59 = .ok (.isub, 1) := by decide +kernel
theorem dX0_at_60 : decode cX0_at 60 = .ok (.istore_n 3, 1) := by decide +kernel
theorem dX0_at_61 : decode cX0_at 61 = .ok (.iinc 4 1, 3) := by decide +kernel
theorem dX0_at_64 : decode cX0_at 64 = .ok (.goto (-59), 3) := by decide +kernel
theorem dX0_at_67 : decode cX0_at 67 = .ok (.new 117, 3) := by decide +kernel
theorem dX0_at_70 : decode cX0_at 70 = .ok (.dup, 1) := by decide +kernel
theorem dX0_at_71 : decode cX0_at 71 = .ok (.ldc 119, 2) := by decide +kernel
theorem dX0_at_73 : decode cX0_at 73 = .ok (.invokespecial 121, 3) := by decide +kernel
theorem dX0_at_76 : decode cX0_at 76 = .ok (.athrow, 1) := by decide +kernel
set_option maxRecDepth 20000 in
theorem ggX0_check_X0_isPortRule : GoodIn wsX0_check wsX0_isPortRule := goodIn_r _ [4] (by decide +kernel) (by decide +kernel)
set_option maxRecDepth 20000 in
theorem gX0_check_X0_isPortRule : GoodIn wsX0_check (va_wsS RX0 124 yX0_isPortRule wsX0_isPortRule) := goodIn_app (goodIn_of _ (by decide +kernel)) ggX0_check_X0_isPortRule
set_option maxRecDepth 20000 in
theorem ggX0_check_X0_firstBadPort : GoodIn wsX0_check wsX0_firstBadPort := goodIn_r _ [8, 9, 10, 11, 12, 3, 13, 14, 15, 16, 17, 18, 19, 20, 21, 22, 23, 24, 25, 26, 27, 28, 29, 30, 31, 32, 33, 60, 61, 62, 63, 64, 65, 66, 67, 68, 69, 70, 71, 72, 73, 74, 75, 76, 77, 78] (by decide +kernel) (by decide +kernel)
set_option maxRecDepth 20000 in
theorem gX0_check_X0_firstBadPort : GoodIn wsX0_check (wsV RX0 127 RX0 yX0_firstBadPort wsX0_firstBadPort) := goodIn_app (goodIn_of _ (by decide +kernel)) ggX0_check_X0_firstBadPort
set_option maxRecDepth 20000 in
theorem ggX0_check_X0_firstBadConnector : GoodIn wsX0_check wsX0_firstBadConnector := goodIn_r _ [37, 9, 28, 29, 30, 3, 31, 32, 33, 10, 11, 12, 13, 14, 15, 16, 38, 39, 40, 41, 42, 43, 21, 44, 45, 46, 47, 48, 49, 50, 51, 52, 53, 54, 55, 56, 57, 58, 59, 60, 61, 62, 63, 64, 65, 66, 67, 68, 69, 70, 71, 72, 73, 74, 75, 76, 77, 78] (by decide +kernel) (by decide +kernel)
set_option maxRecDepth 20000 in
theorem gX0_check_X0_firstBadConnector : GoodIn wsX0_check (wsV RX0 131 RX0 yX0_firstBadConnector wsX0_firstBadConnector) := goodIn_app (goodIn_of _ (by decide +kernel)) ggX0_check_X0_firstBadConnector
theorem dX0_check_0 : decode cX0_check 0 = .ok (.iconst 1, 1) := by decide +kernel
theorem dX0_check_1 : decode cX0_check 1 = .ok (.istore_n 1, 1) := by decide +kernel
theorem dX0_check_2 : decode cX0_check 2 = .ok (.iload_n 1, 1) := by decide +kernel
theorem dX0_check_3 : decode cX0_check 3 = .ok (.bipush 9, 2) := by decide +kernel
theorem dX0_check_5 : decode cX0_check 5 = .ok (.if_icmp .gt 42, 3) := by decide +kernel
theorem dX0_check_8 : decode cX0_check 8 = .ok (.iload_n 1, 1) := by decide +kernel
theorem dX0_check_9 : decode cX0_check 9 = .ok (.invokestatic 124, 3) := by decide +kernel
theorem dX0_check_12 : decode cX0_check 12 = .ok (.ifCond .eq 11, 3) := by decide +kernel
theorem dX0_check_15 : decode cX0_check 15 = .ok (.aload_n 0, 1) := by decide +kernel
theorem dX0_check_16 : decode cX0_check 16 = .ok (.iload_n 1, 1) := by decide +kernel
theorem dX0_check_17 : decode cX0_check 17 = .ok (.invokevirtual 127, 3) := by decide +kernel
theorem dX0_check_20 : decode cX0_check 20 = .ok (.goto 8, 3) := by decide +kernel
theorem dX0_check_23 : decode cX0_check 23 = .ok (.aload_n 0, 1) := by decide +kernel
theorem dX0_check_24 : decode cX0_check 24 = .ok (.iload_n 1, 1) := by decide +kernel
theorem dX0_check_25 : decode cX0_check 25 = .ok (.invokevirtual 131, 3) := by decide +kernel
theorem dX0_check_28 : decode cX0_check 28 = .ok (.istore_n 2, 1) := by decide +kernel
theorem dX0_check_29 : decode cX0_check 29 = .ok (.iload_n 2, 1) := by decide +kernel
theorem dX0_check_30 : decode cX0_check 30 = .ok (.ifCond .eq 11, 3) := by decide +kernel
theorem dX0_check_33 : decode cX0_check 33 = .ok (.sipush 1000, 3) := by decide +kernel
theorem dX0_check_36 : decode cX0_check 36 = .ok (.iload_n 1, 1) := by decide +kernel
theorem dX0_check_37 : decode cX0_check 37 = .ok (.imul, 1) := by decide +kernel
theorem dX0_check_38 : decode cX0_check 38 = .ok (.iload_n 2, 1) := by decide +kernel
theorem dX0_check_39 : decode cX0_check 39 = .ok (.iadd, 1) := by decide +kernel
theorem dX0_check_40 : decode cX0_check 40 = .ok (.ireturn, 1) := by decide +kernel
theorem dX0_check_41 : decode cX0_check 41 = .ok (.iinc 1 1, 3) := by decide +kernel
theorem dX0_check_44 : decode cX0_check 44 = .ok (.goto (-42), 3) := by decide +kernel
theorem dX0_check_47 : decode cX0_check 47 = .ok (.iconst 0, 1) := by decide +kernel
theorem dX0_check_48 : decode cX0_check 48 = .ok (.ireturn, 1) := by decide +kernel
set_option maxRecDepth 20000 in
theorem ggX0_manager_X0_isPart : GoodIn wsX0_manager wsX0_isPart := goodIn_r _ [6, 7, 8, 9, 10, 11, 12, 13, 14, 15, 16, 17, 18, 19, 20, 21, 22, 23, 24, 25, 26] (by decide +kernel) (by decide +kernel)
set_option maxRecDepth 20000 in
theorem gX0_manager_X0_isPart : GoodIn wsX0_manager (wsV RX0 63 RX0 yX0_isPart wsX0_isPart) := goodIn_app (goodIn_of _ (by decide +kernel)) ggX0_manager_X0_isPart
theorem dX0_manager_0 : decode cX0_manager 0 = .ok (.aload_n 0, 1) := by decide +kernel
theorem dX0_manager_1 : decode cX0_manager 1 = .ok (.iload_n 2, 1) := by decide +kernel
theorem dX0_manager_2 : decode cX0_manager 2 = .ok (.invokevirtual 63, 3) := by decide +kernel
theorem dX0_manager_5 : decode cX0_manager 5 = .ok (.ifCond .ne 5, 3) := by decide +kernel
theorem dX0_manager_8 : decode cX0_manager 8 = .ok (.iconst (-1), 1) := by decide +kernel
theorem dX0_manager_9 : decode cX0_manager 9 = .ok (.ireturn, 1) := by decide +kernel
theorem dX0_manager_10 : decode cX0_manager 10 = .ok (.iload_n 1, 1) := by decide +kernel
theorem dX0_manager_11 : decode cX0_manager 11 = .ok (.ifCond .lt 9, 3) := by decide +kernel
theorem dX0_manager_14 : decode cX0_manager 14 = .ok (.iload_n 1, 1) := by decide +kernel
theorem dX0_manager_15 : decode cX0_manager 15 = .ok (.bipush 10, 2) := by decide +kernel
theorem dX0_manager_17 : decode cX0_manager 17 = .ok (.if_icmp .lt 6, 3) := by decide +kernel
theorem dX0_manager_20 : decode cX0_manager 20 = .ok (.bipush (-2), 2) := by decide +kernel
theorem dX0_manager_22 : decode cX0_manager 22 = .ok (.ireturn, 1) := by decide +kernel
theorem dX0_manager_23 : decode cX0_manager 23 = .ok (.aload_n 0, 1) := by decide +kernel
theorem dX0_manager_24 : decode cX0_manager 24 = .ok (.getfield 17, 3) := by decide +kernel
theorem dX0_manager_27 : decode cX0_manager 27 = .ok (.iload_n 1, 1) := by decide +kernel
theorem dX0_manager_28 : decode cX0_manager 28 = .ok (.iaload, 1) := by decide +kernel
theorem dX0_manager_29 : decode cX0_manager 29 = .ok (.ifCond .eq 15, 3) := by decide +kernel
theorem dX0_manager_32 : decode cX0_manager 32 = .ok (.aload_n 0, 1) := by decide +kernel
theorem dX0_manager_33 : decode cX0_manager 33 = .ok (.getfield 17, 3) := by decide +kernel
theorem dX0_manager_36 : decode cX0_manager 36 = .ok (.iload_n 1, 1) := by decide +kernel
theorem dX0_manager_37 : decode cX0_manager 37 = .ok (.iaload, 1) := by decide +kernel
theorem dX0_manager_38 : decode cX0_manager 38 = .ok (.iload_n 2, 1) := by decide +kernel
theorem dX0_manager_39 : decode cX0_manager 39 = .ok (.if_icmp .eq 5, 3) := by decide +kernel
theorem dX0_manager_42 : decode cX0_manager 42 = .ok (.iconst 0, 1) := by decide +kernel
theorem dX0_manager_43 : decode cX0_manager 43 = .ok (.ireturn, 1) := by decide +kernel
theorem dX0_manager_44 : decode cX0_manager 44 = .ok (.aload_n 0, 1) := by decide +kernel
theorem dX0_manager_45 : decode cX0_manager 45 = .ok (.getfield 17, 3) := by decide +kernel
theorem dX0_manager_48 : decode cX0_manager 48 = .ok (.iload_n 1, 1) := by decide +kernel
theorem dX0_manager_49 : decode cX0_manager 49 = .ok (.iload_n 2, 1) := by decide +kernel
theorem dX0_manager_50 : decode cX0_manager 50 = .ok (.iastore, 1) := by decide +kernel
theorem dX0_manager_51 : decode cX0_manager 51 = .ok (.iconst 1, 1) := by decide +kernel
theorem dX0_manager_52 : decode cX0_manager 52 = .ok (.ireturn, 1) := by decide +kernel
set_option maxRecDepth 20000 in
theorem ggX0_fallback_X0_isPort : GoodIn wsX0_fallback wsX0_isPort := goodIn_r _ [8, 9, 10, 11, 12, 13, 14, 15, 16, 17, 18, 19, 20, 21, 22, 23, 24, 25, 26, 27, 28] (by decide +kernel) (by decide +kernel)
set_option maxRecDepth 20000 in
theorem gX0_fallback_X0_isPort : GoodIn wsX0_fallback (wsV RX0 81 RX0 yX0_isPort wsX0_isPort) := goodIn_app (goodIn_of _ (by decide +kernel)) ggX0_fallback_X0_isPort
theorem dX0_fallback_0 : decode cX0_fallback 0 = .ok (.aload_n 0, 1) := by decide +kernel
theorem dX0_fallback_1 : decode cX0_fallback 1 = .ok (.iload_n 1, 1) := by decide +kernel
theorem dX0_fallback_2 : decode cX0_fallback 2 = .ok (.invokevirtual 81, 3) := by decide +kernel
theorem dX0_fallback_5 : decode cX0_fallback 5 = .ok (.ifCond .ne 5, 3) := by decide +kernel
theorem dX0_fallback_8 : decode cX0_fallback 8 = .ok (.iconst (-1), 1) := by decide +kernel
theorem dX0_fallback_9 : decode cX0_fallback 9 = .ok (.ireturn, 1) := by decide +kernel
theorem dX0_fallback_10 : decode cX0_fallback 10 = .ok (.aload_n 0, 1) := by decide +kernel
theorem dX0_fallback_11 : decode cX0_fallback 11 = .ok (.getfield 26, 3) := by decide +kernel
theorem dX0_fallback_14 : decode cX0_fallback 14 = .ok (.iload_n 1, 1) := by decide +kernel
theorem dX0_fallback_15 : decode cX0_fallback 15 = .ok (.baload, 1) := by decide +kernel
theorem dX0_fallback_16 : decode cX0_fallback 16 = .ok (.ifCond .eq 6, 3) := by decide +kernel
theorem dX0_fallback_19 : decode cX0_fallback 19 = .ok (.bipush (-3), 2) := by decide +kernel
theorem dX0_fallback_21 : decode cX0_fallback 21 = .ok (.ireturn, 1) := by decide +kernel
theorem dX0_fallback_22 : decode cX0_fallback 22 = .ok (.aload_n 0, 1) := by decide +kernel
theorem dX0_fallback_23 : decode cX0_fallback 23 = .ok (.getfield 45, 3) := by decide +kernel
theorem dX0_fallback_26 : decode cX0_fallback 26 = .ok (.iload_n 1, 1) := by decide +kernel
theorem dX0_fallback_27 : decode cX0_fallback 27 = .ok (.iaload, 1) := by decide +kernel
theorem dX0_fallback_28 : decode cX0_fallback 28 = .ok (.istore_n 3, 1) := by decide +kernel
theorem dX0_fallback_29 : decode cX0_fallback 29 = .ok (.aload_n 0, 1) := by decide +kernel
theorem dX0_fallback_30 : decode cX0_fallback 30 = .ok (.getfield 42, 3) := by decide +kernel
theorem dX0_fallback_33 : decode cX0_fallback 33 = .ok (.iload_n 1, 1) := by decide +kernel
theorem dX0_fallback_34 : decode cX0_fallback 34 = .ok (.iconst 1, 1) := by decide +kernel
theorem dX0_fallback_35 : decode cX0_fallback 35 = .ok (.bastore, 1) := by decide +kernel
theorem dX0_fallback_36 : decode cX0_fallback 36 = .ok (.aload_n 0, 1) := by decide +kernel
theorem dX0_fallback_37 : decode cX0_fallback 37 = .ok (.getfield 45, 3) := by decide +kernel
theorem dX0_fallback_40 : decode cX0_fallback 40 = .ok (.iload_n 1, 1) := by decide +kernel
theorem dX0_fallback_41 : decode cX0_fallback 41 = .ok (.iload_n 2, 1) := by decide +kernel
theorem dX0_fallback_42 : decode cX0_fallback 42 = .ok (.iastore, 1) := by decide +kernel
theorem dX0_fallback_43 : decode cX0_fallback 43 = .ok (.iload_n 3, 1) := by decide +kernel
theorem dX0_fallback_44 : decode cX0_fallback 44 = .ok (.ireturn, 1) := by decide +kernel
set_option maxRecDepth 20000 in
theorem ggX0_queue_X0_isPort : GoodIn wsX0_queue wsX0_isPort := goodIn_r _ [7, 8, 9, 10, 11, 12, 13, 14, 15, 16, 17, 18, 19, 20, 21, 22, 23, 24, 25, 26, 27] (by decide +kernel) (by decide +kernel)
set_option maxRecDepth 20000 in
theorem gX0_queue_X0_isPort : GoodIn wsX0_queue (wsV RX0 81 RX0 yX0_isPort wsX0_isPort) := goodIn_app (goodIn_of _ (by decide +kernel)) ggX0_queue_X0_isPort
theorem dX0_queue_0 : decode cX0_queue 0 = .ok (.aload_n 0, 1) := by decide +kernel
theorem dX0_queue_1 : decode cX0_queue 1 = .ok (.iload_n 1, 1) := by decide +kernel
theorem dX0_queue_2 : decode cX0_queue 2 = .ok (.invokevirtual 81, 3) := by decide +kernel
theorem dX0_queue_5 : decode cX0_queue 5 = .ok (.ifCond .ne 5, 3) := by decide +kernel
theorem dX0_queue_8 : decode cX0_queue 8 = .ok (.iconst (-1), 1) := by decide +kernel
theorem dX0_queue_9 : decode cX0_queue 9 = .ok (.ireturn, 1) := by decide +kernel
theorem dX0_queue_10 : decode cX0_queue 10 = .ok (.iload_n 2, 1) := by decide +kernel
theorem dX0_queue_11 : decode cX0_queue 11 = .ok (.iconst 1, 1) := by decide +kernel
theorem dX0_queue_12 : decode cX0_queue 12 = .ok (.if_icmp .lt 9, 3) := by decide +kernel
theorem dX0_queue_15 : decode cX0_queue 15 = .ok (.iload_n 2, 1) := by decide +kernel
theorem dX0_queue_16 : decode cX0_queue 16 = .ok (.bipush 100, 2) := by decide +kernel
theorem dX0_queue_18 : decode cX0_queue 18 = .ok (.if_icmp .le 6, 3) := by decide +kernel
theorem dX0_queue_21 : decode cX0_queue 21 = .ok (.bipush (-2), 2) := by decide +kernel
theorem dX0_queue_23 : decode cX0_queue 23 = .ok (.ireturn, 1) := by decide +kernel
theorem dX0_queue_24 : decode cX0_queue 24 = .ok (.aload_n 0, 1) := by decide +kernel
theorem dX0_queue_25 : decode cX0_queue 25 = .ok (.getfield 23, 3) := by decide +kernel
theorem dX0_queue_28 : decode cX0_queue 28 = .ok (.iload_n 1, 1) := by decide +kernel
theorem dX0_queue_29 : decode cX0_queue 29 = .ok (.iaload, 1) := by decide +kernel
theorem dX0_queue_30 : decode cX0_queue 30 = .ok (.iconst 1, 1) := by decide +kernel
theorem dX0_queue_31 : decode cX0_queue 31 = .ok (.if_icmp .eq 6, 3) := by decide +kernel
theorem dX0_queue_34 : decode cX0_queue 34 = .ok (.bipush (-3), 2) := by decide +kernel
theorem dX0_queue_36 : decode cX0_queue 36 = .ok (.ireturn, 1) := by decide +kernel
theorem dX0_queue_37 : decode cX0_queue 37 = .ok (.aload_n 0, 1) := by decide +kernel
theorem dX0_queue_38 : decode cX0_queue 38 = .ok (.getfield 48, 3) := by decide +kernel
theorem dX0_queue_41 : decode cX0_queue 41 = .ok (.iload_n 1, 1) := by decide +kernel
theorem dX0_queue_42 : decode cX0_queue 42 = .ok (.iload_n 2, 1) := by decide +kernel
theorem dX0_queue_43 : decode cX0_queue 43 = .ok (.iastore, 1) := by decide +kernel
theorem dX0_queue_44 : decode cX0_queue 44 = .ok (.iconst 1, 1) := by decide +kernel
theorem dX0_queue_45 : decode cX0_queue 45 = .ok (.ireturn, 1) := by decide +kernel
set_option maxRecDepth 20000 in
theorem ggX0_version_X0_isPort : GoodIn wsX0_version wsX0_isPort := goodIn_r _ [6, 7, 8, 9, 10, 11, 12, 13, 14, 15, 16, 17, 18, 19, 20, 21, 22, 23, 24, 25, 26] (by decide +kernel) (by decide +kernel)
set_option maxRecDepth 20000 in
theorem gX0_version_X0_isPort : GoodIn wsX0_version (wsV RX0 81 RX0 yX0_isPort wsX0_isPort) := goodIn_app (goodIn_of _ (by decide +kernel)) ggX0_version_X0_isPort
theorem dX0_version_0 : decode cX0_version 0 = .ok (.aload_n 0, 1) := by decide +kernel
theorem dX0_version_1 : decode cX0_version 1 = .ok (.iload_n 1, 1) := by decide +kernel
theorem dX0_version_2 : decode cX0_version 2 = .ok (.invokevirtual 81, 3) := by decide +kernel
theorem dX0_version_5 : decode cX0_version 5 = .ok (.ifCond .ne 5, 3) := by decide +kernel
theorem dX0_version_8 : decode cX0_version 8 = .ok (.iconst (-1), 1) := by decide +kernel
theorem dX0_version_9 : decode cX0_version 9 = .ok (.ireturn, 1) := by decide +kernel
theorem dX0_version_10 : decode cX0_version 10 = .ok (.iload_n 2, 1) := by decide +kernel
theorem dX0_version_11 : decode cX0_version 11 = .ok (.ifCond .lt 10, 3) := by decide +kernel
theorem dX0_version_14 : decode cX0_version 14 = .ok (.iload_n 2, 1) := by decide +kernel
theorem dX0_version_15 : decode cX0_version 15 = .ok (.sipush 9999, 3) := by decide +kernel
theorem dX0_version_18 : decode cX0_version 18 = .ok (.if_icmp .le 6, 3) := by decide +kernel
theorem dX0_version_21 : decode cX0_version 21 = .ok (.bipush (-2), 2) := by decide +kernel
theorem dX0_version_23 : decode cX0_version 23 = .ok (.ireturn, 1) := by decide +kernel
theorem dX0_version_24 : decode cX0_version 24 = .ok (.aload_n 0, 1) := by decide +kernel
theorem dX0_version_25 : decode cX0_version 25 = .ok (.getfield 39, 3) := by decide +kernel
theorem dX0_version_28 : decode cX0_version 28 = .ok (.iload_n 1, 1) := by decide +kernel
theorem dX0_version_29 : decode cX0_version 29 = .ok (.iload_n 2, 1) := by decide +kernel
theorem dX0_version_30 : decode cX0_version 30 = .ok (.iastore, 1) := by decide +kernel
theorem dX0_version_31 : decode cX0_version 31 = .ok (.iconst 1, 1) := by decide +kernel
theorem dX0_version_32 : decode cX0_version 32 = .ok (.ireturn, 1) := by decide +kernel
set_option maxRecDepth 20000 in
theorem ggX0_open_X0_flatSeconds : GoodIn wsX0_open wsX0_flatSeconds := goodIn_r _ [7, 8, 9, 10, 11, 6, 12, 13, 14, 1, 15, 16, 17, 18, 19, 20, 25, 26, 27, 28, 29, 30, 31, 32, 33, 34, 35, 36, 37, 38, 39, 40, 41, 42, 43] (by decide +kernel) (by decide +kernel)
set_option maxRecDepth 20000 in
theorem gX0_open_X0_flatSeconds : GoodIn wsX0_open (wsV RX0 138 RX0 yX0_flatSeconds wsX0_flatSeconds) := goodIn_app (goodIn_of _ (by decide +kernel)) ggX0_open_X0_flatSeconds
set_option maxRecDepth 20000 in
theorem ggX0_open_X0_nthPort : GoodIn wsX0_open wsX0_nthPort := goodIn_r _ [24, 8, 15, 16, 6, 17, 18, 19, 20, 25, 26, 27, 28, 29, 30, 31, 32, 33, 34, 35, 36, 37, 38, 39, 40, 41, 42, 43] (by decide +kernel) (by decide +kernel)
set_option maxRecDepth 20000 in
theorem gX0_open_X0_nthPort : GoodIn wsX0_open (wsV RX0 113 RX0 yX0_nthPort wsX0_nthPort) := goodIn_app (goodIn_of _ (by decide +kernel)) ggX0_open_X0_nthPort
theorem dX0_open_0 : decode cX0_open 0 = .ok (.iload_n 1, 1) := by decide +kernel
theorem dX0_open_1 : decode cX0_open 1 = .ok (.ifCond .ge 7, 3) := by decide +kernel
theorem dX0_open_4 : decode cX0_open 4 = .ok (.iconst 0, 1) := by decide +kernel
theorem dX0_open_5 : decode cX0_open 5 = .ok (.goto 21, 3) := by decide +kernel
theorem dX0_open_8 : decode cX0_open 8 = .ok (.aload_n 0, 1) := by decide +kernel
theorem dX0_open_9 : decode cX0_open 9 = .ok (.aload_n 0, 1) := by decide +kernel
theorem dX0_open_10 : decode cX0_open 10 = .ok (.getfield 134, 3) := by decide +kernel
theorem dX0_open_13 : decode cX0_open 13 = .ok (.aload_n 0, 1) := by decide +kernel
theorem dX0_open_14 : decode cX0_open 14 = .ok (.invokevirtual 138, 3) := by decide +kernel
theorem dX0_open_17 : decode cX0_open 17 = .ok (.ldc2_w 142, 3) := by decide +kernel
theorem dX0_open_20 : decode cX0_open 20 = .ok (.lxor, 1) := by decide +kernel
theorem dX0_open_21 : decode cX0_open 21 = .ok (.land, 1) := by decide +kernel
theorem dX0_open_22 : decode cX0_open 22 = .ok (.iload_n 1, 1) := by decide +kernel
theorem dX0_open_23 : decode cX0_open 23 = .ok (.invokevirtual 113, 3) := by decide +kernel
theorem dX0_open_26 : decode cX0_open 26 = .ok (.ireturn, 1) := by decide +kernel
theorem dX0_isPart_0 : decode cX0_isPart 0 = .ok (.iload_n 1, 1) := by decide +kernel
theorem dX0_isPart_1 : decode cX0_isPart 1 = .ok (.iconst 1, 1) := by decide +kernel
theorem dX0_isPart_2 : decode cX0_isPart 2 = .ok (.if_icmp .lt 15, 3) := by decide +kernel
theorem dX0_isPart_5 : decode cX0_isPart 5 = .ok (.iload_n 1, 1) := by decide +kernel
theorem dX0_isPart_6 : decode cX0_isPart 6 = .ok (.aload_n 0, 1) := by decide +kernel
theorem dX0_isPart_7 : decode cX0_isPart 7 = .ok (.getfield 67, 3) := by decide +kernel
theorem dX0_isPart_10 : decode cX0_isPart 10 = .ok (.if_icmp .gt 7, 3) := by decide +kernel
theorem dX0_isPart_13 : decode cX0_isPart 13 = .ok (.iconst 1, 1) := by decide +kernel
theorem dX0_isPart_14 : decode cX0_isPart 14 = .ok (.goto 4, 3) := by decide +kernel
theorem dX0_isPart_17 : decode cX0_isPart 17 = .ok (.iconst 0, 1) := by decide +kernel
theorem dX0_isPart_18 : decode cX0_isPart 18 = .ok (.ireturn, 1) := by decide +kernel
theorem dX0_isPort_0 : decode cX0_isPort 0 = .ok (.iload_n 1, 1) := by decide +kernel
theorem dX0_isPort_1 : decode cX0_isPort 1 = .ok (.iconst 1, 1) := by decide +kernel
theorem dX0_isPort_2 : decode cX0_isPort 2 = .ok (.if_icmp .lt 15, 3) := by decide +kernel
theorem dX0_isPort_5 : decode cX0_isPort 5 = .ok (.iload_n 1, 1) := by decide +kernel
theorem dX0_isPort_6 : decode cX0_isPort 6 = .ok (.aload_n 0, 1) := by decide +kernel
theorem dX0_isPort_7 : decode cX0_isPort 7 = .ok (.getfield 75, 3) := by decide +kernel
theorem dX0_isPort_10 : decode cX0_isPort 10 = .ok (.if_icmp .gt 7, 3) := by decide +kernel
theorem dX0_isPort_13 : decode cX0_isPort 13 = .ok (.iconst 1, 1) := by decide +kernel
theorem dX0_isPort_14 : decode cX0_isPort 14 = .ok (.goto 4, 3) := by decide +kernel
theorem dX0_isPort_17 : decode cX0_isPort 17 = .ok (.iconst 0, 1) := by decide +kernel
theorem dX0_isPort_18 : decode cX0_isPort 18 = .ok (.ireturn, 1) := by decide +kernel
theorem dX0_isScaling_0 : decode cX0_isScaling 0 = .ok (.lload_n 0, 1) := by decide +kernel
theorem dX0_isScaling_1 : decode cX0_isScaling 1 = .ok (.lconst 1, 1) := by decide +kernel
theorem dX0_isScaling_2 : decode cX0_isScaling 2 = .ok (.lcmp, 1) := by decide +kernel
theorem dX0_isScaling_3 : decode cX0_isScaling 3 = .ok (.ifCond .lt 15, 3) := by decide +kernel
theorem dX0_isScaling_6 : decode cX0_isScaling 6 = .ok (.lload_n 0, 1) := by decide +kernel
theorem dX0_isScaling_7 : decode cX0_isScaling 7 = .ok (.ldc2_w 144, 3) := by decide +kernel
theorem dX0_isScaling_10 : decode cX0_isScaling 10 = .ok (.lcmp, 1) := by decide +kernel
theorem dX0_isScaling_11 : decode cX0_isScaling 11 = .ok (.ifCond .gt 7, 3) := by decide +kernel
theorem dX0_isScaling_14 : decode cX0_isScaling 14 = .ok (.iconst 1, 1) := by decide +kernel
theorem dX0_isScaling_15 : decode cX0_isScaling 15 = .ok (.goto 4, 3) := by decide +kernel
theorem dX0_isScaling_18 : decode cX0_isScaling 18 = .ok (.iconst 0, 1) := by decide +kernel
theorem dX0_isScaling_19 : decode cX0_isScaling 19 = .ok (.ireturn, 1) := by decide +kernel
theorem dX0_bit_0 : decode cX0_bit 0 = .ok (.lconst 1, 1) := by decide +kernel
theorem dX0_bit_1 : decode cX0_bit 1 = .ok (.iload_n 0, 1) := by decide +kernel
theorem dX0_bit_2 : decode cX0_bit 2 = .ok (.lshl, 1) := by decide +kernel
theorem dX0_bit_3 : decode cX0_bit 3 = .ok (.lreturn, 1) := by decide +kernel
set_option maxRecDepth 20000 in
theorem ggX0_holds_X0_bit : GoodIn wsX0_holds wsX0_bit := goodIn_r _ [4] (by decide +kernel) (by decide +kernel)
set_option maxRecDepth 20000 in
theorem gX0_holds_X0_bit : GoodIn wsX0_holds (va_wsS RX0 96 yX0_bit wsX0_bit) := goodIn_app (goodIn_of _ (by decide +kernel)) ggX0_holds_X0_bit
theorem dX0_holds_0 : decode cX0_holds 0 = .ok (.lload_n 0, 1) := by decide +kernel
theorem dX0_holds_1 : decode cX0_holds 1 = .ok (.iload_n 2, 1) := by decide +kernel
theorem dX0_holds_2 : decode cX0_holds 2 = .ok (.invokestatic 96, 3) := by decide +kernel
theorem dX0_holds_5 : decode cX0_holds 5 = .ok (.land, 1) := by decide +kernel
theorem dX0_holds_6 : decode cX0_holds 6 = .ok (.lconst 0, 1) := by decide +kernel
theorem dX0_holds_7 : decode cX0_holds 7 = .ok (.lcmp, 1) := by decide +kernel
theorem dX0_holds_8 : decode cX0_holds 8 = .ok (.ifCond .eq 7, 3) := by decide +kernel
theorem dX0_holds_11 : decode cX0_holds 11 = .ok (.iconst 1, 1) := by decide +kernel
theorem dX0_holds_12 : decode cX0_holds 12 = .ok (.goto 4, 3) := by decide +kernel
theorem dX0_holds_15 : decode cX0_holds 15 = .ok (.iconst 0, 1) := by decide +kernel
theorem dX0_holds_16 : decode cX0_holds 16 = .ok (.ireturn, 1) := by decide +kernel
set_option maxRecDepth 20000 in
theorem ggX0_nthPort_X0_holds : GoodIn wsX0_nthPort wsX0_holds := goodIn_r _ [5, 6, 7, 4, 8] (by decide +kernel) (by decide +kernel)
set_option maxRecDepth 20000 in
theorem gX0_nthPort_X0_holds : GoodIn wsX0_nthPort (va_wsS RX0 92 yX0_holds wsX0_holds) := goodIn_app (goodIn_of _ (by decide +kernel)) ggX0_nthPort_X0_holds
theorem dX0_nthPort_0 : decode cX0_nthPort 0 = .ok (.iload_n 3, 1) := by decide +kernel
theorem dX0_nthPort_1 : decode cX0_nthPort 1 = .ok (.istore 4, 2) := by decide +kernel
theorem dX0_nthPort_3 : decode cX0_nthPort 3 = .ok (.iconst 1, 1) := by decide +kernel
theorem dX0_nthPort_4 : decode cX0_nthPort 4 = .ok (.istore 5, 2) := by decide +kernel
theorem dX0_nthPort_6 : decode cX0_nthPort 6 = .ok (.iload 5, 2) := by decide +kernel
theorem dX0_nthPort_8 : decode cX0_nthPort 8 = .ok (.aload_n 0, 1) := by decide +kernel
theorem dX0_nthPort_9 : decode cX0_nthPort 9 = .ok (.getfield 75, 3) := by decide +kernel
theorem dX0_nthPort_12 : decode cX0_nthPort 12 = .ok (.if_icmp .gt 29, 3) := by decide +kernel
theorem dX0_nthPort_15 : decode cX0_nthPort 15 = .ok (.lload_n 1, 1) := by decide +kernel
theorem dX0_nthPort_16 : decode cX0_nthPort 16 = .ok (.iload 5, 2) := by decide +kernel
theorem dX0_nthPort_18 : decode cX0_nthPort 18 = .ok (.invokestatic 92, 3) := by decide +kernel
theorem dX0_nthPort_21 : decode cX0_nthPort 21 = .ok (.ifCond .eq 14, 3) := by decide +kernel
theorem dX0_nthPort_24 : decode cX0_nthPort 24 = .ok (.iload 4, 2) := by decide +kernel
theorem dX0_nthPort_26 : decode cX0_nthPort 26 = .ok (.ifCond .ne 6, 3) := by decide +kernel
theorem dX0_nthPort_29 : decode cX0_nthPort 29 = .ok (.iload 5, 2) := by decide +kernel
theorem dX0_nthPort_31 : decode cX0_nthPort 31 = .ok (.ireturn, 1) := by decide +kernel
theorem dX0_nthPort_32 : decode cX0_nthPort 32 = .ok (.iinc 4 (-1), 3) := by decide +kernel
theorem dX0_nthPort_35 : decode cX0_nthPort 35 = .ok (.iinc 5 1, 3) := by decide +kernel
theorem dX0_nthPort_38 : decode cX0_nthPort 38 = .ok (.goto (-32), 3) := by decide +kernel
theorem dX0_nthPort_41 : decode cX0_nthPort 41 = .ok (.iconst 0, 1) := by decide +kernel
theorem dX0_nthPort_42 : decode cX0_nthPort 42 = .ok (.ireturn, 1) := by decide +kernel
set_option maxRecDepth 20000 in
theorem ggX0_addAtomicPort_X0_bit : GoodIn wsX0_addAtomicPort wsX0_bit := goodIn_r _ [7] (by decide +kernel) (by decide +kernel)
set_option maxRecDepth 20000 in
theorem gX0_addAtomicPort_X0_bit : GoodIn wsX0_addAtomicPort (va_wsS RX0 96 yX0_bit wsX0_bit) := goodIn_app (goodIn_of _ (by decide +kernel)) ggX0_addAtomicPort_X0_bit
theorem dX0_addAtomicPort_0 : decode cX0_addAtomicPort 0 = .ok (.aload_n 0, 1) := by decide +kernel
theorem dX0_addAtomicPort_1 : decode cX0_addAtomicPort 1 = .ok (.getfield 26, 3) := by decide +kernel
theorem dX0_addAtomicPort_4 : decode cX0_addAtomicPort 4 = .ok (.iload_n 1, 1) := by decide +kernel
theorem dX0_addAtomicPort_5 : decode cX0_addAtomicPort 5 = .ok (.baload, 1) := by decide +kernel
theorem dX0_addAtomicPort_6 : decode cX0_addAtomicPort 6 = .ok (.ifCond .eq 19, 3) := by decide +kernel
theorem dX0_addAtomicPort_9 : decode cX0_addAtomicPort 9 = .ok (.aload_n 0, 1) := by decide +kernel
theorem dX0_addAtomicPort_10 : decode cX0_addAtomicPort 10 = .ok (.dup, 1) := by decide +kernel
theorem dX0_addAtomicPort_11 : decode cX0_addAtomicPort 11 = .ok (.getfield 146, 3) := by decide +kernel
theorem dX0_addAtomicPort_14 : decode cX0_addAtomicPort 14 = .ok (.iload_n 1, 1) := by decide +kernel
theorem dX0_addAtomicPort_15 : decode cX0_addAtomicPort 15 = .ok (.invokestatic 96, 3) := by decide +kernel
theorem dX0_addAtomicPort_18 : decode cX0_addAtomicPort 18 = .ok (.lor, 1) := by decide +kernel
theorem dX0_addAtomicPort_19 : decode cX0_addAtomicPort 19 = .ok (.putfield 146, 3) := by decide +kernel
theorem dX0_addAtomicPort_22 : decode cX0_addAtomicPort 22 = .ok (.goto 16, 3) := by decide +kernel
theorem dX0_addAtomicPort_25 : decode cX0_addAtomicPort 25 = .ok (.aload_n 0, 1) := by decide +kernel
theorem dX0_addAtomicPort_26 : decode cX0_addAtomicPort 26 = .ok (.dup, 1) := by decide +kernel
theorem dX0_addAtomicPort_27 : decode cX0_addAtomicPort 27 = .ok (.getfield 134, 3) := by decide +kernel
theorem dX0_addAtomicPort_30 : decode cX0_addAtomicPort 30 = .ok (.iload_n 1, 1) := by decide +kernel
theorem dX0_addAtomicPort_31 : decode cX0_addAtomicPort 31 = .ok (.invokestatic 96, 3) := by decide +kernel
theorem dX0_addAtomicPort_34 : decode cX0_addAtomicPort 34 = .ok (.lor, 1) := by decide +kernel
theorem dX0_addAtomicPort_35 : decode cX0_addAtomicPort 35 = .ok (.putfield 134, 3) := by decide +kernel
theorem dX0_addAtomicPort_38 : decode cX0_addAtomicPort 38 = .ok (.return_, 1) := by decide +kernel
set_option maxRecDepth 20000 in
theorem ggX0_endAtomic_X0_bit : GoodIn wsX0_endAtomic wsX0_bit := goodIn_r _ [10] (by decide +kernel) (by decide +kernel)
set_option maxRecDepth 20000 in
theorem gX0_endAtomic_X0_bit : GoodIn wsX0_endAtomic (va_wsS RX0 96 yX0_bit wsX0_bit) := goodIn_app (goodIn_of _ (by decide +kernel)) ggX0_endAtomic_X0_bit
theorem dX0_endAtomic_0 : decode cX0_endAtomic 0 = .ok (.aload_n 0, 1) := by decide +kernel
theorem dX0_endAtomic_1 : decode cX0_endAtomic 1 = .ok (.getfield 13, 3) := by decide +kernel
theorem dX0_endAtomic_4 : decode cX0_endAtomic 4 = .ok (.iload_n 1, 1) := by decide +kernel
theorem dX0_endAtomic_5 : decode cX0_endAtomic 5 = .ok (.iconst 1, 1) := by decide +kernel
theorem dX0_endAtomic_6 : decode cX0_endAtomic 6 = .ok (.bastore, 1) := by decide +kernel
theorem dX0_endAtomic_7 : decode cX0_endAtomic 7 = .ok (.iconst 1, 1) := by decide +kernel
theorem dX0_endAtomic_8 : decode cX0_endAtomic 8 = .ok (.istore_n 2, 1) := by decide +kernel
theorem dX0_endAtomic_9 : decode cX0_endAtomic 9 = .ok (.iload_n 2, 1) := by decide +kernel
theorem dX0_endAtomic_10 : decode cX0_endAtomic 10 = .ok (.aload_n 0, 1) := by decide +kernel
theorem dX0_endAtomic_11 : decode cX0_endAtomic 11 = .ok (.getfield 75, 3) := by decide +kernel
theorem dX0_endAtomic_14 : decode cX0_endAtomic 14 = .ok (.if_icmp .gt 53, 3) := by decide +kernel
theorem dX0_endAtomic_17 : decode cX0_endAtomic 17 = .ok (.aload_n 0, 1) := by decide +kernel
theorem dX0_endAtomic_18 : decode cX0_endAtomic 18 = .ok (.getfield 20, 3) := by decide +kernel
theorem dX0_endAtomic_21 : decode cX0_endAtomic 21 = .ok (.iload_n 2, 1) := by decide +kernel
theorem dX0_endAtomic_22 : decode cX0_endAtomic 22 = .ok (.iaload, 1) := by decide +kernel
theorem dX0_endAtomic_23 : decode cX0_endAtomic 23 = .ok (.iload_n 1, 1) := by decide +kernel
theorem dX0_endAtomic_24 : decode cX0_endAtomic 24 = .ok (.if_icmp .ne 37, 3) := by decide +kernel
theorem dX0_endAtomic_27 : decode cX0_endAtomic 27 = .ok (.aload_n 0, 1) := by decide +kernel
theorem dX0_endAtomic_28 : decode cX0_endAtomic 28 = .ok (.dup, 1) := by decide +kernel
theorem dX0_endAtomic_29 : decode cX0_endAtomic 29 = .ok (.getfield 146, 3) := by decide +kernel
theorem dX0_endAtomic_32 : decode cX0_endAtomic 32 = .ok (.iload_n 2, 1) := by decide +kernel
theorem dX0_endAtomic_33 : decode cX0_endAtomic 33 = .ok (.invokestatic 96, 3) := by decide +kernel
theorem dX0_endAtomic_36 : decode cX0_endAtomic 36 = .ok (.ldc2_w 142, 3) := by decide +kernel
theorem dX0_endAtomic_39 : decode cX0_endAtomic 39 = .ok (.lxor, 1) := by decide +kernel
theorem dX0_endAtomic_40 : decode cX0_endAtomic 40 = .ok (.land, 1) := by decide +kernel
theorem dX0_endAtomic_41 : decode cX0_endAtomic 41 = .ok (.putfield 146, 3) := by decide +kernel
theorem dX0_endAtomic_44 : decode cX0_endAtomic 44 = .ok (.aload_n 0, 1) := by decide +kernel
theorem dX0_endAtomic_45 : decode cX0_endAtomic 45 = .ok (.dup, 1) := by decide +kernel
theorem dX0_endAtomic_46 : decode cX0_endAtomic 46 = .ok (.getfield 134, 3) := by decide +kernel
theorem dX0_endAtomic_49 : decode cX0_endAtomic 49 = .ok (.iload_n 2, 1) := by decide +kernel
theorem dX0_endAtomic_50 : decode cX0_endAtomic 50 = .ok (.invokestatic 96, 3) := by decide +kernel
theorem dX0_endAtomic_53 : decode cX0_endAtomic 53 = .ok (.ldc2_w 142, 3) := by decide +kernel
theorem dX0_endAtomic_56 : decode cX0_endAtomic 56 = .ok (.lxor, 1) := by decide +kernel
theorem dX0_endAtomic_57 : decode cX0_endAtomic 57 = .ok (.land, 1) := by decide +kernel
theorem dX0_endAtomic_58 : decode cX0_endAtomic 58 = .ok (.putfield 134, 3) := by decide +kernel
theorem dX0_endAtomic_61 : decode cX0_endAtomic 61 = .ok (.iinc 2 1, 3) := by decide +kernel
theorem dX0_endAtomic_64 : decode cX0_endAtomic 64 = .ok (.goto (-55), 3) := by decide +kernel
theorem dX0_endAtomic_67 : decode cX0_endAtomic 67 = .ok (.return_, 1) := by decide +kernel
theorem dX0_isWay_0 : decode cX0_isWay 0 = .ok (.aload_n 0, 1) := by decide +kernel
theorem dX0_isWay_1 : decode cX0_isWay 1 = .ok (.getfield 20, 3) := by decide +kernel
theorem dX0_isWay_4 : decode cX0_isWay 4 = .ok (.iload_n 1, 1) := by decide +kernel
theorem dX0_isWay_5 : decode cX0_isWay 5 = .ok (.iaload, 1) := by decide +kernel
theorem dX0_isWay_6 : decode cX0_isWay 6 = .ok (.istore_n 3, 1) := by decide +kernel
theorem dX0_isWay_7 : decode cX0_isWay 7 = .ok (.aload_n 0, 1) := by decide +kernel
theorem dX0_isWay_8 : decode cX0_isWay 8 = .ok (.getfield 20, 3) := by decide +kernel
theorem dX0_isWay_11 : decode cX0_isWay 11 = .ok (.iload_n 2, 1) := by decide +kernel
theorem dX0_isWay_12 : decode cX0_isWay 12 = .ok (.iaload, 1) := by decide +kernel
theorem dX0_isWay_13 : decode cX0_isWay 13 = .ok (.istore 4, 2) := by decide +kernel
theorem dX0_isWay_15 : decode cX0_isWay 15 = .ok (.aload_n 0, 1) := by decide +kernel
theorem dX0_isWay_16 : decode cX0_isWay 16 = .ok (.getfield 26, 3) := by decide +kernel
theorem dX0_isWay_19 : decode cX0_isWay 19 = .ok (.iload_n 1, 1) := by decide +kernel
theorem dX0_isWay_20 : decode cX0_isWay 20 = .ok (.baload, 1) := by decide +kernel
theorem dX0_isWay_21 : decode cX0_isWay 21 = .ok (.ifCond .ne 29, 3) := by decide +kernel
theorem dX0_isWay_24 : decode cX0_isWay 24 = .ok (.aload_n 0, 1) := by decide +kernel
theorem dX0_isWay_25 : decode cX0_isWay 25 = .ok (.getfield 26, 3) := by decide +kernel
theorem dX0_isWay_28 : decode cX0_isWay 28 = .ok (.iload_n 2, 1) := by decide +kernel
theorem dX0_isWay_29 : decode cX0_isWay 29 = .ok (.baload, 1) := by decide +kernel
theorem dX0_isWay_30 : decode cX0_isWay 30 = .ok (.ifCond .ne 18, 3) := by decide +kernel
theorem dX0_isWay_33 : decode cX0_isWay 33 = .ok (.aload_n 0, 1) := by decide +kernel
theorem dX0_isWay_34 : decode cX0_isWay 34 = .ok (.getfield 9, 3) := by decide +kernel
theorem dX0_isWay_37 : decode cX0_isWay 37 = .ok (.iload 4, 2) := by decide +kernel
theorem dX0_isWay_39 : decode cX0_isWay 39 = .ok (.iaload, 1) := by decide +kernel
theorem dX0_isWay_40 : decode cX0_isWay 40 = .ok (.iload_n 3, 1) := by decide +kernel
theorem dX0_isWay_41 : decode cX0_isWay 41 = .ok (.if_icmp .ne 7, 3) := by decide +kernel
theorem dX0_isWay_44 : decode cX0_isWay 44 = .ok (.iconst 1, 1) := by decide +kernel
theorem dX0_isWay_45 : decode cX0_isWay 45 = .ok (.goto 4, 3) := by decide +kernel
theorem dX0_isWay_48 : decode cX0_isWay 48 = .ok (.iconst 0, 1) := by decide +kernel
theorem dX0_isWay_49 : decode cX0_isWay 49 = .ok (.ireturn, 1) := by decide +kernel
theorem dX0_isWay_50 : decode cX0_isWay 50 = .ok (.aload_n 0, 1) := by decide +kernel
theorem dX0_isWay_51 : decode cX0_isWay 51 = .ok (.getfield 26, 3) := by decide +kernel
theorem dX0_isWay_54 : decode cX0_isWay 54 = .ok (.iload_n 2, 1) := by decide +kernel
theorem dX0_isWay_55 : decode cX0_isWay 55 = .ok (.baload, 1) := by decide +kernel
theorem dX0_isWay_56 : decode cX0_isWay 56 = .ok (.ifCond .eq 20, 3) := by decide +kernel
theorem dX0_isWay_59 : decode cX0_isWay 59 = .ok (.aload_n 0, 1) := by decide +kernel
theorem dX0_isWay_60 : decode cX0_isWay 60 = .ok (.getfield 9, 3) := by decide +kernel
theorem dX0_isWay_63 : decode cX0_isWay 63 = .ok (.iload_n 3, 1) := by decide +kernel
theorem dX0_isWay_64 : decode cX0_isWay 64 = .ok (.iaload, 1) := by decide +kernel
theorem dX0_isWay_65 : decode cX0_isWay 65 = .ok (.iload 4, 2) := by decide +kernel
theorem dX0_isWay_67 : decode cX0_isWay 67 = .ok (.if_icmp .ne 7, 3) := by decide +kernel
theorem dX0_isWay_70 : decode cX0_isWay 70 = .ok (.iconst 1, 1) := by decide +kernel
theorem dX0_isWay_71 : decode cX0_isWay 71 = .ok (.goto 4, 3) := by decide +kernel
theorem dX0_isWay_74 : decode cX0_isWay 74 = .ok (.iconst 0, 1) := by decide +kernel
theorem dX0_isWay_75 : decode cX0_isWay 75 = .ok (.ireturn, 1) := by decide +kernel
theorem dX0_isWay_76 : decode cX0_isWay 76 = .ok (.iload_n 3, 1) := by decide +kernel
theorem dX0_isWay_77 : decode cX0_isWay 77 = .ok (.iload 4, 2) := by decide +kernel
theorem dX0_isWay_79 : decode cX0_isWay 79 = .ok (.if_icmp .eq 23, 3) := by decide +kernel
theorem dX0_isWay_82 : decode cX0_isWay 82 = .ok (.aload_n 0, 1) := by decide +kernel
theorem dX0_isWay_83 : decode cX0_isWay 83 = .ok (.getfield 9, 3) := by decide +kernel
theorem dX0_isWay_86 : decode cX0_isWay 86 = .ok (.iload_n 3, 1) := by decide +kernel
theorem dX0_isWay_87 : decode cX0_isWay 87 = .ok (.iaload, 1) := by decide +kernel
theorem dX0_isWay_88 : decode cX0_isWay 88 = .ok (.aload_n 0, 1) := by decide +kernel
theorem dX0_isWay_89 : decode cX0_isWay 89 = .ok (.getfield 9, 3) := by decide +kernel
theorem dX0_isWay_92 : decode cX0_isWay 92 = .ok (.iload 4, 2) := by decide +kernel
theorem dX0_isWay_94 : decode cX0_isWay 94 = .ok (.iaload, 1) := by decide +kernel
theorem dX0_isWay_95 : decode cX0_isWay 95 = .ok (.if_icmp .ne 7, 3) := by decide +kernel
theorem dX0_isWay_98 : decode cX0_isWay 98 = .ok (.iconst 1, 1) := by decide +kernel
theorem dX0_isWay_99 : decode cX0_isWay 99 = .ok (.goto 4, 3) := by decide +kernel
theorem dX0_isWay_102 : decode cX0_isWay 102 = .ok (.iconst 0, 1) := by decide +kernel
theorem dX0_isWay_103 : decode cX0_isWay 103 = .ok (.ireturn, 1) := by decide +kernel
set_option maxRecDepth 20000 in
theorem ggX0_spreadReach_X0_bit : GoodIn wsX0_spreadReach wsX0_bit := goodIn_r _ [6] (by decide +kernel) (by decide +kernel)
set_option maxRecDepth 20000 in
theorem gX0_spreadReach_X0_bit : GoodIn wsX0_spreadReach (va_wsS RX0 96 yX0_bit wsX0_bit) := goodIn_app (goodIn_of _ (by decide +kernel)) ggX0_spreadReach_X0_bit
set_option maxRecDepth 20000 in
theorem ggX0_spreadReach_X0_holds : GoodIn wsX0_spreadReach wsX0_holds := goodIn_r _ [9, 3, 4, 5, 6] (by decide +kernel) (by decide +kernel)
set_option maxRecDepth 20000 in
theorem gX0_spreadReach_X0_holds : GoodIn wsX0_spreadReach (va_wsS RX0 92 yX0_holds wsX0_holds) := goodIn_app (goodIn_of _ (by decide +kernel)) ggX0_spreadReach_X0_holds
theorem dX0_spreadReach_0 : decode cX0_spreadReach 0 = .ok (.aload_n 0, 1) := by decide +kernel
theorem dX0_spreadReach_1 : decode cX0_spreadReach 1 = .ok (.getfield 54, 3) := by decide +kernel
theorem dX0_spreadReach_4 : decode cX0_spreadReach 4 = .ok (.iload_n 2, 1) := by decide +kernel
theorem dX0_spreadReach_5 : decode cX0_spreadReach 5 = .ok (.laload, 1) := by decide +kernel
theorem dX0_spreadReach_6 : decode cX0_spreadReach 6 = .ok (.iload_n 2, 1) := by decide +kernel
theorem dX0_spreadReach_7 : decode cX0_spreadReach 7 = .ok (.invokestatic 96, 3) := by decide +kernel
theorem dX0_spreadReach_10 : decode cX0_spreadReach 10 = .ok (.lor, 1) := by decide +kernel
theorem dX0_spreadReach_11 : decode cX0_spreadReach 11 = .ok (.lstore_n 3, 1) := by decide +kernel
theorem dX0_spreadReach_12 : decode cX0_spreadReach 12 = .ok (.iconst 1, 1) := by decide +kernel
theorem dX0_spreadReach_13 : decode cX0_spreadReach 13 = .ok (.istore 5, 2) := by decide +kernel
theorem dX0_spreadReach_15 : decode cX0_spreadReach 15 = .ok (.iload 5, 2) := by decide +kernel
theorem dX0_spreadReach_17 : decode cX0_spreadReach 17 = .ok (.aload_n 0, 1) := by decide +kernel
theorem dX0_spreadReach_18 : decode cX0_spreadReach 18 = .ok (.getfield 75, 3) := by decide +kernel
theorem dX0_spreadReach_21 : decode cX0_spreadReach 21 = .ok (.if_icmp .gt 40, 3) := by decide +kernel
theorem dX0_spreadReach_24 : decode cX0_spreadReach 24 = .ok (.iload 5, 2) := by decide +kernel
theorem dX0_spreadReach_26 : decode cX0_spreadReach 26 = .ok (.iload_n 1, 1) := by decide +kernel
theorem dX0_spreadReach_27 : decode cX0_spreadReach 27 = .ok (.if_icmp .eq 17, 3) := by decide +kernel
theorem dX0_spreadReach_30 : decode cX0_spreadReach 30 = .ok (.aload_n 0, 1) := by decide +kernel
theorem dX0_spreadReach_31 : decode cX0_spreadReach 31 = .ok (.getfield 54, 3) := by decide +kernel
theorem dX0_spreadReach_34 : decode cX0_spreadReach 34 = .ok (.iload 5, 2) := by decide +kernel
theorem dX0_spreadReach_36 : decode cX0_spreadReach 36 = .ok (.laload, 1) := by decide +kernel
theorem dX0_spreadReach_37 : decode cX0_spreadReach 37 = .ok (.iload_n 1, 1) := by decide +kernel
theorem dX0_spreadReach_38 : decode cX0_spreadReach 38 = .ok (.invokestatic 92, 3) := by decide +kernel
theorem dX0_spreadReach_41 : decode cX0_spreadReach 41 = .ok (.ifCond .eq 14, 3) := by decide +kernel
theorem dX0_spreadReach_44 : decode cX0_spreadReach 44 = .ok (.aload_n 0, 1) := by decide +kernel
theorem dX0_spreadReach_45 : decode cX0_spreadReach 45 = .ok (.getfield 54, 3) := by decide +kernel
theorem dX0_spreadReach_48 : decode cX0_spreadReach 48 = .ok (.iload 5, 2) := by decide +kernel
theorem dX0_spreadReach_50 : decode cX0_spreadReach 50 = .ok (.dup2, 1) := by decide +kernel
theorem dX0_spreadReach_51 : decode cX0_spreadReach 51 = .ok (.laload, 1) := by decide +kernel
theorem dX0_spreadReach_52 : decode cX0_spreadReach 52 = .ok (.lload_n 3, 1) := by decide +kernel
theorem dX0_spreadReach_53 : decode cX0_spreadReach 53 = .ok (.lor, 1) := by decide +kernel
theorem dX0_spreadReach_54 : decode cX0_spreadReach 54 = .ok (.lastore, 1) := by decide +kernel
theorem dX0_spreadReach_55 : decode cX0_spreadReach 55 = .ok (.iinc 5 1, 3) := by decide +kernel
theorem dX0_spreadReach_58 : decode cX0_spreadReach 58 = .ok (.goto (-43), 3) := by decide +kernel
theorem dX0_spreadReach_61 : decode cX0_spreadReach 61 = .ok (.return_, 1) := by decide +kernel
set_option maxRecDepth 20000 in
theorem ggX0_flatFrom_X0_holds : GoodIn wsX0_flatFrom wsX0_holds := goodIn_r _ [7, 8, 9, 6, 10] (by decide +kernel) (by decide +kernel)
set_option maxRecDepth 20000 in
theorem gX0_flatFrom_X0_holds : GoodIn wsX0_flatFrom (va_wsS RX0 92 yX0_holds wsX0_holds) := goodIn_app (goodIn_of _ (by decide +kernel)) ggX0_flatFrom_X0_holds
theorem dX0_flatFrom_0 : decode cX0_flatFrom 0 = .ok (.aload_n 0, 1) := by decide +kernel
theorem dX0_flatFrom_1 : decode cX0_flatFrom 1 = .ok (.getfield 146, 3) := by decide +kernel
theorem dX0_flatFrom_4 : decode cX0_flatFrom 4 = .ok (.iload_n 1, 1) := by decide +kernel
theorem dX0_flatFrom_5 : decode cX0_flatFrom 5 = .ok (.invokestatic 92, 3) := by decide +kernel
theorem dX0_flatFrom_8 : decode cX0_flatFrom 8 = .ok (.ifCond .eq 17, 3) := by decide +kernel
theorem dX0_flatFrom_11 : decode cX0_flatFrom 11 = .ok (.aload_n 0, 1) := by decide +kernel
theorem dX0_flatFrom_12 : decode cX0_flatFrom 12 = .ok (.getfield 54, 3) := by decide +kernel
theorem dX0_flatFrom_15 : decode cX0_flatFrom 15 = .ok (.iload_n 1, 1) := by decide +kernel
theorem dX0_flatFrom_16 : decode cX0_flatFrom 16 = .ok (.laload, 1) := by decide +kernel
theorem dX0_flatFrom_17 : decode cX0_flatFrom 17 = .ok (.aload_n 0, 1) := by decide +kernel
theorem dX0_flatFrom_18 : decode cX0_flatFrom 18 = .ok (.getfield 134, 3) := by decide +kernel
theorem dX0_flatFrom_21 : decode cX0_flatFrom 21 = .ok (.land, 1) := by decide +kernel
theorem dX0_flatFrom_22 : decode cX0_flatFrom 22 = .ok (.goto 4, 3) := by decide +kernel
theorem dX0_flatFrom_25 : decode cX0_flatFrom 25 = .ok (.lconst 0, 1) := by decide +kernel
theorem dX0_flatFrom_26 : decode cX0_flatFrom 26 = .ok (.lreturn, 1) := by decide +kernel
set_option maxRecDepth 20000 in
theorem ggX0_flatSeconds_X0_flatFrom : GoodIn wsX0_flatSeconds wsX0_flatFrom := goodIn_r _ [6, 7, 8, 9, 10, 11, 5, 12, 13, 14, 15, 16, 17, 18, 19, 20, 21, 22, 23, 24, 25, 26, 27, 28, 29, 30, 31, 32, 33, 34] (by decide +kernel) (by decide +kernel)
set_option maxRecDepth 20000 in
theorem gX0_flatSeconds_X0_flatFrom : GoodIn wsX0_flatSeconds (wsV RX0 104 RX0 yX0_flatFrom wsX0_flatFrom) := goodIn_app (goodIn_of _ (by decide +kernel)) ggX0_flatSeconds_X0_flatFrom
theorem dX0_flatSeconds_0 : decode cX0_flatSeconds 0 = .ok (.lconst 0, 1) := by decide +kernel
theorem dX0_flatSeconds_1 : decode cX0_flatSeconds 1 = .ok (.lstore_n 1, 1) := by decide +kernel
theorem dX0_flatSeconds_2 : decode cX0_flatSeconds 2 = .ok (.iconst 1, 1) := by decide +kernel
theorem dX0_flatSeconds_3 : decode cX0_flatSeconds 3 = .ok (.istore_n 3, 1) := by decide +kernel
theorem dX0_flatSeconds_4 : decode cX0_flatSeconds 4 = .ok (.iload_n 3, 1) := by decide +kernel
theorem dX0_flatSeconds_5 : decode cX0_flatSeconds 5 = .ok (.aload_n 0, 1) := by decide +kernel
theorem dX0_flatSeconds_6 : decode cX0_flatSeconds 6 = .ok (.getfield 75, 3) := by decide +kernel
theorem dX0_flatSeconds_9 : decode cX0_flatSeconds 9 = .ok (.if_icmp .gt 17, 3) := by decide +kernel
theorem dX0_flatSeconds_12 : decode cX0_flatSeconds 12 = .ok (.lload_n 1, 1) := by decide +kernel
theorem dX0_flatSeconds_13 : decode cX0_flatSeconds 13 = .ok (.aload_n 0, 1) := by decide +kernel
theorem dX0_flatSeconds_14 : decode cX0_flatSeconds 14 = .ok (.iload_n 3, 1) := by decide +kernel
theorem dX0_flatSeconds_15 : decode cX0_flatSeconds 15 = .ok (.invokevirtual 104, 3) := by decide +kernel
theorem dX0_flatSeconds_18 : decode cX0_flatSeconds 18 = .ok (.lor, 1) := by decide +kernel
theorem dX0_flatSeconds_19 : decode cX0_flatSeconds 19 = .ok (.lstore_n 1, 1) := by decide +kernel
theorem dX0_flatSeconds_20 : decode cX0_flatSeconds 20 = .ok (.iinc 3 1, 3) := by decide +kernel
theorem dX0_flatSeconds_23 : decode cX0_flatSeconds 23 = .ok (.goto (-19), 3) := by decide +kernel
theorem dX0_flatSeconds_26 : decode cX0_flatSeconds 26 = .ok (.lload_n 1, 1) := by decide +kernel
theorem dX0_flatSeconds_27 : decode cX0_flatSeconds 27 = .ok (.lreturn, 1) := by decide +kernel
set_option maxRecDepth 20000 in
theorem ggX0_flatCountTo_X0_flatFrom : GoodIn wsX0_flatCountTo wsX0_flatFrom := goodIn_r _ [6, 7, 8, 9, 10, 11, 5, 12, 13, 14, 15, 16, 17, 18, 19, 20, 21, 22, 23, 24, 25, 26, 27, 28, 29, 30, 31, 32, 33, 34] (by decide +kernel) (by decide +kernel)
set_option maxRecDepth 20000 in
theorem gX0_flatCountTo_X0_flatFrom : GoodIn wsX0_flatCountTo (wsV RX0 104 RX0 yX0_flatFrom wsX0_flatFrom) := goodIn_app (goodIn_of _ (by decide +kernel)) ggX0_flatCountTo_X0_flatFrom
set_option maxRecDepth 20000 in
theorem ggX0_flatCountTo_X0_holds : GoodIn wsX0_flatCountTo wsX0_holds := goodIn_r _ [12, 13, 14, 5, 15] (by decide +kernel) (by decide +kernel)
set_option maxRecDepth 20000 in
theorem gX0_flatCountTo_X0_holds : GoodIn wsX0_flatCountTo (va_wsS RX0 92 yX0_holds wsX0_holds) := goodIn_app (goodIn_of _ (by decide +kernel)) ggX0_flatCountTo_X0_holds
theorem dX0_flatCountTo_0 : decode cX0_flatCountTo 0 = .ok (.iconst 0, 1) := by decide +kernel
theorem dX0_flatCountTo_1 : decode cX0_flatCountTo 1 = .ok (.istore_n 2, 1) := by decide +kernel
theorem dX0_flatCountTo_2 : decode cX0_flatCountTo 2 = .ok (.iconst 1, 1) := by decide +kernel
theorem dX0_flatCountTo_3 : decode cX0_flatCountTo 3 = .ok (.istore_n 3, 1) := by decide +kernel
theorem dX0_flatCountTo_4 : decode cX0_flatCountTo 4 = .ok (.iload_n 3, 1) := by decide +kernel
theorem dX0_flatCountTo_5 : decode cX0_flatCountTo 5 = .ok (.aload_n 0, 1) := by decide +kernel
theorem dX0_flatCountTo_6 : decode cX0_flatCountTo 6 = .ok (.getfield 75, 3) := by decide +kernel
theorem dX0_flatCountTo_9 : decode cX0_flatCountTo 9 = .ok (.if_icmp .gt 24, 3) := by decide +kernel
theorem dX0_flatCountTo_12 : decode cX0_flatCountTo 12 = .ok (.aload_n 0, 1) := by decide +kernel
theorem dX0_flatCountTo_13 : decode cX0_flatCountTo 13 = .ok (.iload_n 3, 1) := by decide +kernel
theorem dX0_flatCountTo_14 : decode cX0_flatCountTo 14 = .ok (.invokevirtual 104, 3) := by decide +kernel
theorem dX0_flatCountTo_17 : decode cX0_flatCountTo 17 = .ok (.iload_n 1, 1) := by decide +kernel
theorem dX0_flatCountTo_18 : decode cX0_flatCountTo 18 = .ok (.invokestatic 92, 3) := by decide +kernel
theorem dX0_flatCountTo_21 : decode cX0_flatCountTo 21 = .ok (.ifCond .eq 6, 3) := by decide +kernel
theorem dX0_flatCountTo_24 : decode cX0_flatCountTo 24 = .ok (.iinc 2 1, 3) := by decide +kernel
theorem dX0_flatCountTo_27 : decode cX0_flatCountTo 27 = .ok (.iinc 3 1, 3) := by decide +kernel
theorem dX0_flatCountTo_30 : decode cX0_flatCountTo 30 = .ok (.goto (-26), 3) := by decide +kernel
theorem dX0_flatCountTo_33 : decode cX0_flatCountTo 33 = .ok (.iload_n 2, 1) := by decide +kernel
theorem dX0_flatCountTo_34 : decode cX0_flatCountTo 34 = .ok (.ireturn, 1) := by decide +kernel
theorem dX0_isPortRule_0 : decode cX0_isPortRule 0 = .ok (.iload_n 0, 1) := by decide +kernel
theorem dX0_isPortRule_1 : decode cX0_isPortRule 1 = .ok (.iconst 5, 1) := by decide +kernel
theorem dX0_isPortRule_2 : decode cX0_isPortRule 2 = .ok (.if_icmp .lt 13, 3) := by decide +kernel
theorem dX0_isPortRule_5 : decode cX0_isPortRule 5 = .ok (.iload_n 0, 1) := by decide +kernel
theorem dX0_isPortRule_6 : decode cX0_isPortRule 6 = .ok (.bipush 8, 2) := by decide +kernel
theorem dX0_isPortRule_8 : decode cX0_isPortRule 8 = .ok (.if_icmp .gt 7, 3) := by decide +kernel
theorem dX0_isPortRule_11 : decode cX0_isPortRule 11 = .ok (.iconst 1, 1) := by decide +kernel
theorem dX0_isPortRule_12 : decode cX0_isPortRule 12 = .ok (.goto 4, 3) := by decide +kernel
theorem dX0_isPortRule_15 : decode cX0_isPortRule 15 = .ok (.iconst 0, 1) := by decide +kernel
theorem dX0_isPortRule_16 : decode cX0_isPortRule 16 = .ok (.ireturn, 1) := by decide +kernel
set_option maxRecDepth 20000 in
theorem ggX0_firstBadPort_X0_holds : GoodIn wsX0_firstBadPort wsX0_holds := goodIn_r _ [6, 7, 8, 5, 9] (by decide +kernel) (by decide +kernel)
set_option maxRecDepth 20000 in
theorem gX0_firstBadPort_X0_holds : GoodIn wsX0_firstBadPort (va_wsS RX0 92 yX0_holds wsX0_holds) := goodIn_app (goodIn_of _ (by decide +kernel)) ggX0_firstBadPort_X0_holds
set_option maxRecDepth 20000 in
theorem ggX0_firstBadPort_X0_portBreaks : GoodIn wsX0_firstBadPort wsX0_portBreaks := goodIn_r _ [13, 14, 15, 16, 17, 18, 19, 5, 20, 1, 21, 22, 23, 24, 25, 26, 2, 3, 4, 6, 7, 8, 9, 27, 28, 29, 30, 31, 32, 33, 34, 35, 36, 37, 38, 39, 40, 41, 42, 43, 44, 45] (by decide +kernel) (by decide +kernel)
set_option maxRecDepth 20000 in
theorem gX0_firstBadPort_X0_portBreaks : GoodIn wsX0_firstBadPort (wsV RX0 149 RX0 yX0_portBreaks wsX0_portBreaks) := goodIn_app (goodIn_of _ (by decide +kernel)) ggX0_firstBadPort_X0_portBreaks
theorem dX0_firstBadPort_0 : decode cX0_firstBadPort 0 = .ok (.iconst 1, 1) := by decide +kernel
theorem dX0_firstBadPort_1 : decode cX0_firstBadPort 1 = .ok (.istore_n 2, 1) := by decide +kernel
theorem dX0_firstBadPort_2 : decode cX0_firstBadPort 2 = .ok (.iload_n 2, 1) := by decide +kernel
theorem dX0_firstBadPort_3 : decode cX0_firstBadPort 3 = .ok (.aload_n 0, 1) := by decide +kernel
theorem dX0_firstBadPort_4 : decode cX0_firstBadPort 4 = .ok (.getfield 75, 3) := by decide +kernel
theorem dX0_firstBadPort_7 : decode cX0_firstBadPort 7 = .ok (.if_icmp .gt 31, 3) := by decide +kernel
theorem dX0_firstBadPort_10 : decode cX0_firstBadPort 10 = .ok (.aload_n 0, 1) := by decide +kernel
theorem dX0_firstBadPort_11 : decode cX0_firstBadPort 11 = .ok (.getfield 134, 3) := by decide +kernel
theorem dX0_firstBadPort_14 : decode cX0_firstBadPort 14 = .ok (.iload_n 2, 1) := by decide +kernel
theorem dX0_firstBadPort_15 : decode cX0_firstBadPort 15 = .ok (.invokestatic 92, 3) := by decide +kernel
theorem dX0_firstBadPort_18 : decode cX0_firstBadPort 18 = .ok (.ifCond .eq 14, 3) := by decide +kernel
theorem dX0_firstBadPort_21 : decode cX0_firstBadPort 21 = .ok (.aload_n 0, 1) := by decide +kernel
theorem dX0_firstBadPort_22 : decode cX0_firstBadPort 22 = .ok (.iload_n 1, 1) := by decide +kernel
theorem dX0_firstBadPort_23 : decode cX0_firstBadPort 23 = .ok (.iload_n 2, 1) := by decide +kernel
theorem dX0_firstBadPort_24 : decode cX0_firstBadPort 24 = .ok (.invokevirtual 149, 3) := by decide +kernel
theorem dX0_firstBadPort_27 : decode cX0_firstBadPort 27 = .ok (.ifCond .eq 5, 3) := by decide +kernel
theorem dX0_firstBadPort_30 : decode cX0_firstBadPort 30 = .ok (.iload_n 2, 1) := by decide +kernel
theorem dX0_firstBadPort_31 : decode cX0_firstBadPort 31 = .ok (.ireturn, 1) := by decide +kernel
theorem dX0_firstBadPort_32 : decode cX0_firstBadPort 32 = .ok (.iinc 2 1, 3) := by decide +kernel
theorem dX0_firstBadPort_35 : decode cX0_firstBadPort 35 = .ok (.goto (-33), 3) := by decide +kernel
theorem dX0_firstBadPort_38 : decode cX0_firstBadPort 38 = .ok (.iconst 0, 1) := by decide +kernel
theorem dX0_firstBadPort_39 : decode cX0_firstBadPort 39 = .ok (.ireturn, 1) := by decide +kernel
set_option maxRecDepth 20000 in
theorem ggX0_portBreaks_X0_flatCountTo : GoodIn wsX0_portBreaks wsX0_flatCountTo := goodIn_r _ [8, 9, 10, 11, 12, 7, 13, 14, 15, 16, 17, 18, 19, 20, 21, 22, 23, 24, 25, 26, 27, 28, 29, 30, 31, 32, 33, 34, 35, 36, 37, 38, 39, 40, 41] (by decide +kernel) (by decide +kernel)
set_option maxRecDepth 20000 in
theorem gX0_portBreaks_X0_flatCountTo : GoodIn wsX0_portBreaks (wsV RX0 152 RX0 yX0_flatCountTo wsX0_flatCountTo) := goodIn_app (goodIn_of _ (by decide +kernel)) ggX0_portBreaks_X0_flatCountTo
theorem dX0_portBreaks_0 : decode cX0_portBreaks 0 = .ok (.aload_n 0, 1) := by decide +kernel
theorem dX0_portBreaks_1 : decode cX0_portBreaks 1 = .ok (.getfield 23, 3) := by decide +kernel
theorem dX0_portBreaks_4 : decode cX0_portBreaks 4 = .ok (.iload_n 2, 1) := by decide +kernel
theorem dX0_portBreaks_5 : decode cX0_portBreaks 5 = .ok (.iaload, 1) := by decide +kernel
theorem dX0_portBreaks_6 : decode cX0_portBreaks 6 = .ok (.iconst 2, 1) := by decide +kernel
theorem dX0_portBreaks_7 : decode cX0_portBreaks 7 = .ok (.if_icmp .ne 7, 3) := by decide +kernel
theorem dX0_portBreaks_10 : decode cX0_portBreaks 10 = .ok (.iconst 1, 1) := by decide +kernel
theorem dX0_portBreaks_11 : decode cX0_portBreaks 11 = .ok (.goto 4, 3) := by decide +kernel
theorem dX0_portBreaks_14 : decode cX0_portBreaks 14 = .ok (.iconst 0, 1) := by decide +kernel
theorem dX0_portBreaks_15 : decode cX0_portBreaks 15 = .ok (.istore_n 3, 1) := by decide +kernel
theorem dX0_portBreaks_16 : decode cX0_portBreaks 16 = .ok (.iload_n 1, 1) := by decide +kernel
theorem dX0_portBreaks_17 : decode cX0_portBreaks 17 = .ok (.tableswitch 91 5 7 #[27, 54, 72], 27) := by decide +kernel
theorem dX0_portBreaks_44 : decode cX0_portBreaks 44 = .ok (.iload_n 3, 1) := by decide +kernel
theorem dX0_portBreaks_45 : decode cX0_portBreaks 45 = .ok (.ifCond .ne 24, 3) := by decide +kernel
theorem dX0_portBreaks_48 : decode cX0_portBreaks 48 = .ok (.aload_n 0, 1) := by decide +kernel
theorem dX0_portBreaks_49 : decode cX0_portBreaks 49 = .ok (.getfield 42, 3) := by decide +kernel
theorem dX0_portBreaks_52 : decode cX0_portBreaks 52 = .ok (.iload_n 2, 1) := by decide +kernel
theorem dX0_portBreaks_53 : decode cX0_portBreaks 53 = .ok (.baload, 1) := by decide +kernel
theorem dX0_portBreaks_54 : decode cX0_portBreaks 54 = .ok (.ifCond .ne 15, 3) := by decide +kernel
theorem dX0_portBreaks_57 : decode cX0_portBreaks 57 = .ok (.aload_n 0, 1) := by decide +kernel
theorem dX0_portBreaks_58 : decode cX0_portBreaks 58 = .ok (.iload_n 2, 1) := by decide +kernel
theorem dX0_portBreaks_59 : decode cX0_portBreaks 59 = .ok (.invokevirtual 152, 3) := by decide +kernel
theorem dX0_portBreaks_62 : decode cX0_portBreaks 62 = .ok (.ifCond .ne 7, 3) := by decide +kernel
theorem dX0_portBreaks_65 : decode cX0_portBreaks 65 = .ok (.iconst 1, 1) := by decide +kernel
theorem dX0_portBreaks_66 : decode cX0_portBreaks 66 = .ok (.goto 4, 3) := by decide +kernel
theorem dX0_portBreaks_69 : decode cX0_portBreaks 69 = .ok (.iconst 0, 1) := by decide +kernel
theorem dX0_portBreaks_70 : decode cX0_portBreaks 70 = .ok (.ireturn, 1) := by decide +kernel
theorem dX0_portBreaks_71 : decode cX0_portBreaks 71 = .ok (.iload_n 3, 1) := by decide +kernel
theorem dX0_portBreaks_72 : decode cX0_portBreaks 72 = .ok (.ifCond .eq 15, 3) := by decide +kernel
theorem dX0_portBreaks_75 : decode cX0_portBreaks 75 = .ok (.aload_n 0, 1) := by decide +kernel
theorem dX0_portBreaks_76 : decode cX0_portBreaks 76 = .ok (.iload_n 2, 1) := by decide +kernel
theorem dX0_portBreaks_77 : decode cX0_portBreaks 77 = .ok (.invokevirtual 152, 3) := by decide +kernel
theorem dX0_portBreaks_80 : decode cX0_portBreaks 80 = .ok (.ifCond .ne 7, 3) := by decide +kernel
theorem dX0_portBreaks_83 : decode cX0_portBreaks 83 = .ok (.iconst 1, 1) := by decide +kernel
theorem dX0_portBreaks_84 : decode cX0_portBreaks 84 = .ok (.goto 4, 3) := by decide +kernel
theorem dX0_portBreaks_87 : decode cX0_portBreaks 87 = .ok (.iconst 0, 1) := by decide +kernel
theorem dX0_portBreaks_88 : decode cX0_portBreaks 88 = .ok (.ireturn, 1) := by decide +kernel
theorem dX0_portBreaks_89 : decode cX0_portBreaks 89 = .ok (.iload_n 3, 1) := by decide +kernel
theorem dX0_portBreaks_90 : decode cX0_portBreaks 90 = .ok (.ifCond .eq 16, 3) := by decide +kernel
theorem dX0_portBreaks_93 : decode cX0_portBreaks 93 = .ok (.aload_n 0, 1) := by decide +kernel
theorem dX0_portBreaks_94 : decode cX0_portBreaks 94 = .ok (.iload_n 2, 1) := by decide +kernel
theorem dX0_portBreaks_95 : decode cX0_portBreaks 95 = .ok (.invokevirtual 152, 3) := by decide +kernel
theorem dX0_portBreaks_98 : decode cX0_portBreaks 98 = .ok (.iconst 1, 1) := by decide +kernel
theorem dX0_portBreaks_99 : decode cX0_portBreaks 99 = .ok (.if_icmp .le 7, 3) := by decide +kernel
theorem dX0_portBreaks_102 : decode cX0_portBreaks 102 = .ok (.iconst 1, 1) := by decide +kernel
theorem dX0_portBreaks_103 : decode cX0_portBreaks 103 = .ok (.goto 4, 3) := by decide +kernel
theorem dX0_portBreaks_106 : decode cX0_portBreaks 106 = .ok (.iconst 0, 1) := by decide +kernel
theorem dX0_portBreaks_107 : decode cX0_portBreaks 107 = .ok (.ireturn, 1) := by decide +kernel
theorem dX0_portBreaks_108 : decode cX0_portBreaks 108 = .ok (.aload_n 0, 1) := by decide +kernel
theorem dX0_portBreaks_109 : decode cX0_portBreaks 109 = .ok (.getfield 23, 3) := by decide +kernel
theorem dX0_portBreaks_112 : decode cX0_portBreaks 112 = .ok (.iload_n 2, 1) := by decide +kernel
theorem dX0_portBreaks_113 : decode cX0_portBreaks 113 = .ok (.iaload, 1) := by decide +kernel
theorem dX0_portBreaks_114 : decode cX0_portBreaks 114 = .ok (.iconst 1, 1) := by decide +kernel
theorem dX0_portBreaks_115 : decode cX0_portBreaks 115 = .ok (.if_icmp .ne 16, 3) := by decide +kernel
theorem dX0_portBreaks_118 : decode cX0_portBreaks 118 = .ok (.aload_n 0, 1) := by decide +kernel
theorem dX0_portBreaks_119 : decode cX0_portBreaks 119 = .ok (.getfield 48, 3) := by decide +kernel
theorem dX0_portBreaks_122 : decode cX0_portBreaks 122 = .ok (.iload_n 2, 1) := by decide +kernel
theorem dX0_portBreaks_123 : decode cX0_portBreaks 123 = .ok (.iaload, 1) := by decide +kernel
theorem dX0_portBreaks_124 : decode cX0_portBreaks 124 = .ok (.ifCond .ne 7, 3) := by decide +kernel
theorem dX0_portBreaks_127 : decode cX0_portBreaks 127 = .ok (.iconst 1, 1) := by decide +kernel
theorem dX0_portBreaks_128 : decode cX0_portBreaks 128 = .ok (.goto 4, 3) := by decide +kernel
theorem dX0_portBreaks_131 : decode cX0_portBreaks 131 = .ok (.iconst 0, 1) := by decide +kernel
theorem dX0_portBreaks_132 : decode cX0_portBreaks 132 = .ok (.ireturn, 1) := by decide +kernel
set_option maxRecDepth 20000 in
theorem ggX0_firstBadConnector_X0_flatFrom : GoodIn wsX0_firstBadConnector wsX0_flatFrom := goodIn_r _ [6, 7, 8, 9, 10, 11, 5, 12, 13, 14, 15, 39, 40, 41, 42, 43, 44, 45, 46, 47, 48, 49, 50, 51, 52, 53, 54, 55, 56, 57] (by decide +kernel) (by decide +kernel)
set_option maxRecDepth 20000 in
theorem gX0_firstBadConnector_X0_flatFrom : GoodIn wsX0_firstBadConnector (wsV RX0 104 RX0 yX0_flatFrom wsX0_flatFrom) := goodIn_app (goodIn_of _ (by decide +kernel)) ggX0_firstBadConnector_X0_flatFrom
set_option maxRecDepth 20000 in
theorem ggX0_firstBadConnector_X0_holds : GoodIn wsX0_firstBadConnector wsX0_holds := goodIn_r _ [12, 13, 14, 5, 15] (by decide +kernel) (by decide +kernel)
set_option maxRecDepth 20000 in
theorem gX0_firstBadConnector_X0_holds : GoodIn wsX0_firstBadConnector (va_wsS RX0 92 yX0_holds wsX0_holds) := goodIn_app (goodIn_of _ (by decide +kernel)) ggX0_firstBadConnector_X0_holds
set_option maxRecDepth 20000 in
theorem ggX0_firstBadConnector_X0_connectorBreaks : GoodIn wsX0_firstBadConnector wsX0_connectorBreaks := goodIn_r _ [19, 20, 21, 22, 23, 24, 25, 26, 5, 27, 28, 29, 30, 31, 32, 33, 34, 35, 36, 37, 38, 39, 40, 41, 42, 43, 44, 45, 46, 47, 48, 49, 50, 51, 52, 53, 54, 55, 56, 57] (by decide +kernel) (by decide +kernel)
set_option maxRecDepth 20000 in
theorem gX0_firstBadConnector_X0_connectorBreaks : GoodIn wsX0_firstBadConnector (wsV RX0 155 RX0 yX0_connectorBreaks wsX0_connectorBreaks) := goodIn_app (goodIn_of _ (by decide +kernel)) ggX0_firstBadConnector_X0_connectorBreaks
theorem dX0_firstBadConnector_0 : decode cX0_firstBadConnector 0 = .ok (.iconst 1, 1) := by decide +kernel
theorem dX0_firstBadConnector_1 : decode cX0_firstBadConnector 1 = .ok (.istore_n 2, 1) := by decide +kernel
theorem dX0_firstBadConnector_2 : decode cX0_firstBadConnector 2 = .ok (.iload_n 2, 1) := by decide +kernel
theorem dX0_firstBadConnector_3 : decode cX0_firstBadConnector 3 = .ok (.aload_n 0, 1) := by decide +kernel
theorem dX0_firstBadConnector_4 : decode cX0_firstBadConnector 4 = .ok (.getfield 75, 3) := by decide +kernel
theorem dX0_firstBadConnector_7 : decode cX0_firstBadConnector 7 = .ok (.if_icmp .gt 56, 3) := by decide +kernel
theorem dX0_firstBadConnector_10 : decode cX0_firstBadConnector 10 = .ok (.aload_n 0, 1) := by decide +kernel
theorem dX0_firstBadConnector_11 : decode cX0_firstBadConnector 11 = .ok (.iload_n 2, 1) := by decide +kernel
theorem dX0_firstBadConnector_12 : decode cX0_firstBadConnector 12 = .ok (.invokevirtual 104, 3) := by decide +kernel
theorem dX0_firstBadConnector_15 : decode cX0_firstBadConnector 15 = .ok (.lstore_n 3, 1) := by decide +kernel
theorem dX0_firstBadConnector_16 : decode cX0_firstBadConnector 16 = .ok (.iconst 1, 1) := by decide +kernel
theorem dX0_firstBadConnector_17 : decode cX0_firstBadConnector 17 = .ok (.istore 5, 2) := by decide +kernel
theorem dX0_firstBadConnector_19 : decode cX0_firstBadConnector 19 = .ok (.iload 5, 2) := by decide +kernel
theorem dX0_firstBadConnector_21 : decode cX0_firstBadConnector 21 = .ok (.aload_n 0, 1) := by decide +kernel
theorem dX0_firstBadConnector_22 : decode cX0_firstBadConnector 22 = .ok (.getfield 75, 3) := by decide +kernel
theorem dX0_firstBadConnector_25 : decode cX0_firstBadConnector 25 = .ok (.if_icmp .gt 32, 3) := by decide +kernel
theorem dX0_firstBadConnector_28 : decode cX0_firstBadConnector 28 = .ok (.lload_n 3, 1) := by decide +kernel
theorem dX0_firstBadConnector_29 : decode cX0_firstBadConnector 29 = .ok (.iload 5, 2) := by decide +kernel
theorem dX0_firstBadConnector_31 : decode cX0_firstBadConnector 31 = .ok (.invokestatic 92, 3) := by decide +kernel
theorem dX0_firstBadConnector_34 : decode cX0_firstBadConnector 34 = .ok (.ifCond .eq 17, 3) := by decide +kernel
theorem dX0_firstBadConnector_37 : decode cX0_firstBadConnector 37 = .ok (.aload_n 0, 1) := by decide +kernel
theorem dX0_firstBadConnector_38 : decode cX0_firstBadConnector 38 = .ok (.iload_n 1, 1) := by decide +kernel
theorem dX0_firstBadConnector_39 : decode cX0_firstBadConnector 39 = .ok (.iload_n 2, 1) := by decide +kernel
theorem dX0_firstBadConnector_40 : decode cX0_firstBadConnector 40 = .ok (.iload 5, 2) := by decide +kernel
theorem dX0_firstBadConnector_42 : decode cX0_firstBadConnector 42 = .ok (.invokevirtual 155, 3) := by decide +kernel
theorem dX0_firstBadConnector_45 : decode cX0_firstBadConnector 45 = .ok (.ifCond .eq 6, 3) := by decide +kernel
theorem dX0_firstBadConnector_48 : decode cX0_firstBadConnector 48 = .ok (.iload 5, 2) := by decide +kernel
theorem dX0_firstBadConnector_50 : decode cX0_firstBadConnector 50 = .ok (.ireturn, 1) := by decide +kernel
theorem dX0_firstBadConnector_51 : decode cX0_firstBadConnector 51 = .ok (.iinc 5 1, 3) := by decide +kernel
theorem dX0_firstBadConnector_54 : decode cX0_firstBadConnector 54 = .ok (.goto (-35), 3) := by decide +kernel
theorem dX0_firstBadConnector_57 : decode cX0_firstBadConnector 57 = .ok (.iinc 2 1, 3) := by decide +kernel
theorem dX0_firstBadConnector_60 : decode cX0_firstBadConnector 60 = .ok (.goto (-58), 3) := by decide +kernel
theorem dX0_firstBadConnector_63 : decode cX0_firstBadConnector 63 = .ok (.iconst 0, 1) := by decide +kernel
theorem dX0_firstBadConnector_64 : decode cX0_firstBadConnector 64 = .ok (.ireturn, 1) := by decide +kernel
set_option maxRecDepth 20000 in
theorem ggX0_connectorBreaks_X0_isExactScaling : GoodIn wsX0_connectorBreaks wsX0_isExactScaling := goodIn_r _ [9, 10, 11, 21, 22, 23, 24, 25, 26, 27, 28, 29, 30, 31, 32, 33, 34, 35, 36, 37, 38, 39] (by decide +kernel) (by decide +kernel)
set_option maxRecDepth 20000 in
theorem gX0_connectorBreaks_X0_isExactScaling : GoodIn wsX0_connectorBreaks (wsV RX0 159 RX0 yX0_isExactScaling wsX0_isExactScaling) := goodIn_app (goodIn_of _ (by decide +kernel)) ggX0_connectorBreaks_X0_isExactScaling
set_option maxRecDepth 20000 in
theorem ggX0_connectorBreaks_X0_servesVersion : GoodIn wsX0_connectorBreaks wsX0_servesVersion := goodIn_r _ [15, 2, 21, 22, 23, 24, 25, 26, 27, 28, 29, 30, 31, 32, 33, 34, 35, 36, 37, 38, 39] (by decide +kernel) (by decide +kernel)
set_option maxRecDepth 20000 in
theorem gX0_connectorBreaks_X0_servesVersion : GoodIn wsX0_connectorBreaks (wsV RX0 162 RX0 yX0_servesVersion wsX0_servesVersion) := goodIn_app (goodIn_of _ (by decide +kernel)) ggX0_connectorBreaks_X0_servesVersion
set_option maxRecDepth 20000 in
theorem ggX0_connectorBreaks_X0_managesMode : GoodIn wsX0_connectorBreaks wsX0_managesMode := goodIn_r _ [19, 20, 21, 22, 23, 24, 25, 26, 27, 28, 29, 30, 31, 32, 33, 34, 35, 36, 37, 38, 39] (by decide +kernel) (by decide +kernel)
set_option maxRecDepth 20000 in
theorem gX0_connectorBreaks_X0_managesMode : GoodIn wsX0_connectorBreaks (wsV RX0 165 RX0 yX0_managesMode wsX0_managesMode) := goodIn_app (goodIn_of _ (by decide +kernel)) ggX0_connectorBreaks_X0_managesMode
theorem dX0_connectorBreaks_0 : decode cX0_connectorBreaks 0 = .ok (.iload_n 1, 1) := by decide +kernel
theorem dX0_connectorBreaks_1 : decode cX0_connectorBreaks 1 = .ok (.tableswitch 141 1 4 #[31, 70, 91, 116], 31) := by decide +kernel
theorem dX0_connectorBreaks_32 : decode cX0_connectorBreaks 32 = .ok (.aload_n 0, 1) := by decide +kernel
theorem dX0_connectorBreaks_33 : decode cX0_connectorBreaks 33 = .ok (.getfield 29, 3) := by decide +kernel
theorem dX0_connectorBreaks_36 : decode cX0_connectorBreaks 36 = .ok (.iload_n 2, 1) := by decide +kernel
theorem dX0_connectorBreaks_37 : decode cX0_connectorBreaks 37 = .ok (.iaload, 1) := by decide +kernel
theorem dX0_connectorBreaks_38 : decode cX0_connectorBreaks 38 = .ok (.iconst (-1), 1) := by decide +kernel
theorem dX0_connectorBreaks_39 : decode cX0_connectorBreaks 39 = .ok (.if_icmp .ne 7, 3) := by decide +kernel
theorem dX0_connectorBreaks_42 : decode cX0_connectorBreaks 42 = .ok (.iconst 1, 1) := by decide +kernel
theorem dX0_connectorBreaks_43 : decode cX0_connectorBreaks 43 = .ok (.goto 4, 3) := by decide +kernel
theorem dX0_connectorBreaks_46 : decode cX0_connectorBreaks 46 = .ok (.iconst 0, 1) := by decide +kernel
theorem dX0_connectorBreaks_47 : decode cX0_connectorBreaks 47 = .ok (.aload_n 0, 1) := by decide +kernel
theorem dX0_connectorBreaks_48 : decode cX0_connectorBreaks 48 = .ok (.getfield 29, 3) := by decide +kernel
theorem dX0_connectorBreaks_51 : decode cX0_connectorBreaks 51 = .ok (.iload_n 3, 1) := by decide +kernel
theorem dX0_connectorBreaks_52 : decode cX0_connectorBreaks 52 = .ok (.iaload, 1) := by decide +kernel
theorem dX0_connectorBreaks_53 : decode cX0_connectorBreaks 53 = .ok (.iconst (-1), 1) := by decide +kernel
theorem dX0_connectorBreaks_54 : decode cX0_connectorBreaks 54 = .ok (.if_icmp .ne 7, 3) := by decide +kernel
theorem dX0_connectorBreaks_57 : decode cX0_connectorBreaks 57 = .ok (.iconst 1, 1) := by decide +kernel
theorem dX0_connectorBreaks_58 : decode cX0_connectorBreaks 58 = .ok (.goto 4, 3) := by decide +kernel
theorem dX0_connectorBreaks_61 : decode cX0_connectorBreaks 61 = .ok (.iconst 0, 1) := by decide +kernel
theorem dX0_connectorBreaks_62 : decode cX0_connectorBreaks 62 = .ok (.if_icmp .eq 7, 3) := by decide +kernel
theorem dX0_connectorBreaks_65 : decode cX0_connectorBreaks 65 = .ok (.iconst 1, 1) := by decide +kernel
theorem dX0_connectorBreaks_66 : decode cX0_connectorBreaks 66 = .ok (.goto 4, 3) := by decide +kernel
theorem dX0_connectorBreaks_69 : decode cX0_connectorBreaks 69 = .ok (.iconst 0, 1) := by decide +kernel
theorem dX0_connectorBreaks_70 : decode cX0_connectorBreaks 70 = .ok (.ireturn, 1) := by decide +kernel
theorem dX0_connectorBreaks_71 : decode cX0_connectorBreaks 71 = .ok (.aload_n 0, 1) := by decide +kernel
theorem dX0_connectorBreaks_72 : decode cX0_connectorBreaks 72 = .ok (.getfield 29, 3) := by decide +kernel
theorem dX0_connectorBreaks_75 : decode cX0_connectorBreaks 75 = .ok (.iload_n 2, 1) := by decide +kernel
theorem dX0_connectorBreaks_76 : decode cX0_connectorBreaks 76 = .ok (.iaload, 1) := by decide +kernel
theorem dX0_connectorBreaks_77 : decode cX0_connectorBreaks 77 = .ok (.aload_n 0, 1) := by decide +kernel
theorem dX0_connectorBreaks_78 : decode cX0_connectorBreaks 78 = .ok (.getfield 29, 3) := by decide +kernel
theorem dX0_connectorBreaks_81 : decode cX0_connectorBreaks 81 = .ok (.iload_n 3, 1) := by decide +kernel
theorem dX0_connectorBreaks_82 : decode cX0_connectorBreaks 82 = .ok (.iaload, 1) := by decide +kernel
theorem dX0_connectorBreaks_83 : decode cX0_connectorBreaks 83 = .ok (.if_icmp .eq 7, 3) := by decide +kernel
theorem dX0_connectorBreaks_86 : decode cX0_connectorBreaks 86 = .ok (.iconst 1, 1) := by decide +kernel
theorem dX0_connectorBreaks_87 : decode cX0_connectorBreaks 87 = .ok (.goto 4, 3) := by decide +kernel
theorem dX0_connectorBreaks_90 : decode cX0_connectorBreaks 90 = .ok (.iconst 0, 1) := by decide +kernel
theorem dX0_connectorBreaks_91 : decode cX0_connectorBreaks 91 = .ok (.ireturn, 1) := by decide +kernel
theorem dX0_connectorBreaks_92 : decode cX0_connectorBreaks 92 = .ok (.aload_n 0, 1) := by decide +kernel
theorem dX0_connectorBreaks_93 : decode cX0_connectorBreaks 93 = .ok (.getfield 29, 3) := by decide +kernel
theorem dX0_connectorBreaks_96 : decode cX0_connectorBreaks 96 = .ok (.iload_n 2, 1) := by decide +kernel
theorem dX0_connectorBreaks_97 : decode cX0_connectorBreaks 97 = .ok (.iaload, 1) := by decide +kernel
theorem dX0_connectorBreaks_98 : decode cX0_connectorBreaks 98 = .ok (.iconst (-1), 1) := by decide +kernel
theorem dX0_connectorBreaks_99 : decode cX0_connectorBreaks 99 = .ok (.if_icmp .eq 16, 3) := by decide +kernel
theorem dX0_connectorBreaks_102 : decode cX0_connectorBreaks 102 = .ok (.aload_n 0, 1) := by decide +kernel
theorem dX0_connectorBreaks_103 : decode cX0_connectorBreaks 103 = .ok (.iload_n 2, 1) := by decide +kernel
theorem dX0_connectorBreaks_104 : decode cX0_connectorBreaks 104 = .ok (.iload_n 3, 1) := by decide +kernel
theorem dX0_connectorBreaks_105 : decode cX0_connectorBreaks 105 = .ok (.invokevirtual 159, 3) := by decide +kernel
theorem dX0_connectorBreaks_108 : decode cX0_connectorBreaks 108 = .ok (.ifCond .ne 7, 3) := by decide +kernel
theorem dX0_connectorBreaks_111 : decode cX0_connectorBreaks 111 = .ok (.iconst 1, 1) := by decide +kernel
theorem dX0_connectorBreaks_112 : decode cX0_connectorBreaks 112 = .ok (.goto 4, 3) := by decide +kernel
theorem dX0_connectorBreaks_115 : decode cX0_connectorBreaks 115 = .ok (.iconst 0, 1) := by decide +kernel
theorem dX0_connectorBreaks_116 : decode cX0_connectorBreaks 116 = .ok (.ireturn, 1) := by decide +kernel
theorem dX0_connectorBreaks_117 : decode cX0_connectorBreaks 117 = .ok (.aload_n 0, 1) := by decide +kernel
theorem dX0_connectorBreaks_118 : decode cX0_connectorBreaks 118 = .ok (.getfield 39, 3) := by decide +kernel
theorem dX0_connectorBreaks_121 : decode cX0_connectorBreaks 121 = .ok (.iload_n 3, 1) := by decide +kernel
theorem dX0_connectorBreaks_122 : decode cX0_connectorBreaks 122 = .ok (.iaload, 1) := by decide +kernel
theorem dX0_connectorBreaks_123 : decode cX0_connectorBreaks 123 = .ok (.iconst (-1), 1) := by decide +kernel
theorem dX0_connectorBreaks_124 : decode cX0_connectorBreaks 124 = .ok (.if_icmp .eq 16, 3) := by decide +kernel
theorem dX0_connectorBreaks_127 : decode cX0_connectorBreaks 127 = .ok (.aload_n 0, 1) := by decide +kernel
theorem dX0_connectorBreaks_128 : decode cX0_connectorBreaks 128 = .ok (.iload_n 2, 1) := by decide +kernel
theorem dX0_connectorBreaks_129 : decode cX0_connectorBreaks 129 = .ok (.iload_n 3, 1) := by decide +kernel
theorem dX0_connectorBreaks_130 : decode cX0_connectorBreaks 130 = .ok (.invokevirtual 162, 3) := by decide +kernel
theorem dX0_connectorBreaks_133 : decode cX0_connectorBreaks 133 = .ok (.ifCond .ne 7, 3) := by decide +kernel
theorem dX0_connectorBreaks_136 : decode cX0_connectorBreaks 136 = .ok (.iconst 1, 1) := by decide +kernel
theorem dX0_connectorBreaks_137 : decode cX0_connectorBreaks 137 = .ok (.goto 4, 3) := by decide +kernel
theorem dX0_connectorBreaks_140 : decode cX0_connectorBreaks 140 = .ok (.iconst 0, 1) := by decide +kernel
theorem dX0_connectorBreaks_141 : decode cX0_connectorBreaks 141 = .ok (.ireturn, 1) := by decide +kernel
theorem dX0_connectorBreaks_142 : decode cX0_connectorBreaks 142 = .ok (.aload_n 0, 1) := by decide +kernel
theorem dX0_connectorBreaks_143 : decode cX0_connectorBreaks 143 = .ok (.getfield 23, 3) := by decide +kernel
theorem dX0_connectorBreaks_146 : decode cX0_connectorBreaks 146 = .ok (.iload_n 2, 1) := by decide +kernel
theorem dX0_connectorBreaks_147 : decode cX0_connectorBreaks 147 = .ok (.iaload, 1) := by decide +kernel
theorem dX0_connectorBreaks_148 : decode cX0_connectorBreaks 148 = .ok (.iconst 3, 1) := by decide +kernel
theorem dX0_connectorBreaks_149 : decode cX0_connectorBreaks 149 = .ok (.if_icmp .ne 20, 3) := by decide +kernel
theorem dX0_connectorBreaks_152 : decode cX0_connectorBreaks 152 = .ok (.aload_n 0, 1) := by decide +kernel
theorem dX0_connectorBreaks_153 : decode cX0_connectorBreaks 153 = .ok (.aload_n 0, 1) := by decide +kernel
theorem dX0_connectorBreaks_154 : decode cX0_connectorBreaks 154 = .ok (.getfield 20, 3) := by decide +kernel
theorem dX0_connectorBreaks_157 : decode cX0_connectorBreaks 157 = .ok (.iload_n 2, 1) := by decide +kernel
theorem dX0_connectorBreaks_158 : decode cX0_connectorBreaks 158 = .ok (.iaload, 1) := by decide +kernel
theorem dX0_connectorBreaks_159 : decode cX0_connectorBreaks 159 = .ok (.invokevirtual 165, 3) := by decide +kernel
theorem dX0_connectorBreaks_162 : decode cX0_connectorBreaks 162 = .ok (.ifCond .ne 7, 3) := by decide +kernel
theorem dX0_connectorBreaks_165 : decode cX0_connectorBreaks 165 = .ok (.iconst 1, 1) := by decide +kernel
theorem dX0_connectorBreaks_166 : decode cX0_connectorBreaks 166 = .ok (.goto 4, 3) := by decide +kernel
theorem dX0_connectorBreaks_169 : decode cX0_connectorBreaks 169 = .ok (.iconst 0, 1) := by decide +kernel
theorem dX0_connectorBreaks_170 : decode cX0_connectorBreaks 170 = .ok (.ireturn, 1) := by decide +kernel
theorem dX0_isExactScaling_0 : decode cX0_isExactScaling 0 = .ok (.aload_n 0, 1) := by decide +kernel
theorem dX0_isExactScaling_1 : decode cX0_isExactScaling 1 = .ok (.getfield 36, 3) := by decide +kernel
theorem dX0_isExactScaling_4 : decode cX0_isExactScaling 4 = .ok (.iload_n 1, 1) := by decide +kernel
theorem dX0_isExactScaling_5 : decode cX0_isExactScaling 5 = .ok (.laload, 1) := by decide +kernel
theorem dX0_isExactScaling_6 : decode cX0_isExactScaling 6 = .ok (.aload_n 0, 1) := by decide +kernel
theorem dX0_isExactScaling_7 : decode cX0_isExactScaling 7 = .ok (.getfield 32, 3) := by decide +kernel
theorem dX0_isExactScaling_10 : decode cX0_isExactScaling 10 = .ok (.iload_n 2, 1) := by decide +kernel
theorem dX0_isExactScaling_11 : decode cX0_isExactScaling 11 = .ok (.laload, 1) := by decide +kernel
theorem dX0_isExactScaling_12 : decode cX0_isExactScaling 12 = .ok (.lmul, 1) := by decide +kernel
theorem dX0_isExactScaling_13 : decode cX0_isExactScaling 13 = .ok (.lstore_n 3, 1) := by decide +kernel
theorem dX0_isExactScaling_14 : decode cX0_isExactScaling 14 = .ok (.lload_n 3, 1) := by decide +kernel
theorem dX0_isExactScaling_15 : decode cX0_isExactScaling 15 = .ok (.lconst 0, 1) := by decide +kernel
theorem dX0_isExactScaling_16 : decode cX0_isExactScaling 16 = .ok (.lcmp, 1) := by decide +kernel
theorem dX0_isExactScaling_17 : decode cX0_isExactScaling 17 = .ok (.ifCond .eq 27, 3) := by decide +kernel
theorem dX0_isExactScaling_20 : decode cX0_isExactScaling 20 = .ok (.aload_n 0, 1) := by decide +kernel
theorem dX0_isExactScaling_21 : decode cX0_isExactScaling 21 = .ok (.getfield 32, 3) := by decide +kernel
theorem dX0_isExactScaling_24 : decode cX0_isExactScaling 24 = .ok (.iload_n 1, 1) := by decide +kernel
theorem dX0_isExactScaling_25 : decode cX0_isExactScaling 25 = .ok (.laload, 1) := by decide +kernel
theorem dX0_isExactScaling_26 : decode cX0_isExactScaling 26 = .ok (.aload_n 0, 1) := by decide +kernel
theorem dX0_isExactScaling_27 : decode cX0_isExactScaling 27 = .ok (.getfield 36, 3) := by decide +kernel
theorem dX0_isExactScaling_30 : decode cX0_isExactScaling 30 = .ok (.iload_n 2, 1) := by decide +kernel
theorem dX0_isExactScaling_31 : decode cX0_isExactScaling 31 = .ok (.laload, 1) := by decide +kernel
theorem dX0_isExactScaling_32 : decode cX0_isExactScaling 32 = .ok (.lmul, 1) := by decide +kernel
theorem dX0_isExactScaling_33 : decode cX0_isExactScaling 33 = .ok (.lload_n 3, 1) := by decide +kernel
theorem dX0_isExactScaling_34 : decode cX0_isExactScaling 34 = .ok (.lrem, 1) := by decide +kernel
theorem dX0_isExactScaling_35 : decode cX0_isExactScaling 35 = .ok (.lconst 0, 1) := by decide +kernel
theorem dX0_isExactScaling_36 : decode cX0_isExactScaling 36 = .ok (.lcmp, 1) := by decide +kernel
theorem dX0_isExactScaling_37 : decode cX0_isExactScaling 37 = .ok (.ifCond .ne 7, 3) := by decide +kernel
theorem dX0_isExactScaling_40 : decode cX0_isExactScaling 40 = .ok (.iconst 1, 1) := by decide +kernel
theorem dX0_isExactScaling_41 : decode cX0_isExactScaling 41 = .ok (.goto 4, 3) := by decide +kernel
theorem dX0_isExactScaling_44 : decode cX0_isExactScaling 44 = .ok (.iconst 0, 1) := by decide +kernel
theorem dX0_isExactScaling_45 : decode cX0_isExactScaling 45 = .ok (.ireturn, 1) := by decide +kernel
theorem dX0_servesVersion_0 : decode cX0_servesVersion 0 = .ok (.aload_n 0, 1) := by decide +kernel
theorem dX0_servesVersion_1 : decode cX0_servesVersion 1 = .ok (.getfield 39, 3) := by decide +kernel
theorem dX0_servesVersion_4 : decode cX0_servesVersion 4 = .ok (.iload_n 1, 1) := by decide +kernel
theorem dX0_servesVersion_5 : decode cX0_servesVersion 5 = .ok (.iaload, 1) := by decide +kernel
theorem dX0_servesVersion_6 : decode cX0_servesVersion 6 = .ok (.istore_n 3, 1) := by decide +kernel
theorem dX0_servesVersion_7 : decode cX0_servesVersion 7 = .ok (.aload_n 0, 1) := by decide +kernel
theorem dX0_servesVersion_8 : decode cX0_servesVersion 8 = .ok (.getfield 39, 3) := by decide +kernel
theorem dX0_servesVersion_11 : decode cX0_servesVersion 11 = .ok (.iload_n 2, 1) := by decide +kernel
theorem dX0_servesVersion_12 : decode cX0_servesVersion 12 = .ok (.iaload, 1) := by decide +kernel
theorem dX0_servesVersion_13 : decode cX0_servesVersion 13 = .ok (.istore 4, 2) := by decide +kernel
theorem dX0_servesVersion_15 : decode cX0_servesVersion 15 = .ok (.iload_n 3, 1) := by decide +kernel
theorem dX0_servesVersion_16 : decode cX0_servesVersion 16 = .ok (.iload 4, 2) := by decide +kernel
theorem dX0_servesVersion_18 : decode cX0_servesVersion 18 = .ok (.if_icmp .lt 19, 3) := by decide +kernel
theorem dX0_servesVersion_21 : decode cX0_servesVersion 21 = .ok (.iload_n 3, 1) := by decide +kernel
theorem dX0_servesVersion_22 : decode cX0_servesVersion 22 = .ok (.bipush 100, 2) := by decide +kernel
theorem dX0_servesVersion_24 : decode cX0_servesVersion 24 = .ok (.idiv, 1) := by decide +kernel
theorem dX0_servesVersion_25 : decode cX0_servesVersion 25 = .ok (.iload 4, 2) := by decide +kernel
theorem dX0_servesVersion_27 : decode cX0_servesVersion 27 = .ok (.bipush 100, 2) := by decide +kernel
theorem dX0_servesVersion_29 : decode cX0_servesVersion 29 = .ok (.idiv, 1) := by decide +kernel
theorem dX0_servesVersion_30 : decode cX0_servesVersion 30 = .ok (.if_icmp .ne 7, 3) := by decide +kernel
theorem dX0_servesVersion_33 : decode cX0_servesVersion 33 = .ok (.iconst 1, 1) := by decide +kernel
theorem dX0_servesVersion_34 : decode cX0_servesVersion 34 = .ok (.goto 4, 3) := by decide +kernel
theorem dX0_servesVersion_37 : decode cX0_servesVersion 37 = .ok (.iconst 0, 1) := by decide +kernel
theorem dX0_servesVersion_38 : decode cX0_servesVersion 38 = .ok (.ireturn, 1) := by decide +kernel
theorem dX0_managesMode_0 : decode cX0_managesMode 0 = .ok (.iconst 0, 1) := by decide +kernel
theorem dX0_managesMode_1 : decode cX0_managesMode 1 = .ok (.istore_n 2, 1) := by decide +kernel
theorem dX0_managesMode_2 : decode cX0_managesMode 2 = .ok (.iload_n 2, 1) := by decide +kernel
theorem dX0_managesMode_3 : decode cX0_managesMode 3 = .ok (.bipush 10, 2) := by decide +kernel
theorem dX0_managesMode_5 : decode cX0_managesMode 5 = .ok (.if_icmp .ge 21, 3) := by decide +kernel
theorem dX0_managesMode_8 : decode cX0_managesMode 8 = .ok (.aload_n 0, 1) := by decide +kernel
theorem dX0_managesMode_9 : decode cX0_managesMode 9 = .ok (.getfield 17, 3) := by decide +kernel
theorem dX0_managesMode_12 : decode cX0_managesMode 12 = .ok (.iload_n 2, 1) := by decide +kernel
theorem dX0_managesMode_13 : decode cX0_managesMode 13 = .ok (.iaload, 1) := by decide +kernel
theorem dX0_managesMode_14 : decode cX0_managesMode 14 = .ok (.iload_n 1, 1) := by decide +kernel
theorem dX0_managesMode_15 : decode cX0_managesMode 15 = .ok (.if_icmp .ne 5, 3) := by decide +kernel
theorem dX0_managesMode_18 : decode cX0_managesMode 18 = .ok (.iconst 1, 1) := by decide +kernel
theorem dX0_managesMode_19 : decode cX0_managesMode 19 = .ok (.ireturn, 1) := by decide +kernel
theorem dX0_managesMode_20 : decode cX0_managesMode 20 = .ok (.iinc 2 1, 3) := by decide +kernel
theorem dX0_managesMode_23 : decode cX0_managesMode 23 = .ok (.goto (-21), 3) := by decide +kernel
theorem dX0_managesMode_26 : decode cX0_managesMode 26 = .ok (.iconst 0, 1) := by decide +kernel
theorem dX0_managesMode_27 : decode cX0_managesMode 27 = .ok (.ireturn, 1) := by decide +kernel
theorem dJ13_bitCount_95d88_0 : decode cJ13_bitCount_95d88 0 = .ok (.lload_n 0, 1) := by decide +kernel
theorem dJ13_bitCount_95d88_1 : decode cJ13_bitCount_95d88 1 = .ok (.lload_n 0, 1) := by decide +kernel
theorem dJ13_bitCount_95d88_2 : decode cJ13_bitCount_95d88 2 = .ok (.iconst 1, 1) := by decide +kernel
theorem dJ13_bitCount_95d88_3 : decode cJ13_bitCount_95d88 3 = .ok (.lushr, 1) := by decide +kernel
theorem dJ13_bitCount_95d88_4 : decode cJ13_bitCount_95d88 4 = .ok (.ldc2_w 314, 3) := by decide +kernel
theorem dJ13_bitCount_95d88_7 : decode cJ13_bitCount_95d88 7 = .ok (.land, 1) := by decide +kernel
theorem dJ13_bitCount_95d88_8 : decode cJ13_bitCount_95d88 8 = .ok (.lsub, 1) := by decide +kernel
theorem dJ13_bitCount_95d88_9 : decode cJ13_bitCount_95d88 9 = .ok (.lstore_n 0, 1) := by decide +kernel
theorem dJ13_bitCount_95d88_10 : decode cJ13_bitCount_95d88 10 = .ok (.lload_n 0, 1) := by decide +kernel
theorem dJ13_bitCount_95d88_11 : decode cJ13_bitCount_95d88 11 = .ok (.ldc2_w 316, 3) := by decide +kernel
theorem dJ13_bitCount_95d88_14 : decode cJ13_bitCount_95d88 14 = .ok (.land, 1) := by decide +kernel
theorem dJ13_bitCount_95d88_15 : decode cJ13_bitCount_95d88 15 = .ok (.lload_n 0, 1) := by decide +kernel
theorem dJ13_bitCount_95d88_16 : decode cJ13_bitCount_95d88 16 = .ok (.iconst 2, 1) := by decide +kernel
theorem dJ13_bitCount_95d88_17 : decode cJ13_bitCount_95d88 17 = .ok (.lushr, 1) := by decide +kernel
theorem dJ13_bitCount_95d88_18 : decode cJ13_bitCount_95d88 18 = .ok (.ldc2_w 316, 3) := by decide +kernel
theorem dJ13_bitCount_95d88_21 : decode cJ13_bitCount_95d88 21 = .ok (.land, 1) := by decide +kernel
theorem dJ13_bitCount_95d88_22 : decode cJ13_bitCount_95d88 22 = .ok (.ladd, 1) := by decide +kernel
theorem dJ13_bitCount_95d88_23 : decode cJ13_bitCount_95d88 23 = .ok (.lstore_n 0, 1) := by decide +kernel
theorem dJ13_bitCount_95d88_24 : decode cJ13_bitCount_95d88 24 = .ok (.lload_n 0, 1) := by decide +kernel
theorem dJ13_bitCount_95d88_25 : decode cJ13_bitCount_95d88 25 = .ok (.lload_n 0, 1) := by decide +kernel
theorem dJ13_bitCount_95d88_26 : decode cJ13_bitCount_95d88 26 = .ok (.iconst 4, 1) := by decide +kernel
theorem dJ13_bitCount_95d88_27 : decode cJ13_bitCount_95d88 27 = .ok (.lushr, 1) := by decide +kernel
theorem dJ13_bitCount_95d88_28 : decode cJ13_bitCount_95d88 28 = .ok (.ladd, 1) := by decide +kernel
theorem dJ13_bitCount_95d88_29 : decode cJ13_bitCount_95d88 29 = .ok (.ldc2_w 318, 3) := by decide +kernel
theorem dJ13_bitCount_95d88_32 : decode cJ13_bitCount_95d88 32 = .ok (.land, 1) := by decide +kernel
theorem dJ13_bitCount_95d88_33 : decode cJ13_bitCount_95d88 33 = .ok (.lstore_n 0, 1) := by decide +kernel
theorem dJ13_bitCount_95d88_34 : decode cJ13_bitCount_95d88 34 = .ok (.lload_n 0, 1) := by decide +kernel
theorem dJ13_bitCount_95d88_35 : decode cJ13_bitCount_95d88 35 = .ok (.lload_n 0, 1) := by decide +kernel
theorem dJ13_bitCount_95d88_36 : decode cJ13_bitCount_95d88 36 = .ok (.bipush 8, 2) := by decide +kernel
theorem dJ13_bitCount_95d88_38 : decode cJ13_bitCount_95d88 38 = .ok (.lushr, 1) := by decide +kernel
theorem dJ13_bitCount_95d88_39 : decode cJ13_bitCount_95d88 39 = .ok (.ladd, 1) := by decide +kernel
theorem dJ13_bitCount_95d88_40 : decode cJ13_bitCount_95d88 40 = .ok (.lstore_n 0, 1) := by decide +kernel
theorem dJ13_bitCount_95d88_41 : decode cJ13_bitCount_95d88 41 = .ok (.lload_n 0, 1) := by decide +kernel
theorem dJ13_bitCount_95d88_42 : decode cJ13_bitCount_95d88 42 = .ok (.lload_n 0, 1) := by decide +kernel
theorem dJ13_bitCount_95d88_43 : decode cJ13_bitCount_95d88 43 = .ok (.bipush 16, 2) := by decide +kernel
theorem dJ13_bitCount_95d88_45 : decode cJ13_bitCount_95d88 45 = .ok (.lushr, 1) := by decide +kernel
theorem dJ13_bitCount_95d88_46 : decode cJ13_bitCount_95d88 46 = .ok (.ladd, 1) := by decide +kernel
theorem dJ13_bitCount_95d88_47 : decode cJ13_bitCount_95d88 47 = .ok (.lstore_n 0, 1) := by decide +kernel
theorem dJ13_bitCount_95d88_48 : decode cJ13_bitCount_95d88 48 = .ok (.lload_n 0, 1) := by decide +kernel
theorem dJ13_bitCount_95d88_49 : decode cJ13_bitCount_95d88 49 = .ok (.lload_n 0, 1) := by decide +kernel
theorem dJ13_bitCount_95d88_50 : decode cJ13_bitCount_95d88 50 = .ok (.bipush 32, 2) := by decide +kernel
theorem dJ13_bitCount_95d88_52 : decode cJ13_bitCount_95d88 52 = .ok (.lushr, 1) := by decide +kernel
theorem dJ13_bitCount_95d88_53 : decode cJ13_bitCount_95d88 53 = .ok (.ladd, 1) := by decide +kernel
theorem dJ13_bitCount_95d88_54 : decode cJ13_bitCount_95d88 54 = .ok (.lstore_n 0, 1) := by decide +kernel
theorem dJ13_bitCount_95d88_55 : decode cJ13_bitCount_95d88 55 = .ok (.lload_n 0, 1) := by decide +kernel
theorem dJ13_bitCount_95d88_56 : decode cJ13_bitCount_95d88 56 = .ok (.l2i, 1) := by decide +kernel
theorem dJ13_bitCount_95d88_57 : decode cJ13_bitCount_95d88 57 = .ok (.bipush 127, 2) := by decide +kernel
theorem dJ13_bitCount_95d88_59 : decode cJ13_bitCount_95d88 59 = .ok (.iand, 1) := by decide +kernel
theorem dJ13_bitCount_95d88_60 : decode cJ13_bitCount_95d88 60 = .ok (.ireturn, 1) := by decide +kernel
theorem dJ7_fill_53178_0 : decode cJ7_fill_53178 0 = .ok (.iconst 0, 1) := by decide +kernel
theorem dJ7_fill_53178_1 : decode cJ7_fill_53178 1 = .ok (.istore_n 2, 1) := by decide +kernel
theorem dJ7_fill_53178_2 : decode cJ7_fill_53178 2 = .ok (.aload_n 0, 1) := by decide +kernel
theorem dJ7_fill_53178_3 : decode cJ7_fill_53178 3 = .ok (.arraylength, 1) := by decide +kernel
theorem dJ7_fill_53178_4 : decode cJ7_fill_53178 4 = .ok (.istore_n 3, 1) := by decide +kernel
theorem dJ7_fill_53178_5 : decode cJ7_fill_53178 5 = .ok (.iload_n 2, 1) := by decide +kernel
theorem dJ7_fill_53178_6 : decode cJ7_fill_53178 6 = .ok (.iload_n 3, 1) := by decide +kernel
theorem dJ7_fill_53178_7 : decode cJ7_fill_53178 7 = .ok (.if_icmp .ge 13, 3) := by decide +kernel
theorem dJ7_fill_53178_10 : decode cJ7_fill_53178 10 = .ok (.aload_n 0, 1) := by decide +kernel
theorem dJ7_fill_53178_11 : decode cJ7_fill_53178 11 = .ok (.iload_n 2, 1) := by decide +kernel
theorem dJ7_fill_53178_12 : decode cJ7_fill_53178 12 = .ok (.iload_n 1, 1) := by decide +kernel
theorem dJ7_fill_53178_13 : decode cJ7_fill_53178 13 = .ok (.iastore, 1) := by decide +kernel
theorem dJ7_fill_53178_14 : decode cJ7_fill_53178 14 = .ok (.iinc 2 1, 3) := by decide +kernel
theorem dJ7_fill_53178_17 : decode cJ7_fill_53178 17 = .ok (.goto (-12), 3) := by decide +kernel
theorem dJ7_fill_53178_20 : decode cJ7_fill_53178 20 = .ok (.return_, 1) := by decide +kernel
set_option maxRecDepth 20000 in
theorem ggL_at_X0_at : GoodIn wsL_at wsX0_at := goodIn_ca (goodIn_r _ [6, 7, 8, 9, 10, 11, 12, 5, 13, 14, 15, 16, 17, 18, 19, 20, 21, 22, 23, 24, 25, 26, 27, 28, 29, 30, 31, 32, 33, 34, 35, 36, 37, 38, 39, 40, 41, 42, 43, 44, 45, 46, 47, 48, 49, 50, 51, 52] (by decide +kernel) (by decide +kernel)) (goodIn_sub (fun _ h => List.mem_cons_of_mem _ (List.mem_append_right _ h)) (by decide +kernel))
set_option maxRecDepth 20000 in
theorem gL_at_X0_at : GoodIn wsL_at (wsV RL 7 RX0 yX0_at wsX0_at) := goodIn_app (goodIn_of _ (by decide +kernel)) ggL_at_X0_at
theorem dL_at_0 : decode cL_at 0 = .ok (.aload_n 3, 1) := by decide +kernel
theorem dL_at_1 : decode cL_at 1 = .ok (.iconst 0, 1) := by decide +kernel
theorem dL_at_2 : decode cL_at 2 = .ok (.aload_n 0, 1) := by decide +kernel
theorem dL_at_3 : decode cL_at 3 = .ok (.iload_n 1, 1) := by decide +kernel
theorem dL_at_4 : decode cL_at 4 = .ok (.iload_n 2, 1) := by decide +kernel
theorem dL_at_5 : decode cL_at 5 = .ok (.invokevirtual 7, 3) := by decide +kernel
theorem dL_at_8 : decode cL_at 8 = .ok (.i2l, 1) := by decide +kernel
theorem dL_at_9 : decode cL_at 9 = .ok (.lastore, 1) := by decide +kernel
theorem dL_at_10 : decode cL_at 10 = .ok (.goto 7, 3) := by decide +kernel
theorem dL_at_13 : decode cL_at 13 = .ok (.astore 4, 2) := by decide +kernel
theorem dL_at_15 : decode cL_at 15 = .ok (.iconst 1, 1) := by decide +kernel
theorem dL_at_16 : decode cL_at 16 = .ok (.ireturn, 1) := by decide +kernel
theorem dL_at_17 : decode cL_at 17 = .ok (.iconst 0, 1) := by decide +kernel
theorem dL_at_18 : decode cL_at 18 = .ok (.ireturn, 1) := by decide +kernel
set_option maxRecDepth 20000 in
theorem ggL_law_X0_init : GoodIn wsL_law wsX0_init := goodIn_r _ [6, 7, 8, 9, 10, 11, 12, 13, 14, 15, 16, 17, 18, 3, 19, 20, 21, 22, 23, 24, 25, 26, 27, 28, 29, 30, 179, 180, 181, 182, 183, 184, 185, 186, 187, 188, 189, 190, 191, 192, 193, 194, 195, 196, 197] (by decide +kernel) (by decide +kernel)
set_option maxRecDepth 20000 in
theorem gL_law_X0_init : GoodIn wsL_law (wsX0_init) := ggL_law_X0_init
set_option maxRecDepth 20000 in
theorem ggL_law_X0_part : GoodIn wsL_law wsX0_part := goodIn_r _ [34, 35, 11, 36, 37, 38, 2, 39, 40, 41, 42, 43, 13, 44, 15, 45, 46, 47, 48, 49, 50, 179, 180, 181, 182, 183, 184, 185, 186, 187, 188, 189, 190, 191, 192, 193, 194, 195, 196, 197] (by decide +kernel) (by decide +kernel)
set_option maxRecDepth 20000 in
theorem gL_law_X0_part : GoodIn wsL_law (wsV RL 19 RX0 yX0_part wsX0_part) := goodIn_app (goodIn_of _ (by decide +kernel)) ggL_law_X0_part
set_option maxRecDepth 20000 in
theorem ggL_law_X0_port : GoodIn wsL_law wsX0_port := goodIn_r _ [54, 44, 15, 16, 17, 13, 36, 37, 38, 2, 39, 35, 55, 56, 57, 58, 45, 47, 48, 49, 50, 179, 180, 181, 182, 183, 184, 185, 186, 187, 188, 189, 190, 191, 192, 193, 194, 195, 196, 197] (by decide +kernel) (by decide +kernel)
set_option maxRecDepth 20000 in
theorem gL_law_X0_port : GoodIn wsL_law (wsV RL 24 RX0 yX0_port wsX0_port) := goodIn_app (goodIn_of _ (by decide +kernel)) ggL_law_X0_port
set_option maxRecDepth 20000 in
theorem ggL_law_X0_unit : GoodIn wsL_law wsX0_unit := goodIn_r _ [62, 18, 19, 20, 63, 64, 65, 2, 66, 44, 67, 68, 69, 70, 179, 180, 181, 182, 183, 184, 185, 186, 187, 188, 189, 190, 191, 192, 193, 194, 195, 196, 197] (by decide +kernel) (by decide +kernel)
set_option maxRecDepth 20000 in
theorem gL_law_X0_unit : GoodIn wsL_law (wsV RL 31 RX0 yX0_unit wsX0_unit) := goodIn_app (goodIn_of _ (by decide +kernel)) ggL_law_X0_unit
set_option maxRecDepth 20000 in
theorem ggL_law_X0_connect : GoodIn wsL_law wsX0_connect := goodIn_r _ [74, 16, 25, 63, 64, 65, 2, 66, 44, 75, 76, 77, 78, 15, 17, 11, 79, 80, 81, 48, 49, 50, 82, 83, 84, 85, 26, 179, 180, 181, 182, 183, 184, 185, 186, 187, 188, 189, 190, 191, 192, 193, 194, 195, 196, 197] (by decide +kernel) (by decide +kernel)
set_option maxRecDepth 20000 in
theorem gL_law_X0_connect : GoodIn wsL_law (wsV RL 36 RX0 yX0_connect wsX0_connect) := goodIn_app (goodIn_of _ (by decide +kernel)) ggL_law_X0_connect
set_option maxRecDepth 20000 in
theorem ggL_law_X0_flatten : GoodIn wsL_law wsX0_flatten := goodIn_r _ [89, 44, 90, 91, 92, 2, 93, 45, 26, 47, 79, 80, 81, 48, 49, 50, 94, 95, 96, 97, 98, 99, 100, 179, 180, 181, 182, 183, 184, 185, 186, 187, 188, 189, 190, 191, 192, 193, 194, 195, 196, 197] (by decide +kernel) (by decide +kernel)
set_option maxRecDepth 20000 in
theorem gL_law_X0_flatten : GoodIn wsL_law (wsV RL 40 RX0 yX0_flatten wsX0_flatten) := goodIn_app (goodIn_of _ (by decide +kernel)) ggL_law_X0_flatten
set_option maxRecDepth 20000 in
theorem ggL_law_L_at : GoodIn wsL_law wsL_at := goodIn_ca (goodIn_r _ [104, 105, 106, 107, 108, 2, 109, 110, 111, 44, 90, 91, 92, 93, 45, 26, 47, 79, 80, 81, 48, 49, 50, 94, 95, 96, 97, 98, 99, 100, 112, 113, 114, 115, 179, 180, 181, 182, 183, 184, 185, 186, 187, 188, 189, 190, 191, 192, 193, 194, 195, 196, 197] (by decide +kernel) (by decide +kernel)) (goodIn_sub (fun _ h => List.mem_append_right _ h) (by decide +kernel))
set_option maxRecDepth 20000 in
theorem gL_law_L_at : GoodIn wsL_law (va_wsS RL 45 yL_at wsL_at) := goodIn_app (goodIn_of _ (by decide +kernel)) ggL_law_L_at
set_option maxRecDepth 20000 in
theorem ggL_law_X0_check : GoodIn wsL_law wsX0_check := goodIn_r _ [119, 120, 121, 2, 122, 123, 124, 125, 126, 44, 47, 79, 80, 81, 48, 49, 50, 127, 128, 129, 130, 16, 22, 24, 131, 132, 133, 134, 90, 91, 92, 93, 45, 26, 135, 136, 137, 138, 139, 140, 141, 142, 18, 21, 15, 143, 144, 145, 146, 20, 19, 147, 148, 149, 150, 151, 152, 153, 154, 14, 179, 180, 181, 182, 183, 184, 185, 186, 187, 188, 189, 190, 191, 192, 193, 194, 195, 196, 197] (by decide +kernel) (by decide +kernel)
set_option maxRecDepth 20000 in
theorem gL_law_X0_check : GoodIn wsL_law (wsV RL 54 RX0 yX0_check wsX0_check) := goodIn_app (goodIn_of _ (by decide +kernel)) ggL_law_X0_check
set_option maxRecDepth 20000 in
theorem ggL_law_X0_manager : GoodIn wsL_law wsX0_manager := goodIn_r _ [158, 14, 36, 37, 38, 2, 39, 35, 179, 180, 181, 182, 183, 184, 185, 186, 187, 188, 189, 190, 191, 192, 193, 194, 195, 196, 197] (by decide +kernel) (by decide +kernel)
set_option maxRecDepth 20000 in
theorem gL_law_X0_manager : GoodIn wsL_law (wsV RL 58 RX0 yX0_manager wsX0_manager) := goodIn_app (goodIn_of _ (by decide +kernel)) ggL_law_X0_manager
set_option maxRecDepth 20000 in
theorem ggL_law_X0_fallback : GoodIn wsL_law wsX0_fallback := goodIn_r _ [162, 17, 23, 22, 63, 64, 65, 2, 66, 44, 179, 180, 181, 182, 183, 184, 185, 186, 187, 188, 189, 190, 191, 192, 193, 194, 195, 196, 197] (by decide +kernel) (by decide +kernel)
set_option maxRecDepth 20000 in
theorem gL_law_X0_fallback : GoodIn wsL_law (wsV RL 62 RX0 yX0_fallback wsX0_fallback) := goodIn_app (goodIn_of _ (by decide +kernel)) ggL_law_X0_fallback
set_option maxRecDepth 20000 in
theorem ggL_law_X0_queue : GoodIn wsL_law wsX0_queue := goodIn_r _ [166, 16, 24, 63, 64, 65, 2, 66, 44, 179, 180, 181, 182, 183, 184, 185, 186, 187, 188, 189, 190, 191, 192, 193, 194, 195, 196, 197] (by decide +kernel) (by decide +kernel)
set_option maxRecDepth 20000 in
theorem gL_law_X0_queue : GoodIn wsL_law (wsV RL 66 RX0 yX0_queue wsX0_queue) := goodIn_app (goodIn_of _ (by decide +kernel)) ggL_law_X0_queue
set_option maxRecDepth 20000 in
theorem ggL_law_X0_version : GoodIn wsL_law wsX0_version := goodIn_r _ [170, 21, 63, 64, 65, 2, 66, 44, 179, 180, 181, 182, 183, 184, 185, 186, 187, 188, 189, 190, 191, 192, 193, 194, 195, 196, 197] (by decide +kernel) (by decide +kernel)
set_option maxRecDepth 20000 in
theorem gL_law_X0_version : GoodIn wsL_law (wsV RL 70 RX0 yX0_version wsX0_version) := goodIn_app (goodIn_of _ (by decide +kernel)) ggL_law_X0_version
set_option maxRecDepth 20000 in
theorem ggL_law_X0_open : GoodIn wsL_law wsX0_open := goodIn_r _ [174, 47, 46, 175, 176, 177, 2, 178, 44, 90, 91, 92, 93, 45, 26, 79, 80, 81, 48, 49, 50, 112, 113, 114, 115, 179, 180, 181, 182, 183, 184, 185, 186, 187, 188, 189, 190, 191, 192, 193, 194, 195, 196, 197] (by decide +kernel) (by decide +kernel)
set_option maxRecDepth 20000 in
theorem gL_law_X0_open : GoodIn wsL_law (wsV RL 74 RX0 yX0_open wsX0_open) := goodIn_app (goodIn_of _ (by decide +kernel)) ggL_law_X0_open
theorem dL_law_0 : decode cL_law 0 = .ok (.new 8, 3) := by decide +kernel
theorem dL_law_3 : decode cL_law 3 = .ok (.dup, 1) := by decide +kernel
theorem dL_law_4 : decode cL_law 4 = .ok (.invokespecial 15, 3) := by decide +kernel
theorem dL_law_7 : decode cL_law 7 = .ok (.astore_n 1, 1) := by decide +kernel
theorem dL_law_8 : decode cL_law 8 = .ok (.new 16, 3) := by decide +kernel
theorem dL_law_11 : decode cL_law 11 = .ok (.dup, 1) := by decide +kernel
theorem dL_law_12 : decode cL_law 12 = .ok (.invokespecial 18, 3) := by decide +kernel
theorem dL_law_15 : decode cL_law 15 = .ok (.astore_n 2, 1) := by decide +kernel
theorem dL_law_16 : decode cL_law 16 = .ok (.iconst 1, 1) := by decide +kernel
theorem dL_law_17 : decode cL_law 17 = .ok (.newarray .long, 2) := by decide +kernel
theorem dL_law_19 : decode cL_law 19 = .ok (.astore_n 3, 1) := by decide +kernel
theorem dL_law_20 : decode cL_law 20 = .ok (.iconst 0, 1) := by decide +kernel
theorem dL_law_21 : decode cL_law 21 = .ok (.istore 4, 2) := by decide +kernel
theorem dL_law_23 : decode cL_law 23 = .ok (.iload 4, 2) := by decide +kernel
theorem dL_law_25 : decode cL_law 25 = .ok (.aload_n 0, 1) := by decide +kernel
theorem dL_law_26 : decode cL_law 26 = .ok (.arraylength, 1) := by decide +kernel
theorem dL_law_27 : decode cL_law 27 = .ok (.bipush 7, 2) := by decide +kernel
theorem dL_law_29 : decode cL_law 29 = .ok (.isub, 1) := by decide +kernel
theorem dL_law_30 : decode cL_law 30 = .ok (.if_icmp .gt 601, 3) := by decide +kernel
theorem dL_law_33 : decode cL_law 33 = .ok (.aload_n 0, 1) := by decide +kernel
theorem dL_law_34 : decode cL_law 34 = .ok (.iload 4, 2) := by decide +kernel
theorem dL_law_36 : decode cL_law 36 = .ok (.iaload, 1) := by decide +kernel
theorem dL_law_37 : decode cL_law 37 = .ok (.bipush 15, 2) := by decide +kernel
theorem dL_law_39 : decode cL_law 39 = .ok (.iand, 1) := by decide +kernel
theorem dL_law_40 : decode cL_law 40 = .ok (.tableswitch 585 0 11 #[64, 89, 154, 281, 318, 331, 399, 412, 449, 486, 523, 560], 64) := by decide +kernel
theorem dL_law_104 : decode cL_law 104 = .ok (.aload_n 1, 1) := by decide +kernel
theorem dL_law_105 : decode cL_law 105 = .ok (.aload_n 0, 1) := by decide +kernel
theorem dL_law_106 : decode cL_law 106 = .ok (.iload 4, 2) := by decide +kernel
theorem dL_law_108 : decode cL_law 108 = .ok (.iconst 1, 1) := by decide +kernel
theorem dL_law_109 : decode cL_law 109 = .ok (.iadd, 1) := by decide +kernel
theorem dL_law_110 : decode cL_law 110 = .ok (.iaload, 1) := by decide +kernel
theorem dL_law_111 : decode cL_law 111 = .ok (.invokevirtual 19, 3) := by decide +kernel
theorem dL_law_114 : decode cL_law 114 = .ok (.aload_n 2, 1) := by decide +kernel
theorem dL_law_115 : decode cL_law 115 = .ok (.aload_n 0, 1) := by decide +kernel
theorem dL_law_116 : decode cL_law 116 = .ok (.iload 4, 2) := by decide +kernel
theorem dL_law_118 : decode cL_law 118 = .ok (.iconst 1, 1) := by decide +kernel
theorem dL_law_119 : decode cL_law 119 = .ok (.iadd, 1) := by decide +kernel
theorem dL_law_120 : decode cL_law 120 = .ok (.iaload, 1) := by decide +kernel
theorem dL_law_121 : decode cL_law 121 = .ok (.invokevirtual 23, 3) := by decide +kernel
theorem dL_law_124 : decode cL_law 124 = .ok (.if_icmp .eq 501, 3) := by decide +kernel
theorem dL_law_127 : decode cL_law 127 = .ok (.iconst 0, 1) := by decide +kernel
theorem dL_law_128 : decode cL_law 128 = .ok (.ireturn, 1) := by decide +kernel
theorem dL_law_129 : decode cL_law 129 = .ok (.aload_n 1, 1) := by decide +kernel
theorem dL_law_130 : decode cL_law 130 = .ok (.aload_n 0, 1) := by decide +kernel
theorem dL_law_131 : decode cL_law 131 = .ok (.iload 4, 2) := by decide +kernel
theorem dL_law_133 : decode cL_law 133 = .ok (.iconst 1, 1) := by decide +kernel
theorem dL_law_134 : decode cL_law 134 = .ok (.iadd, 1) := by decide +kernel
theorem dL_law_135 : decode cL_law 135 = .ok (.iaload, 1) := by decide +kernel
theorem dL_law_136 : decode cL_law 136 = .ok (.aload_n 0, 1) := by decide +kernel
theorem dL_law_137 : decode cL_law 137 = .ok (.iload 4, 2) := by decide +kernel
theorem dL_law_139 : decode cL_law 139 = .ok (.iconst 2, 1) := by decide +kernel
theorem dL_law_140 : decode cL_law 140 = .ok (.iadd, 1) := by decide +kernel
theorem dL_law_141 : decode cL_law 141 = .ok (.iaload, 1) := by decide +kernel
theorem dL_law_142 : decode cL_law 142 = .ok (.aload_n 0, 1) := by decide +kernel
theorem dL_law_143 : decode cL_law 143 = .ok (.iload 4, 2) := by decide +kernel
theorem dL_law_145 : decode cL_law 145 = .ok (.iconst 3, 1) := by decide +kernel
theorem dL_law_146 : decode cL_law 146 = .ok (.iadd, 1) := by decide +kernel
theorem dL_law_147 : decode cL_law 147 = .ok (.iaload, 1) := by decide +kernel
theorem dL_law_148 : decode cL_law 148 = .ok (.ifCond .eq 7, 3) := by decide +kernel
theorem dL_law_151 : decode cL_law 151 = .ok (.iconst 1, 1) := by decide +kernel
theorem dL_law_152 : decode cL_law 152 = .ok (.goto 4, 3) := by decide +kernel
theorem dL_law_155 : decode cL_law 155 = .ok (.iconst 0, 1) := by decide +kernel
theorem dL_law_156 : decode cL_law 156 = .ok (.invokevirtual 24, 3) := by decide +kernel
theorem dL_law_159 : decode cL_law 159 = .ok (.aload_n 2, 1) := by decide +kernel
theorem dL_law_160 : decode cL_law 160 = .ok (.aload_n 0, 1) := by decide +kernel
theorem dL_law_161 : decode cL_law 161 = .ok (.iload 4, 2) := by decide +kernel
theorem dL_law_163 : decode cL_law 163 = .ok (.iconst 1, 1) := by decide +kernel
theorem dL_law_164 : decode cL_law 164 = .ok (.iadd, 1) := by decide +kernel
theorem dL_law_165 : decode cL_law 165 = .ok (.iaload, 1) := by decide +kernel
theorem dL_law_166 : decode cL_law 166 = .ok (.aload_n 0, 1) := by decide +kernel
theorem dL_law_167 : decode cL_law 167 = .ok (.iload 4, 2) := by decide +kernel
theorem dL_law_169 : decode cL_law 169 = .ok (.iconst 2, 1) := by decide +kernel
theorem dL_law_170 : decode cL_law 170 = .ok (.iadd, 1) := by decide +kernel
theorem dL_law_171 : decode cL_law 171 = .ok (.iaload, 1) := by decide +kernel
theorem dL_law_172 : decode cL_law 172 = .ok (.aload_n 0, 1) := by decide +kernel
theorem dL_law_173 : decode cL_law 173 = .ok (.iload 4, 2) := by decide +kernel
theorem dL_law_175 : decode cL_law 175 = .ok (.iconst 3, 1) := by decide +kernel
theorem dL_law_176 : decode cL_law 176 = .ok (.iadd, 1) := by decide +kernel
theorem dL_law_177 : decode cL_law 177 = .ok (.iaload, 1) := by decide +kernel
theorem dL_law_178 : decode cL_law 178 = .ok (.ifCond .eq 7, 3) := by decide +kernel
theorem dL_law_181 : decode cL_law 181 = .ok (.iconst 1, 1) := by decide +kernel
theorem dL_law_182 : decode cL_law 182 = .ok (.goto 4, 3) := by decide +kernel
theorem dL_law_185 : decode cL_law 185 = .ok (.iconst 0, 1) := by decide +kernel
theorem dL_law_186 : decode cL_law 186 = .ok (.invokevirtual 28, 3) := by decide +kernel
theorem dL_law_189 : decode cL_law 189 = .ok (.if_icmp .eq 436, 3) := by decide +kernel
theorem dL_law_192 : decode cL_law 192 = .ok (.iconst 0, 1) := by decide +kernel
theorem dL_law_193 : decode cL_law 193 = .ok (.ireturn, 1) := by decide +kernel
theorem dL_law_194 : decode cL_law 194 = .ok (.aload_n 1, 1) := by decide +kernel
theorem dL_law_195 : decode cL_law 195 = .ok (.aload_n 0, 1) := by decide +kernel
theorem dL_law_196 : decode cL_law 196 = .ok (.iload 4, 2) := by decide +kernel
theorem dL_law_198 : decode cL_law 198 = .ok (.iconst 1, 1) := by decide +kernel
theorem dL_law_199 : decode cL_law 199 = .ok (.iadd, 1) := by decide +kernel
theorem dL_law_200 : decode cL_law 200 = .ok (.iaload, 1) := by decide +kernel
theorem dL_law_201 : decode cL_law 201 = .ok (.aload_n 0, 1) := by decide +kernel
theorem dL_law_202 : decode cL_law 202 = .ok (.iload 4, 2) := by decide +kernel
theorem dL_law_204 : decode cL_law 204 = .ok (.iconst 2, 1) := by decide +kernel
theorem dL_law_205 : decode cL_law 205 = .ok (.iadd, 1) := by decide +kernel
theorem dL_law_206 : decode cL_law 206 = .ok (.iaload, 1) := by decide +kernel
theorem dL_law_207 : decode cL_law 207 = .ok (.aload_n 0, 1) := by decide +kernel
theorem dL_law_208 : decode cL_law 208 = .ok (.iload 4, 2) := by decide +kernel
theorem dL_law_210 : decode cL_law 210 = .ok (.iconst 3, 1) := by decide +kernel
theorem dL_law_211 : decode cL_law 211 = .ok (.iadd, 1) := by decide +kernel
theorem dL_law_212 : decode cL_law 212 = .ok (.iaload, 1) := by decide +kernel
theorem dL_law_213 : decode cL_law 213 = .ok (.i2l, 1) := by decide +kernel
theorem dL_law_214 : decode cL_law 214 = .ok (.bipush 32, 2) := by decide +kernel
theorem dL_law_216 : decode cL_law 216 = .ok (.lshl, 1) := by decide +kernel
theorem dL_law_217 : decode cL_law 217 = .ok (.aload_n 0, 1) := by decide +kernel
theorem dL_law_218 : decode cL_law 218 = .ok (.iload 4, 2) := by decide +kernel
theorem dL_law_220 : decode cL_law 220 = .ok (.iconst 4, 1) := by decide +kernel
theorem dL_law_221 : decode cL_law 221 = .ok (.iadd, 1) := by decide +kernel
theorem dL_law_222 : decode cL_law 222 = .ok (.iaload, 1) := by decide +kernel
theorem dL_law_223 : decode cL_law 223 = .ok (.i2l, 1) := by decide +kernel
theorem dL_law_224 : decode cL_law 224 = .ok (.ldc2_w 29, 3) := by decide +kernel
theorem dL_law_227 : decode cL_law 227 = .ok (.land, 1) := by decide +kernel
theorem dL_law_228 : decode cL_law 228 = .ok (.lor, 1) := by decide +kernel
theorem dL_law_229 : decode cL_law 229 = .ok (.aload_n 0, 1) := by decide +kernel
theorem dL_law_230 : decode cL_law 230 = .ok (.iload 4, 2) := by decide +kernel
theorem dL_law_232 : decode cL_law 232 = .ok (.iconst 5, 1) := by decide +kernel
theorem dL_law_233 : decode cL_law 233 = .ok (.iadd, 1) := by decide +kernel
theorem dL_law_234 : decode cL_law 234 = .ok (.iaload, 1) := by decide +kernel
theorem dL_law_235 : decode cL_law 235 = .ok (.i2l, 1) := by decide +kernel
theorem dL_law_236 : decode cL_law 236 = .ok (.bipush 32, 2) := by decide +kernel
theorem dL_law_238 : decode cL_law 238 = .ok (.lshl, 1) := by decide +kernel
theorem dL_law_239 : decode cL_law 239 = .ok (.aload_n 0, 1) := by decide +kernel
theorem dL_law_240 : decode cL_law 240 = .ok (.iload 4, 2) := by decide +kernel
theorem dL_law_242 : decode cL_law 242 = .ok (.bipush 6, 2) := by decide +kernel
theorem dL_law_244 : decode cL_law 244 = .ok (.iadd, 1) := by decide +kernel
theorem dL_law_245 : decode cL_law 245 = .ok (.iaload, 1) := by decide +kernel
theorem dL_law_246 : decode cL_law 246 = .ok (.i2l, 1) := by decide +kernel
theorem dL_law_247 : decode cL_law 247 = .ok (.ldc2_w 29, 3) := by decide +kernel
theorem dL_law_250 : decode cL_law 250 = .ok (.land, 1) := by decide +kernel
theorem dL_law_251 : decode cL_law 251 = .ok (.lor, 1) := by decide +kernel
theorem dL_law_252 : decode cL_law 252 = .ok (.invokevirtual 31, 3) := by decide +kernel
theorem dL_law_255 : decode cL_law 255 = .ok (.aload_n 2, 1) := by decide +kernel
theorem dL_law_256 : decode cL_law 256 = .ok (.aload_n 0, 1) := by decide +kernel
theorem dL_law_257 : decode cL_law 257 = .ok (.iload 4, 2) := by decide +kernel
theorem dL_law_259 : decode cL_law 259 = .ok (.iconst 1, 1) := by decide +kernel
theorem dL_law_260 : decode cL_law 260 = .ok (.iadd, 1) := by decide +kernel
theorem dL_law_261 : decode cL_law 261 = .ok (.iaload, 1) := by decide +kernel
theorem dL_law_262 : decode cL_law 262 = .ok (.aload_n 0, 1) := by decide +kernel
theorem dL_law_263 : decode cL_law 263 = .ok (.iload 4, 2) := by decide +kernel
theorem dL_law_265 : decode cL_law 265 = .ok (.iconst 2, 1) := by decide +kernel
theorem dL_law_266 : decode cL_law 266 = .ok (.iadd, 1) := by decide +kernel
theorem dL_law_267 : decode cL_law 267 = .ok (.iaload, 1) := by decide +kernel
theorem dL_law_268 : decode cL_law 268 = .ok (.aload_n 0, 1) := by decide +kernel
theorem dL_law_269 : decode cL_law 269 = .ok (.iload 4, 2) := by decide +kernel
theorem dL_law_271 : decode cL_law 271 = .ok (.iconst 3, 1) := by decide +kernel
theorem dL_law_272 : decode cL_law 272 = .ok (.iadd, 1) := by decide +kernel
theorem dL_law_273 : decode cL_law 273 = .ok (.iaload, 1) := by decide +kernel
theorem dL_law_274 : decode cL_law 274 = .ok (.i2l, 1) := by decide +kernel
theorem dL_law_275 : decode cL_law 275 = .ok (.bipush 32, 2) := by decide +kernel
theorem dL_law_277 : decode cL_law 277 = .ok (.lshl, 1) := by decide +kernel
theorem dL_law_278 : decode cL_law 278 = .ok (.aload_n 0, 1) := by decide +kernel
theorem dL_law_279 : decode cL_law 279 = .ok (.iload 4, 2) := by decide +kernel
theorem dL_law_281 : decode cL_law 281 = .ok (.iconst 4, 1) := by decide +kernel
theorem dL_law_282 : decode cL_law 282 = .ok (.iadd, 1) := by decide +kernel
theorem dL_law_283 : decode cL_law 283 = .ok (.iaload, 1) := by decide +kernel
theorem dL_law_284 : decode cL_law 284 = .ok (.i2l, 1) := by decide +kernel
theorem dL_law_285 : decode cL_law 285 = .ok (.ldc2_w 29, 3) := by decide +kernel
theorem dL_law_288 : decode cL_law 288 = .ok (.land, 1) := by decide +kernel
theorem dL_law_289 : decode cL_law 289 = .ok (.lor, 1) := by decide +kernel
theorem dL_law_290 : decode cL_law 290 = .ok (.aload_n 0, 1) := by decide +kernel
theorem dL_law_291 : decode cL_law 291 = .ok (.iload 4, 2) := by decide +kernel
theorem dL_law_293 : decode cL_law 293 = .ok (.iconst 5, 1) := by decide +kernel
theorem dL_law_294 : decode cL_law 294 = .ok (.iadd, 1) := by decide +kernel
theorem dL_law_295 : decode cL_law 295 = .ok (.iaload, 1) := by decide +kernel
theorem dL_law_296 : decode cL_law 296 = .ok (.i2l, 1) := by decide +kernel
theorem dL_law_297 : decode cL_law 297 = .ok (.bipush 32, 2) := by decide +kernel
theorem dL_law_299 : decode cL_law 299 = .ok (.lshl, 1) := by decide +kernel
theorem dL_law_300 : decode cL_law 300 = .ok (.aload_n 0, 1) := by decide +kernel
theorem dL_law_301 : decode cL_law 301 = .ok (.iload 4, 2) := by decide +kernel
theorem dL_law_303 : decode cL_law 303 = .ok (.bipush 6, 2) := by decide +kernel
theorem dL_law_305 : decode cL_law 305 = .ok (.iadd, 1) := by decide +kernel
theorem dL_law_306 : decode cL_law 306 = .ok (.iaload, 1) := by decide +kernel
theorem dL_law_307 : decode cL_law 307 = .ok (.i2l, 1) := by decide +kernel
theorem dL_law_308 : decode cL_law 308 = .ok (.ldc2_w 29, 3) := by decide +kernel
theorem dL_law_311 : decode cL_law 311 = .ok (.land, 1) := by decide +kernel
theorem dL_law_312 : decode cL_law 312 = .ok (.lor, 1) := by decide +kernel
theorem dL_law_313 : decode cL_law 313 = .ok (.invokevirtual 35, 3) := by decide +kernel
theorem dL_law_316 : decode cL_law 316 = .ok (.if_icmp .eq 309, 3) := by decide +kernel
theorem dL_law_319 : decode cL_law 319 = .ok (.iconst 0, 1) := by decide +kernel
theorem dL_law_320 : decode cL_law 320 = .ok (.ireturn, 1) := by decide +kernel
theorem dL_law_321 : decode cL_law 321 = .ok (.aload_n 1, 1) := by decide +kernel
theorem dL_law_322 : decode cL_law 322 = .ok (.aload_n 0, 1) := by decide +kernel
theorem dL_law_323 : decode cL_law 323 = .ok (.iload 4, 2) := by decide +kernel
theorem dL_law_325 : decode cL_law 325 = .ok (.iconst 1, 1) := by decide +kernel
theorem dL_law_326 : decode cL_law 326 = .ok (.iadd, 1) := by decide +kernel
theorem dL_law_327 : decode cL_law 327 = .ok (.iaload, 1) := by decide +kernel
theorem dL_law_328 : decode cL_law 328 = .ok (.aload_n 0, 1) := by decide +kernel
theorem dL_law_329 : decode cL_law 329 = .ok (.iload 4, 2) := by decide +kernel
theorem dL_law_331 : decode cL_law 331 = .ok (.iconst 2, 1) := by decide +kernel
theorem dL_law_332 : decode cL_law 332 = .ok (.iadd, 1) := by decide +kernel
theorem dL_law_333 : decode cL_law 333 = .ok (.iaload, 1) := by decide +kernel
theorem dL_law_334 : decode cL_law 334 = .ok (.invokevirtual 36, 3) := by decide +kernel
theorem dL_law_337 : decode cL_law 337 = .ok (.aload_n 2, 1) := by decide +kernel
theorem dL_law_338 : decode cL_law 338 = .ok (.aload_n 0, 1) := by decide +kernel
theorem dL_law_339 : decode cL_law 339 = .ok (.iload 4, 2) := by decide +kernel
theorem dL_law_341 : decode cL_law 341 = .ok (.iconst 1, 1) := by decide +kernel
theorem dL_law_342 : decode cL_law 342 = .ok (.iadd, 1) := by decide +kernel
theorem dL_law_343 : decode cL_law 343 = .ok (.iaload, 1) := by decide +kernel
theorem dL_law_344 : decode cL_law 344 = .ok (.aload_n 0, 1) := by decide +kernel
theorem dL_law_345 : decode cL_law 345 = .ok (.iload 4, 2) := by decide +kernel
theorem dL_law_347 : decode cL_law 347 = .ok (.iconst 2, 1) := by decide +kernel
theorem dL_law_348 : decode cL_law 348 = .ok (.iadd, 1) := by decide +kernel
theorem dL_law_349 : decode cL_law 349 = .ok (.iaload, 1) := by decide +kernel
theorem dL_law_350 : decode cL_law 350 = .ok (.invokevirtual 39, 3) := by decide +kernel
theorem dL_law_353 : decode cL_law 353 = .ok (.if_icmp .eq 272, 3) := by decide +kernel
theorem dL_law_356 : decode cL_law 356 = .ok (.iconst 0, 1) := by decide +kernel
theorem dL_law_357 : decode cL_law 357 = .ok (.ireturn, 1) := by decide +kernel
theorem dL_law_358 : decode cL_law 358 = .ok (.aload_n 1, 1) := by decide +kernel
theorem dL_law_359 : decode cL_law 359 = .ok (.invokevirtual 40, 3) := by decide +kernel
theorem dL_law_362 : decode cL_law 362 = .ok (.aload_n 2, 1) := by decide +kernel
theorem dL_law_363 : decode cL_law 363 = .ok (.invokevirtual 44, 3) := by decide +kernel
theorem dL_law_366 : decode cL_law 366 = .ok (.if_icmp .eq 259, 3) := by decide +kernel
theorem dL_law_369 : decode cL_law 369 = .ok (.iconst 0, 1) := by decide +kernel
theorem dL_law_370 : decode cL_law 370 = .ok (.ireturn, 1) := by decide +kernel
theorem dL_law_371 : decode cL_law 371 = .ok (.aload_n 1, 1) := by decide +kernel
theorem dL_law_372 : decode cL_law 372 = .ok (.aload_n 0, 1) := by decide +kernel
theorem dL_law_373 : decode cL_law 373 = .ok (.iload 4, 2) := by decide +kernel
theorem dL_law_375 : decode cL_law 375 = .ok (.iconst 1, 1) := by decide +kernel
theorem dL_law_376 : decode cL_law 376 = .ok (.iadd, 1) := by decide +kernel
theorem dL_law_377 : decode cL_law 377 = .ok (.iaload, 1) := by decide +kernel
theorem dL_law_378 : decode cL_law 378 = .ok (.aload_n 0, 1) := by decide +kernel
theorem dL_law_379 : decode cL_law 379 = .ok (.iload 4, 2) := by decide +kernel
theorem dL_law_381 : decode cL_law 381 = .ok (.iconst 2, 1) := by decide +kernel
theorem dL_law_382 : decode cL_law 382 = .ok (.iadd, 1) := by decide +kernel
theorem dL_law_383 : decode cL_law 383 = .ok (.iaload, 1) := by decide +kernel
theorem dL_law_384 : decode cL_law 384 = .ok (.aload_n 3, 1) := by decide +kernel
theorem dL_law_385 : decode cL_law 385 = .ok (.invokestatic 45, 3) := by decide +kernel
theorem dL_law_388 : decode cL_law 388 = .ok (.istore 5, 2) := by decide +kernel
theorem dL_law_390 : decode cL_law 390 = .ok (.aload_n 2, 1) := by decide +kernel
theorem dL_law_391 : decode cL_law 391 = .ok (.aload_n 0, 1) := by decide +kernel
theorem dL_law_392 : decode cL_law 392 = .ok (.iload 4, 2) := by decide +kernel
theorem dL_law_394 : decode cL_law 394 = .ok (.iconst 1, 1) := by decide +kernel
theorem dL_law_395 : decode cL_law 395 = .ok (.iadd, 1) := by decide +kernel
theorem dL_law_396 : decode cL_law 396 = .ok (.iaload, 1) := by decide +kernel
theorem dL_law_397 : decode cL_law 397 = .ok (.aload_n 0, 1) := by decide +kernel
theorem dL_law_398 : decode cL_law 398 = .ok (.iload 4, 2) := by decide +kernel
theorem dL_law_400 : decode cL_law 400 = .ok (.iconst 2, 1) := by decide +kernel
theorem dL_law_401 : decode cL_law 401 = .ok (.iadd, 1) := by decide +kernel
theorem dL_law_402 : decode cL_law 402 = .ok (.iaload, 1) := by decide +kernel
theorem dL_law_403 : decode cL_law 403 = .ok (.invokevirtual 50, 3) := by decide +kernel
theorem dL_law_406 : decode cL_law 406 = .ok (.istore 6, 2) := by decide +kernel
theorem dL_law_408 : decode cL_law 408 = .ok (.aload_n 2, 1) := by decide +kernel
theorem dL_law_409 : decode cL_law 409 = .ok (.invokevirtual 51, 3) := by decide +kernel
theorem dL_law_412 : decode cL_law 412 = .ok (.iload 5, 2) := by decide +kernel
theorem dL_law_414 : decode cL_law 414 = .ok (.if_icmp .eq 5, 3) := by decide +kernel
theorem dL_law_417 : decode cL_law 417 = .ok (.iconst 0, 1) := by decide +kernel
theorem dL_law_418 : decode cL_law 418 = .ok (.ireturn, 1) := by decide +kernel
theorem dL_law_419 : decode cL_law 419 = .ok (.iload 5, 2) := by decide +kernel
theorem dL_law_421 : decode cL_law 421 = .ok (.ifCond .ne 15, 3) := by decide +kernel
theorem dL_law_424 : decode cL_law 424 = .ok (.aload_n 3, 1) := by decide +kernel
theorem dL_law_425 : decode cL_law 425 = .ok (.iconst 0, 1) := by decide +kernel
theorem dL_law_426 : decode cL_law 426 = .ok (.laload, 1) := by decide +kernel
theorem dL_law_427 : decode cL_law 427 = .ok (.iload 6, 2) := by decide +kernel
theorem dL_law_429 : decode cL_law 429 = .ok (.i2l, 1) := by decide +kernel
theorem dL_law_430 : decode cL_law 430 = .ok (.lcmp, 1) := by decide +kernel
theorem dL_law_431 : decode cL_law 431 = .ok (.ifCond .eq 5, 3) := by decide +kernel
theorem dL_law_434 : decode cL_law 434 = .ok (.iconst 0, 1) := by decide +kernel
theorem dL_law_435 : decode cL_law 435 = .ok (.ireturn, 1) := by decide +kernel
theorem dL_law_436 : decode cL_law 436 = .ok (.goto 189, 3) := by decide +kernel
theorem dL_law_439 : decode cL_law 439 = .ok (.aload_n 1, 1) := by decide +kernel
theorem dL_law_440 : decode cL_law 440 = .ok (.invokevirtual 54, 3) := by decide +kernel
theorem dL_law_443 : decode cL_law 443 = .ok (.aload_n 2, 1) := by decide +kernel
theorem dL_law_444 : decode cL_law 444 = .ok (.invokevirtual 57, 3) := by decide +kernel
theorem dL_law_447 : decode cL_law 447 = .ok (.if_icmp .eq 178, 3) := by decide +kernel
theorem dL_law_450 : decode cL_law 450 = .ok (.iconst 0, 1) := by decide +kernel
theorem dL_law_451 : decode cL_law 451 = .ok (.ireturn, 1) := by decide +kernel
theorem dL_law_452 : decode cL_law 452 = .ok (.aload_n 1, 1) := by decide +kernel
theorem dL_law_453 : decode cL_law 453 = .ok (.aload_n 0, 1) := by decide +kernel
theorem dL_law_454 : decode cL_law 454 = .ok (.iload 4, 2) := by decide +kernel
theorem dL_law_456 : decode cL_law 456 = .ok (.iconst 1, 1) := by decide +kernel
theorem dL_law_457 : decode cL_law 457 = .ok (.iadd, 1) := by decide +kernel
theorem dL_law_458 : decode cL_law 458 = .ok (.iaload, 1) := by decide +kernel
theorem dL_law_459 : decode cL_law 459 = .ok (.aload_n 0, 1) := by decide +kernel
theorem dL_law_460 : decode cL_law 460 = .ok (.iload 4, 2) := by decide +kernel
theorem dL_law_462 : decode cL_law 462 = .ok (.iconst 2, 1) := by decide +kernel
theorem dL_law_463 : decode cL_law 463 = .ok (.iadd, 1) := by decide +kernel
theorem dL_law_464 : decode cL_law 464 = .ok (.iaload, 1) := by decide +kernel
theorem dL_law_465 : decode cL_law 465 = .ok (.invokevirtual 58, 3) := by decide +kernel
theorem dL_law_468 : decode cL_law 468 = .ok (.aload_n 2, 1) := by decide +kernel
theorem dL_law_469 : decode cL_law 469 = .ok (.aload_n 0, 1) := by decide +kernel
theorem dL_law_470 : decode cL_law 470 = .ok (.iload 4, 2) := by decide +kernel
theorem dL_law_472 : decode cL_law 472 = .ok (.iconst 1, 1) := by decide +kernel
theorem dL_law_473 : decode cL_law 473 = .ok (.iadd, 1) := by decide +kernel
theorem dL_law_474 : decode cL_law 474 = .ok (.iaload, 1) := by decide +kernel
theorem dL_law_475 : decode cL_law 475 = .ok (.aload_n 0, 1) := by decide +kernel
theorem dL_law_476 : decode cL_law 476 = .ok (.iload 4, 2) := by decide +kernel
theorem dL_law_478 : decode cL_law 478 = .ok (.iconst 2, 1) := by decide +kernel
theorem dL_law_479 : decode cL_law 479 = .ok (.iadd, 1) := by decide +kernel
theorem dL_law_480 : decode cL_law 480 = .ok (.iaload, 1) := by decide +kernel
theorem dL_law_481 : decode cL_law 481 = .ok (.invokevirtual 61, 3) := by decide +kernel
theorem dL_law_484 : decode cL_law 484 = .ok (.if_icmp .eq 141, 3) := by decide +kernel
theorem dL_law_487 : decode cL_law 487 = .ok (.iconst 0, 1) := by decide +kernel
theorem dL_law_488 : decode cL_law 488 = .ok (.ireturn, 1) := by decide +kernel
theorem dL_law_489 : decode cL_law 489 = .ok (.aload_n 1, 1) := by decide +kernel
theorem dL_law_490 : decode cL_law 490 = .ok (.aload_n 0, 1) := by decide +kernel
theorem dL_law_491 : decode cL_law 491 = .ok (.iload 4, 2) := by decide +kernel
theorem dL_law_493 : decode cL_law 493 = .ok (.iconst 1, 1) := by decide +kernel
theorem dL_law_494 : decode cL_law 494 = .ok (.iadd, 1) := by decide +kernel
theorem dL_law_495 : decode cL_law 495 = .ok (.iaload, 1) := by decide +kernel
theorem dL_law_496 : decode cL_law 496 = .ok (.aload_n 0, 1) := by decide +kernel
theorem dL_law_497 : decode cL_law 497 = .ok (.iload 4, 2) := by decide +kernel
theorem dL_law_499 : decode cL_law 499 = .ok (.iconst 2, 1) := by decide +kernel
theorem dL_law_500 : decode cL_law 500 = .ok (.iadd, 1) := by decide +kernel
theorem dL_law_501 : decode cL_law 501 = .ok (.iaload, 1) := by decide +kernel
theorem dL_law_502 : decode cL_law 502 = .ok (.invokevirtual 62, 3) := by decide +kernel
theorem dL_law_505 : decode cL_law 505 = .ok (.aload_n 2, 1) := by decide +kernel
theorem dL_law_506 : decode cL_law 506 = .ok (.aload_n 0, 1) := by decide +kernel
theorem dL_law_507 : decode cL_law 507 = .ok (.iload 4, 2) := by decide +kernel
theorem dL_law_509 : decode cL_law 509 = .ok (.iconst 1, 1) := by decide +kernel
theorem dL_law_510 : decode cL_law 510 = .ok (.iadd, 1) := by decide +kernel
theorem dL_law_511 : decode cL_law 511 = .ok (.iaload, 1) := by decide +kernel
theorem dL_law_512 : decode cL_law 512 = .ok (.aload_n 0, 1) := by decide +kernel
theorem dL_law_513 : decode cL_law 513 = .ok (.iload 4, 2) := by decide +kernel
theorem dL_law_515 : decode cL_law 515 = .ok (.iconst 2, 1) := by decide +kernel
theorem dL_law_516 : decode cL_law 516 = .ok (.iadd, 1) := by decide +kernel
theorem dL_law_517 : decode cL_law 517 = .ok (.iaload, 1) := by decide +kernel
theorem dL_law_518 : decode cL_law 518 = .ok (.invokevirtual 65, 3) := by decide +kernel
theorem dL_law_521 : decode cL_law 521 = .ok (.if_icmp .eq 104, 3) := by decide +kernel
theorem dL_law_524 : decode cL_law 524 = .ok (.iconst 0, 1) := by decide +kernel
theorem dL_law_525 : decode cL_law 525 = .ok (.ireturn, 1) := by decide +kernel
theorem dL_law_526 : decode cL_law 526 = .ok (.aload_n 1, 1) := by decide +kernel
theorem dL_law_527 : decode cL_law 527 = .ok (.aload_n 0, 1) := by decide +kernel
theorem dL_law_528 : decode cL_law 528 = .ok (.iload 4, 2) := by decide +kernel
theorem dL_law_530 : decode cL_law 530 = .ok (.iconst 1, 1) := by decide +kernel
theorem dL_law_531 : decode cL_law 531 = .ok (.iadd, 1) := by decide +kernel
theorem dL_law_532 : decode cL_law 532 = .ok (.iaload, 1) := by decide +kernel
theorem dL_law_533 : decode cL_law 533 = .ok (.aload_n 0, 1) := by decide +kernel
theorem dL_law_534 : decode cL_law 534 = .ok (.iload 4, 2) := by decide +kernel
theorem dL_law_536 : decode cL_law 536 = .ok (.iconst 2, 1) := by decide +kernel
theorem dL_law_537 : decode cL_law 537 = .ok (.iadd, 1) := by decide +kernel
theorem dL_law_538 : decode cL_law 538 = .ok (.iaload, 1) := by decide +kernel
theorem dL_law_539 : decode cL_law 539 = .ok (.invokevirtual 66, 3) := by decide +kernel
theorem dL_law_542 : decode cL_law 542 = .ok (.aload_n 2, 1) := by decide +kernel
theorem dL_law_543 : decode cL_law 543 = .ok (.aload_n 0, 1) := by decide +kernel
theorem dL_law_544 : decode cL_law 544 = .ok (.iload 4, 2) := by decide +kernel
theorem dL_law_546 : decode cL_law 546 = .ok (.iconst 1, 1) := by decide +kernel
theorem dL_law_547 : decode cL_law 547 = .ok (.iadd, 1) := by decide +kernel
theorem dL_law_548 : decode cL_law 548 = .ok (.iaload, 1) := by decide +kernel
theorem dL_law_549 : decode cL_law 549 = .ok (.aload_n 0, 1) := by decide +kernel
theorem dL_law_550 : decode cL_law 550 = .ok (.iload 4, 2) := by decide +kernel
theorem dL_law_552 : decode cL_law 552 = .ok (.iconst 2, 1) := by decide +kernel
theorem dL_law_553 : decode cL_law 553 = .ok (.iadd, 1) := by decide +kernel
theorem dL_law_554 : decode cL_law 554 = .ok (.iaload, 1) := by decide +kernel
theorem dL_law_555 : decode cL_law 555 = .ok (.invokevirtual 69, 3) := by decide +kernel
theorem dL_law_558 : decode cL_law 558 = .ok (.if_icmp .eq 67, 3) := by decide +kernel
theorem dL_law_561 : decode cL_law 561 = .ok (.iconst 0, 1) := by decide +kernel
theorem dL_law_562 : decode cL_law 562 = .ok (.ireturn, 1) := by decide +kernel
theorem dL_law_563 : decode cL_law 563 = .ok (.aload_n 1, 1) := by decide +kernel
theorem dL_law_564 : decode cL_law 564 = .ok (.aload_n 0, 1) := by decide +kernel
theorem dL_law_565 : decode cL_law 565 = .ok (.iload 4, 2) := by decide +kernel
theorem dL_law_567 : decode cL_law 567 = .ok (.iconst 1, 1) := by decide +kernel
theorem dL_law_568 : decode cL_law 568 = .ok (.iadd, 1) := by decide +kernel
theorem dL_law_569 : decode cL_law 569 = .ok (.iaload, 1) := by decide +kernel
theorem dL_law_570 : decode cL_law 570 = .ok (.aload_n 0, 1) := by decide +kernel
theorem dL_law_571 : decode cL_law 571 = .ok (.iload 4, 2) := by decide +kernel
theorem dL_law_573 : decode cL_law 573 = .ok (.iconst 2, 1) := by decide +kernel
theorem dL_law_574 : decode cL_law 574 = .ok (.iadd, 1) := by decide +kernel
theorem dL_law_575 : decode cL_law 575 = .ok (.iaload, 1) := by decide +kernel
theorem dL_law_576 : decode cL_law 576 = .ok (.invokevirtual 70, 3) := by decide +kernel
theorem dL_law_579 : decode cL_law 579 = .ok (.aload_n 2, 1) := by decide +kernel
theorem dL_law_580 : decode cL_law 580 = .ok (.aload_n 0, 1) := by decide +kernel
theorem dL_law_581 : decode cL_law 581 = .ok (.iload 4, 2) := by decide +kernel
theorem dL_law_583 : decode cL_law 583 = .ok (.iconst 1, 1) := by decide +kernel
theorem dL_law_584 : decode cL_law 584 = .ok (.iadd, 1) := by decide +kernel
theorem dL_law_585 : decode cL_law 585 = .ok (.iaload, 1) := by decide +kernel
theorem dL_law_586 : decode cL_law 586 = .ok (.aload_n 0, 1) := by decide +kernel
theorem dL_law_587 : decode cL_law 587 = .ok (.iload 4, 2) := by decide +kernel
theorem dL_law_589 : decode cL_law 589 = .ok (.iconst 2, 1) := by decide +kernel
theorem dL_law_590 : decode cL_law 590 = .ok (.iadd, 1) := by decide +kernel
theorem dL_law_591 : decode cL_law 591 = .ok (.iaload, 1) := by decide +kernel
theorem dL_law_592 : decode cL_law 592 = .ok (.invokevirtual 73, 3) := by decide +kernel
theorem dL_law_595 : decode cL_law 595 = .ok (.if_icmp .eq 30, 3) := by decide +kernel
theorem dL_law_598 : decode cL_law 598 = .ok (.iconst 0, 1) := by decide +kernel
theorem dL_law_599 : decode cL_law 599 = .ok (.ireturn, 1) := by decide +kernel
theorem dL_law_600 : decode cL_law 600 = .ok (.aload_n 1, 1) := by decide +kernel
theorem dL_law_601 : decode cL_law 601 = .ok (.aload_n 0, 1) := by decide +kernel
theorem dL_law_602 : decode cL_law 602 = .ok (.iload 4, 2) := by decide +kernel
theorem dL_law_604 : decode cL_law 604 = .ok (.iconst 1, 1) := by decide +kernel
theorem dL_law_605 : decode cL_law 605 = .ok (.iadd, 1) := by decide +kernel
theorem dL_law_606 : decode cL_law 606 = .ok (.iaload, 1) := by decide +kernel
theorem dL_law_607 : decode cL_law 607 = .ok (.invokevirtual 74, 3) := by decide +kernel
theorem dL_law_610 : decode cL_law 610 = .ok (.aload_n 2, 1) := by decide +kernel
theorem dL_law_611 : decode cL_law 611 = .ok (.aload_n 0, 1) := by decide +kernel
theorem dL_law_612 : decode cL_law 612 = .ok (.iload 4, 2) := by decide +kernel
theorem dL_law_614 : decode cL_law 614 = .ok (.iconst 1, 1) := by decide +kernel
theorem dL_law_615 : decode cL_law 615 = .ok (.iadd, 1) := by decide +kernel
theorem dL_law_616 : decode cL_law 616 = .ok (.iaload, 1) := by decide +kernel
theorem dL_law_617 : decode cL_law 617 = .ok (.invokevirtual 77, 3) := by decide +kernel
theorem dL_law_620 : decode cL_law 620 = .ok (.if_icmp .eq 5, 3) := by decide +kernel
theorem dL_law_623 : decode cL_law 623 = .ok (.iconst 0, 1) := by decide +kernel
theorem dL_law_624 : decode cL_law 624 = .ok (.ireturn, 1) := by decide +kernel
theorem dL_law_625 : decode cL_law 625 = .ok (.iinc 4 7, 3) := by decide +kernel
theorem dL_law_628 : decode cL_law 628 = .ok (.goto (-605), 3) := by decide +kernel
theorem dL_law_631 : decode cL_law 631 = .ok (.iconst 1, 1) := by decide +kernel
theorem dL_law_632 : decode cL_law 632 = .ok (.ireturn, 1) := by decide +kernel
abbrev vwCl : List vw_C := [(RX0, TX0, 19)]
/-! ===== END printed: names ===== -/
end
section
/-! PURE: counting, finding, the closure (no machine) -/
/-- how many of the k numbers from i on have P -/
def pu_cnt (P : Nat → Bool) : Nat → Nat → Nat
  | 0, _ => 0
  | k + 1, i => (if P i then 1 else 0) + pu_cnt P k (i + 1)
/-- the first of the k numbers from i on with P, or 0 -/
def pu_fst (P : Nat → Bool) : Nat → Nat → Nat
  | 0, _ => 0
  | k + 1, i => if P i then i else pu_fst P k (i + 1)
/-- the n-th (from 0) of the k numbers from i on with P, or 0 -/
def pu_nth (P : Nat → Bool) : Nat → Nat → Nat → Nat
  | 0, _, _ => 0
  | k + 1, i, n => if P i then (if n = 0 then i else pu_nth P k (i + 1) (n - 1)) else pu_nth P k (i + 1) n
def pu_sum (f : Nat → Nat) : Nat → Nat → Nat
  | 0, _ => 0
  | k + 1, i => f i + pu_sum f k (i + 1)
/-- the left-th pair, by rows p, as 61 p + q; 0 if there is none -/
def pu_at (F : Nat → Nat → Bool) (n : Nat) : Nat → Nat → Nat → Nat
  | 0, _, _ => 0
  | k + 1, p, left => if left < pu_cnt (F p) n 1 then 61 * p + pu_nth (F p) n 1 left else pu_at F n k (p + 1) (left - pu_cnt (F p) n 1)
/-- the second one of the first pair with P, or 0 -/
def pu_fst2 (P : Nat → Nat → Bool) (n : Nat) : Nat → Nat → Nat
  | 0, _ => 0
  | k + 1, p => if pu_fst (P p) n 1 = 0 then pu_fst2 P n k (p + 1) else pu_fst (P p) n 1
/-- the first rule that is broken: b r is the number that it names, 0 for none -/
def pu_chk (b : Nat → Nat) : Nat → Nat → Nat
  | 0, _ => 0
  | k + 1, r => if b r = 0 then pu_chk b k (r + 1) else 1000 * r + b r
/-! one step -/
theorem pu_cnt_t {P : Nat → Bool} {k i : Nat} (h : P i = true) : pu_cnt P (k + 1) i = 1 + pu_cnt P k (i + 1) := by simp [pu_cnt, h]
theorem pu_cnt_f {P : Nat → Bool} {k i : Nat} (h : P i = false) : pu_cnt P (k + 1) i = pu_cnt P k (i + 1) := by simp [pu_cnt, h]
theorem pu_fst_t {P : Nat → Bool} {k i : Nat} (h : P i = true) : pu_fst P (k + 1) i = i := by simp [pu_fst, h]
theorem pu_fst_f {P : Nat → Bool} {k i : Nat} (h : P i = false) : pu_fst P (k + 1) i = pu_fst P k (i + 1) := by simp [pu_fst, h]
theorem pu_nth_t {P : Nat → Bool} {k i n : Nat} (h : P i = true) (hn : n = 0) : pu_nth P (k + 1) i n = i := by simp [pu_nth, h, hn]
theorem pu_nth_n {P : Nat → Bool} {k i n : Nat} (h : P i = true) (hn : n ≠ 0) : pu_nth P (k + 1) i n = pu_nth P k (i + 1) (n - 1) := by simp [pu_nth, h, hn]
theorem pu_nth_f {P : Nat → Bool} {k i n : Nat} (h : P i = false) : pu_nth P (k + 1) i n = pu_nth P k (i + 1) n := by simp [pu_nth, h]
theorem pu_fst2_n {P : Nat → Nat → Bool} {n k p : Nat} (h : pu_fst (P p) n 1 = 0) : pu_fst2 P n (k + 1) p = pu_fst2 P n k (p + 1) := by simp [pu_fst2, h]
theorem pu_fst2_y {P : Nat → Nat → Bool} {n k p j : Nat} (h : pu_fst (P p) n 1 = j) (hj : j ≠ 0) : pu_fst2 P n (k + 1) p = j := by simp [pu_fst2, h, hj]
theorem pu_chk_n {b : Nat → Nat} {k r : Nat} (h : b r = 0) : pu_chk b (k + 1) r = pu_chk b k (r + 1) := by simp [pu_chk, h]
theorem pu_chk_y {b : Nat → Nat} {k r z : Nat} (h : b r = z) (hz : z ≠ 0) : pu_chk b (k + 1) r = 1000 * r + z := by simp [pu_chk, h, hz]
theorem pu_at_y {F : Nat → Nat → Bool} {n k p t : Nat} (h : t < pu_cnt (F p) n 1) : pu_at F n (k + 1) p t = 61 * p + pu_nth (F p) n 1 t := by simp [pu_at, h]
theorem pu_at_n {F : Nat → Nat → Bool} {n k p t : Nat} (h : ¬ t < pu_cnt (F p) n 1) : pu_at F n (k + 1) p t = pu_at F n k (p + 1) (t - pu_cnt (F p) n 1) := by simp [pu_at, h]
theorem pu_cnt_le (P : Nat → Bool) : ∀ (k i : Nat), pu_cnt P k i ≤ k := by
  intro k
  induction k with
  | zero => intro i; exact Nat.le_refl 0
  | succ k ih =>
    intro i
    have h := ih (i + 1)
    simp only [pu_cnt]
    split <;> omega
theorem pu_cnt_congr {P Q : Nat → Bool} : ∀ (k i : Nat), (∀ j, i ≤ j → j < i + k → P j = Q j) → pu_cnt P k i = pu_cnt Q k i := by
  intro k
  induction k with
  | zero => intro i _; rfl
  | succ k ih =>
    intro i h
    simp only [pu_cnt]
    rw [h i (Nat.le_refl i) (by omega), ih (i + 1) (fun j h1 h2 => h j (by omega) (by omega))]
theorem pu_cnt_none {P : Nat → Bool} : ∀ (k i : Nat), (∀ j, i ≤ j → j < i + k → P j = false) → pu_cnt P k i = 0 := by
  intro k
  induction k with
  | zero => intro i _; rfl
  | succ k ih =>
    intro i h
    simp only [pu_cnt]
    rw [h i (Nat.le_refl i) (by omega), ih (i + 1) (fun j h1 h2 => h j (by omega) (by omega))]
    rfl
theorem pu_cnt_add (P : Nat → Bool) : ∀ (k l i : Nat), pu_cnt P (k + l) i = pu_cnt P k i + pu_cnt P l (i + k) := by
  intro k
  induction k with
  | zero => intro l i; simp [pu_cnt]
  | succ k ih =>
    intro l i
    rw [show k + 1 + l = (k + l) + 1 by omega]
    simp only [pu_cnt]
    rw [ih l (i + 1), show i + 1 + k = i + (k + 1) by omega]
    omega
theorem pu_fst_congr {P Q : Nat → Bool} : ∀ (k i : Nat), (∀ j, i ≤ j → j < i + k → P j = Q j) → pu_fst P k i = pu_fst Q k i := by
  intro k
  induction k with
  | zero => intro i _; rfl
  | succ k ih =>
    intro i h
    simp only [pu_fst]
    rw [h i (Nat.le_refl i) (by omega), ih (i + 1) (fun j h1 h2 => h j (by omega) (by omega))]
theorem pu_fst_lt (P : Nat → Bool) : ∀ (k i : Nat), pu_fst P k i < i + k ∨ pu_fst P k i = 0 := by
  intro k
  induction k with
  | zero => intro i; exact Or.inr rfl
  | succ k ih =>
    intro i
    simp only [pu_fst]
    split
    · exact Or.inl (by omega)
    · rcases ih (i + 1) with h | h
      · exact Or.inl (by omega)
      · exact Or.inr h
theorem pu_nth_congr {P Q : Nat → Bool} : ∀ (k i n : Nat), (∀ j, i ≤ j → j < i + k → P j = Q j) → pu_nth P k i n = pu_nth Q k i n := by
  intro k
  induction k with
  | zero => intro i n _; rfl
  | succ k ih =>
    intro i n h
    simp only [pu_nth]
    rw [h i (Nat.le_refl i) (by omega), ih (i + 1) n (fun j h1 h2 => h j (by omega) (by omega)), ih (i + 1) (n - 1) (fun j h1 h2 => h j (by omega) (by omega))]
theorem pu_nth_none {P : Nat → Bool} : ∀ (k i n : Nat), pu_cnt P k i ≤ n → pu_nth P k i n = 0 := by
  intro k
  induction k with
  | zero => intro i n _; rfl
  | succ k ih =>
    intro i n h
    simp only [pu_cnt] at h
    simp only [pu_nth]
    by_cases hp : P i = true
    · rw [if_pos hp] at h ⊢
      rw [if_neg (by omega)]
      exact ih (i + 1) (n - 1) (by omega)
    · rw [if_neg hp] at h ⊢
      exact ih (i + 1) n (by omega)
theorem pu_nth_in {P : Nat → Bool} : ∀ (k i n : Nat), n < pu_cnt P k i → i ≤ pu_nth P k i n ∧ pu_nth P k i n < i + k := by
  intro k
  induction k with
  | zero => intro i n h; simp [pu_cnt] at h
  | succ k ih =>
    intro i n h
    simp only [pu_cnt] at h
    simp only [pu_nth]
    by_cases hp : P i = true
    · rw [if_pos hp] at h ⊢
      by_cases hn : n = 0
      · rw [if_pos hn]; omega
      · rw [if_neg hn]
        have := ih (i + 1) (n - 1) (by omega)
        omega
    · rw [if_neg hp] at h ⊢
      have := ih (i + 1) n (by omega)
      omega
theorem pu_sum_congr {f g : Nat → Nat} : ∀ (k i : Nat), (∀ j, i ≤ j → j < i + k → f j = g j) → pu_sum f k i = pu_sum g k i := by
  intro k
  induction k with
  | zero => intro i _; rfl
  | succ k ih =>
    intro i h
    simp only [pu_sum]
    rw [h i (Nat.le_refl i) (by omega), ih (i + 1) (fun j h1 h2 => h j (by omega) (by omega))]
theorem pu_sum_le {f : Nat → Nat} {b : Nat} (hf : ∀ j, f j ≤ b) : ∀ (k i : Nat), pu_sum f k i ≤ k * b := by
  intro k
  induction k with
  | zero => intro i; exact Nat.zero_le _
  | succ k ih =>
    intro i
    have h1 := ih (i + 1)
    have h2 := hf i
    simp only [pu_sum]
    rw [Nat.succ_mul]
    omega
theorem pu_at_congr {F G : Nat → Nat → Bool} {n : Nat} : ∀ (k p left : Nat), (∀ a b, p ≤ a → a < p + k → 1 ≤ b → b < 1 + n → F a b = G a b) → pu_at F n k p left = pu_at G n k p left := by
  intro k
  induction k with
  | zero => intro p left _; rfl
  | succ k ih =>
    intro p left h
    have e1 : pu_cnt (F p) n 1 = pu_cnt (G p) n 1 := pu_cnt_congr n 1 (fun j h1 h2 => h p j (Nat.le_refl p) (by omega) h1 h2)
    have e2 : pu_nth (F p) n 1 left = pu_nth (G p) n 1 left := pu_nth_congr n 1 left (fun j h1 h2 => h p j (Nat.le_refl p) (by omega) h1 h2)
    simp only [pu_at]
    rw [e1, e2, ih (p + 1) _ (fun a b h1 h2 => h a b (by omega) (by omega))]
theorem pu_at_in {F : Nat → Nat → Bool} {n : Nat} : ∀ (k p left : Nat), pu_at F n k p left = 0 ∨ ∃ a b, p ≤ a ∧ a < p + k ∧ 1 ≤ b ∧ b < 1 + n ∧ pu_at F n k p left = 61 * a + b := by
  intro k
  induction k with
  | zero => intro p left; exact Or.inl rfl
  | succ k ih =>
    intro p left
    simp only [pu_at]
    split
    · rename_i h
      have h2 := pu_nth_in n 1 left h
      exact Or.inr ⟨p, _, Nat.le_refl p, by omega, h2.1, h2.2, rfl⟩
    · rcases ih (p + 1) (left - pu_cnt (F p) n 1) with h | ⟨a, b, h1, h2, h3, h4, h5⟩
      · exact Or.inl h
      · exact Or.inr ⟨a, b, by omega, by omega, h3, h4, h5⟩
theorem pu_fst2_congr {P Q : Nat → Nat → Bool} {n : Nat} : ∀ (k p : Nat), (∀ a b, p ≤ a → a < p + k → 1 ≤ b → b < 1 + n → P a b = Q a b) → pu_fst2 P n k p = pu_fst2 Q n k p := by
  intro k
  induction k with
  | zero => intro p _; rfl
  | succ k ih =>
    intro p h
    have e1 : pu_fst (P p) n 1 = pu_fst (Q p) n 1 := pu_fst_congr n 1 (fun j h1 h2 => h p j (Nat.le_refl p) (by omega) h1 h2)
    simp only [pu_fst2]
    rw [e1, ih (p + 1) (fun a b h1 h2 => h a b (by omega) (by omega))]
theorem pu_fst2_lt (P : Nat → Nat → Bool) (n : Nat) : ∀ (k p : Nat), pu_fst2 P n k p ≤ n := by
  intro k
  induction k with
  | zero => intro p; exact Nat.zero_le n
  | succ k ih =>
    intro p
    simp only [pu_fst2]
    split
    · exact ih (p + 1)
    · rcases pu_fst_lt (P p) n 1 with h | h
      · omega
      · omega
theorem pu_chk_congr {b c : Nat → Nat} : ∀ (k r : Nat), (∀ j, r ≤ j → j < r + k → b j = c j) → pu_chk b k r = pu_chk c k r := by
  intro k
  induction k with
  | zero => intro r _; rfl
  | succ k ih =>
    intro r h
    simp only [pu_chk]
    rw [h r (Nat.le_refl r) (by omega), ih (r + 1) (fun j h1 h2 => h j (by omega) (by omega))]
/-- Warshall: a row of L's from p to q with steps at 1 .. k alone -/
def pu_wl (L : Nat → Nat → Bool) : Nat → Nat → Nat → Bool
  | 0, p, q => L p q
  | k + 1, p, q => pu_wl L k p q || (pu_wl L k p (k + 1) && pu_wl L k (k + 1) q)
theorem pu_wl_s {L : Nat → Nat → Bool} {k p q : Nat} : pu_wl L (k + 1) p q = true ↔ pu_wl L k p q = true ∨ (pu_wl L k p (k + 1) = true ∧ pu_wl L k (k + 1) q = true) := by
  simp [pu_wl]
theorem pu_wl_up {L : Nat → Nat → Bool} {k p q : Nat} (h : pu_wl L k p q = true) : pu_wl L (k + 1) p q = true := pu_wl_s.mpr (Or.inl h)
theorem pu_wl_L {L : Nat → Nat → Bool} {p q : Nat} (h : L p q = true) : ∀ k, pu_wl L k p q = true := by
  intro k
  induction k with
  | zero => exact h
  | succ k ih => exact pu_wl_up ih
theorem pu_wl_to {L : Nat → Nat → Bool} {k p : Nat} : pu_wl L (k + 1) p (k + 1) = pu_wl L k p (k + 1) := by
  simp only [pu_wl]
  cases pu_wl L k p (k + 1) <;> simp
theorem pu_wl_from {L : Nat → Nat → Bool} {k q : Nat} : pu_wl L (k + 1) (k + 1) q = pu_wl L k (k + 1) q := by
  simp only [pu_wl]
  cases pu_wl L k (k + 1) q <;> simp
theorem pu_wl_trans {L : Nat → Nat → Bool} : ∀ (k p m q : Nat), 1 ≤ m → m ≤ k → pu_wl L k p m = true → pu_wl L k m q = true → pu_wl L k p q = true := by
  intro k
  induction k with
  | zero => intro p m q h1 h2; omega
  | succ k ih =>
    intro p m q h1 h2 ha hb
    by_cases hm : m = k + 1
    · subst hm
      rw [pu_wl_to] at ha
      rw [pu_wl_from] at hb
      exact pu_wl_s.mpr (Or.inr ⟨ha, hb⟩)
    · have hm2 : m ≤ k := by omega
      rcases pu_wl_s.mp ha with a | ⟨a1, a2⟩ <;> rcases pu_wl_s.mp hb with b | ⟨b1, b2⟩
      · exact pu_wl_up (ih p m q h1 hm2 a b)
      · exact pu_wl_s.mpr (Or.inr ⟨ih p m (k + 1) h1 hm2 a b1, b2⟩)
      · exact pu_wl_s.mpr (Or.inr ⟨a1, ih (k + 1) m q h1 hm2 a2 b⟩)
      · exact pu_wl_s.mpr (Or.inr ⟨a1, b2⟩)
theorem pu_wl_min {L S : Nat → Nat → Bool} {n : Nat} (hL : ∀ p q, 1 ≤ p → p ≤ n → 1 ≤ q → q ≤ n → L p q = true → S p q = true)
    (hS : ∀ p m q, 1 ≤ p → p ≤ n → 1 ≤ m → m ≤ n → 1 ≤ q → q ≤ n → S p m = true → S m q = true → S p q = true) :
    ∀ k, k ≤ n → ∀ p q, 1 ≤ p → p ≤ n → 1 ≤ q → q ≤ n → pu_wl L k p q = true → S p q = true := by
  intro k
  induction k with
  | zero => intro _ p q h1 h2 h3 h4 h; exact hL p q h1 h2 h3 h4 h
  | succ k ih =>
    intro hk p q h1 h2 h3 h4 h
    rcases pu_wl_s.mp h with a | ⟨a, b⟩
    · exact ih (by omega) p q h1 h2 h3 h4 a
    · exact hS p (k + 1) q h1 h2 (by omega) hk h3 h4 (ih (by omega) p (k + 1) h1 h2 (by omega) hk a) (ih (by omega) (k + 1) q (by omega) hk h3 h4 b)
theorem pu_wl_congr {L M : Nat → Nat → Bool} {n : Nat} (hL : ∀ p q, 1 ≤ p → p ≤ n → 1 ≤ q → q ≤ n → L p q = M p q) :
    ∀ k, k ≤ n → ∀ p q, 1 ≤ p → p ≤ n → 1 ≤ q → q ≤ n → pu_wl L k p q = pu_wl M k p q := by
  intro k
  induction k with
  | zero => intro _ p q h1 h2 h3 h4; exact hL p q h1 h2 h3 h4
  | succ k ih =>
    intro hk p q h1 h2 h3 h4
    simp only [pu_wl]
    rw [ih (by omega) p q h1 h2 h3 h4, ih (by omega) p (k + 1) h1 h2 (by omega) hk, ih (by omega) (k + 1) q (by omega) hk h3 h4]
/-- a new number, to which nothing leads and from which nothing leads, changes nothing -/
theorem pu_wl_in0 {L : Nat → Nat → Bool} {z : Nat} (hz : ∀ p, L p z = false) : ∀ k p, pu_wl L k p z = false := by
  intro k
  induction k with
  | zero => intro p; exact hz p
  | succ k ih => intro p; simp [pu_wl, ih]
theorem pu_wl_out0 {L : Nat → Nat → Bool} {z : Nat} (hz : ∀ q, L z q = false) : ∀ k q, pu_wl L k z q = false := by
  intro k
  induction k with
  | zero => intro q; exact hz q
  | succ k ih => intro q; simp [pu_wl, ih]
theorem pu_wl_new {L : Nat → Nat → Bool} {n : Nat} (hz : ∀ p, L p (n + 1) = false) (p q : Nat) : pu_wl L (n + 1) p q = pu_wl L n p q := by
  simp [pu_wl, pu_wl_in0 hz]
/-- one more connector a b: the closure grows by all that comes to a, with all that goes from b -/
def pu_add (R : Nat → Nat → Bool) (a b p q : Nat) : Bool := R p q || ((p == a || R p a) && (q == b || R b q))
theorem pu_wl_add {L M : Nat → Nat → Bool} {n a b : Nat} (ha1 : 1 ≤ a) (ha2 : a ≤ n) (hb1 : 1 ≤ b) (hb2 : b ≤ n)
    (hM : ∀ p q, 1 ≤ p → p ≤ n → 1 ≤ q → q ≤ n → M p q = (L p q || (p == a && q == b))) :
    ∀ p q, 1 ≤ p → p ≤ n → 1 ≤ q → q ≤ n → pu_add (pu_wl L n) a b p q = pu_wl M n p q := by
  have sub : ∀ p q, 1 ≤ p → p ≤ n → 1 ≤ q → q ≤ n → pu_wl L n p q = true → pu_wl M n p q = true := by
    refine pu_wl_min (fun p q h1 h2 h3 h4 h => pu_wl_L ?_ n) (fun p m q h1 h2 h3 h4 h5 h6 => pu_wl_trans n p m q h3 h4) n (Nat.le_refl n)
    rw [hM p q h1 h2 h3 h4, h]; rfl
  have hab : pu_wl M n a b = true := pu_wl_L (by rw [hM a b ha1 ha2 hb1 hb2]; simp) n
  intro p q h1 h2 h3 h4
  rw [Bool.eq_iff_iff]
  constructor
  · intro h
    simp only [pu_add, Bool.or_eq_true, Bool.and_eq_true, beq_iff_eq] at h
    rcases h with h | ⟨ha, hb⟩
    · exact sub p q h1 h2 h3 h4 h
    · have e1 : pu_wl M n p b = true := by
        rcases ha with ha | ha
        · rw [ha]; exact hab
        · exact pu_wl_trans n p a b ha1 ha2 (sub p a h1 h2 ha1 ha2 ha) hab
      rcases hb with hb | hb
      · rw [hb]; exact e1
      · exact pu_wl_trans n p b q hb1 hb2 e1 (sub b q hb1 hb2 h3 h4 hb)
  · refine pu_wl_min (S := fun p q => pu_add (pu_wl L n) a b p q) ?_ ?_ n (Nat.le_refl n) p q h1 h2 h3 h4
    · intro p q h1 h2 h3 h4 h
      rw [hM p q h1 h2 h3 h4] at h
      simp only [pu_add, Bool.or_eq_true, Bool.and_eq_true, beq_iff_eq] at h ⊢
      rcases h with h | ⟨h5, h6⟩
      · exact Or.inl (pu_wl_L h n)
      · exact Or.inr ⟨Or.inl h5, Or.inl h6⟩
    · intro p m q h1 h2 h3 h4 h5 h6 x y
      simp only [pu_add, Bool.or_eq_true, Bool.and_eq_true, beq_iff_eq] at x y ⊢
      rcases x with x | ⟨xa, xb⟩ <;> rcases y with y | ⟨ya, yb⟩
      · exact Or.inl (pu_wl_trans n p m q h3 h4 x y)
      · refine Or.inr ⟨Or.inr ?_, yb⟩
        rcases ya with ya | ya
        · rw [← ya]; exact x
        · exact pu_wl_trans n p m a h3 h4 x ya
      · refine Or.inr ⟨xa, Or.inr ?_⟩
        rcases xb with xb | xb
        · rw [← xb]; exact y
        · exact pu_wl_trans n b m q h3 h4 xb y
      · exact Or.inr ⟨xa, yb⟩
end
section
/-! BITS of a long: lb x j is bit j of x; ux x is x as an unsigned number -/
def lb (x : Int64) (j : Nat) : Bool := x.toBitVec.getLsbD j
def ux (x : Int64) : Nat := x.toUInt64.toNat
theorem lb_ux (x : Int64) (j : Nat) : (ux x).testBit j = lb x j := rfl
theorem lb_and (x y : Int64) (j : Nat) : lb (x &&& y) j = (lb x j && lb y j) := by simp [lb]
theorem lb_or (x y : Int64) (j : Nat) : lb (x ||| y) j = (lb x j || lb y j) := by simp [lb]
theorem lb_0 (j : Nat) : lb 0 j = false := by simp [lb]
theorem lb_big {x : Int64} {j : Nat} (h : 64 ≤ j) : lb x j = false := BitVec.getLsbD_of_ge _ _ h
theorem lb_ext {x y : Int64} (h : ∀ j, j < 64 → lb x j = lb y j) : x = y := by
  apply Int64.toBitVec_inj.mp
  exact BitVec.eq_of_getLsbD_eq h
theorem lb_m1 : ∀ j, j < 64 → lb (-1) j = true := by decide +kernel
theorem lb_xor (x y : Int64) (j : Nat) : lb (x ^^^ y) j = (lb x j ^^ lb y j) := by simp [lb]
theorem lb_not (x : Int64) {j : Nat} (hj : j < 64) : lb (x ^^^ (-1)) j = !lb x j := by
  rw [lb_xor, lb_m1 j hj]
  cases lb x j <;> rfl
/-- the one bit p -/
def lbit (p : Nat) : Int64 := (1 : Int64) <<< ((nI p).toInt64 &&& 63)
theorem lbit_bv : ∀ p, p < 64 → (lbit p).toBitVec = BitVec.twoPow 64 p := by decide +kernel
theorem lb_bit {p : Nat} (hp : p < 64) (j : Nat) : lb (lbit p) j = decide (p = j) := by
  unfold lb
  rw [lbit_bv p hp, BitVec.getLsbD_twoPow]
  simp [hp]
theorem lb_hold (x : Int64) {p : Nat} (hp : p < 64) : x &&& lbit p = 0 ↔ lb x p = false := by
  constructor
  · intro h
    have h1 := lb_and x (lbit p) p
    rw [h, lb_0, lb_bit hp] at h1
    simpa using h1.symm
  · intro h
    refine lb_ext fun j hj => ?_
    rw [lb_and, lb_0, lb_bit hp]
    by_cases e : p = j
    · subst e; simp [h]
    · simp [e]
theorem lb_holdn (x : Int64) {p : Nat} (hp : p < 64) : ¬ x &&& lbit p = 0 ↔ lb x p = true := by
  rw [lb_hold x hp]
  cases lb x p <;> simp
/-! how many bits: the JDK's Long.bitCount -/
theorem ux_lt (x : Int64) : ux x < 18446744073709551616 := x.toUInt64.toNat_lt
theorem ux_add (x y : Int64) : ux (x + y) = (ux x + ux y) % 18446744073709551616 := by
  show (x.toUInt64 + y.toUInt64).toNat = _
  exact UInt64.toNat_add _ _
theorem ux_sub (x y : Int64) : ux (x - y) = (18446744073709551616 - ux y + ux x) % 18446744073709551616 := by
  show (x.toUInt64 - y.toUInt64).toNat = _
  exact UInt64.toNat_sub _ _
theorem ux_and (x y : Int64) : ux (x &&& y) = ux x &&& ux y := by
  show (x.toUInt64 &&& y.toUInt64).toNat = _
  exact UInt64.toNat_and _ _
theorem ux_shr (x : Int64) (s : UInt64) : ux (x.toUInt64 >>> s).toInt64 = ux x / 2 ^ (s.toNat % 64) := by
  show (x.toUInt64 >>> s).toNat = _
  rw [UInt64.toNat_shiftRight, Nat.shiftRight_eq_div_pow]
  rfl
def lsr (x : Int64) (k : Int32) : Int64 := (x.toUInt64 >>> (k.toInt64.toUInt64 &&& Int64.toUInt64 63)).toInt64
theorem ux_lsr (x : Int64) {k : Int32} (n : Nat) (h : (k.toInt64.toUInt64 &&& Int64.toUInt64 63).toNat % 64 = n) : ux (lsr x k) = ux x / 2 ^ n := by
  unfold lsr
  rw [ux_shr, h]
def bc1 (x : Int64) : Int64 := x - (lsr x 1 &&& 6148914691236517205)
def bc2 (x : Int64) : Int64 := (x &&& 3689348814741910323) + (lsr x 2 &&& 3689348814741910323)
def bc3 (x : Int64) : Int64 := (x + lsr x 4) &&& 1085102592571150095
def bc4 (x : Int64) : Int64 := x + lsr x 8
def bc5 (x : Int64) : Int64 := x + lsr x 16
def bc6 (x : Int64) : Int64 := x + lsr x 32
def bcv (x : Int64) : Int32 := (bc6 (bc5 (bc4 (bc3 (bc2 (bc1 x)))))).toInt32 &&& 127
def by8 (a b c d e f g h : Nat) : Nat := a + 256 * (b + 256 * (c + 256 * (d + 256 * (e + 256 * (f + 256 * (g + 256 * h))))))
theorem by_and {b c : Nat} (m n : Nat) (hb : b < 256) (hc : c < 256) : (b + 256 * m) &&& (c + 256 * n) = (b &&& c) + 256 * (m &&& n) := by
  have h1 : (b &&& c) < 256 := Nat.lt_of_le_of_lt Nat.and_le_left hb
  have e1 : ((b + 256 * m) &&& (c + 256 * n)) % 2 ^ 8 = ((b &&& c) + 256 * (m &&& n)) % 2 ^ 8 := by
    rw [Nat.and_mod_two_pow, show (b + 256 * m) % 2 ^ 8 = b by omega, show (c + 256 * n) % 2 ^ 8 = c by omega]
    omega
  have e2 : ((b + 256 * m) &&& (c + 256 * n)) / 2 ^ 8 = ((b &&& c) + 256 * (m &&& n)) / 2 ^ 8 := by
    rw [Nat.and_div_two_pow, show (b + 256 * m) / 2 ^ 8 = m by omega, show (c + 256 * n) / 2 ^ 8 = n by omega]
    omega
  omega
theorem by8_and {a b c d e f g h k : Nat} (h1 : a < 256) (h2 : b < 256) (h3 : c < 256) (h4 : d < 256) (h5 : e < 256) (h6 : f < 256) (h7 : g < 256) (hk : k < 256) :
    by8 a b c d e f g h &&& by8 k k k k k k k k = by8 (a &&& k) (b &&& k) (c &&& k) (d &&& k) (e &&& k) (f &&& k) (g &&& k) (h &&& k) := by
  unfold by8
  rw [by_and _ _ h1 hk, by_and _ _ h2 hk, by_and _ _ h3 hk, by_and _ _ h4 hk, by_and _ _ h5 hk, by_and _ _ h6 hk, by_and _ _ h7 hk]
theorem by_d1 : ∀ b, b < 256 → ∀ c, c < 2 → (b / 2 + 128 * c) &&& 85 = (b / 2) &&& 85 := by decide +kernel
theorem by_d2 : ∀ b, b < 256 → ∀ c, c < 4 → (b / 4 + 64 * c) &&& 51 = (b / 4) &&& 51 := by decide +kernel
def by_g1 (b : Nat) : Nat := b - ((b / 2) &&& 85)
def by_g2 (b : Nat) : Nat := (b &&& 51) + ((b / 4) &&& 51)
def by_p (b : Nat) : Nat := pu_cnt (fun j => b.testBit j) 8 0
theorem by_p_le (b : Nat) : by_p b ≤ 8 := pu_cnt_le _ 8 0
theorem by_d3 : ∀ b, b < 256 → ((b / 2) &&& 85) ≤ b ∧ by_g1 b < 256 ∧ by_g2 (by_g1 b) ≤ 68 ∧ by_g2 (by_g1 b) % 16 ≤ 4 := by decide +kernel
theorem by_d4 : ∀ b, b < 256 → ∀ c, c < 5 → (by_g2 (by_g1 b) + by_g2 (by_g1 b) / 16 + 16 * c) &&& 15 = by_p b := by decide +kernel
theorem by_d5 : ∀ b, b < 256 → (by_g2 (by_g1 b) + by_g2 (by_g1 b) / 16) &&& 15 = by_p b := by decide +kernel
theorem by_e (n : Nat) (hn : n < 18446744073709551616) : n = by8 (n % 256) (n / 256 % 256) (n / 65536 % 256) (n / 16777216 % 256) (n / 4294967296 % 256) (n / 1099511627776 % 256) (n / 281474976710656 % 256) (n / 72057594037927936 % 256) := by
  unfold by8
  omega
theorem by_shift (P : Nat → Bool) (s : Nat) : ∀ (k i : Nat), pu_cnt P k (i + s) = pu_cnt (fun j => P (j + s)) k i := by
  intro k
  induction k with
  | zero => intro i; rfl
  | succ k ih =>
    intro i
    simp only [pu_cnt]
    rw [show i + s + 1 = (i + 1) + s by omega, ih (i + 1)]
theorem by_part (n i : Nat) : pu_cnt (fun j => n.testBit j) 8 (8 * i) = by_p (n / 2 ^ (8 * i) % 256) := by
  have e := by_shift (fun j => n.testBit j) (8 * i) 8 0
  rw [Nat.zero_add] at e
  rw [e]
  unfold by_p
  refine pu_cnt_congr 8 0 (fun j _ h => ?_)
  rw [show (256 : Nat) = 2 ^ 8 from rfl, Nat.testBit_mod_two_pow, Nat.testBit_div_two_pow]
  simp [show j < 8 by omega]
theorem by_all (n : Nat) : pu_cnt (fun j => n.testBit j) 64 0 = by_p (n % 256) + by_p (n / 256 % 256) + by_p (n / 65536 % 256) + by_p (n / 16777216 % 256) + by_p (n / 4294967296 % 256) + by_p (n / 1099511627776 % 256) + by_p (n / 281474976710656 % 256) + by_p (n / 72057594037927936 % 256) := by
  have h0 := by_part n 0
  have h1 := by_part n 1
  have h2 := by_part n 2
  have h3 := by_part n 3
  have h4 := by_part n 4
  have h5 := by_part n 5
  have h6 := by_part n 6
  have h7 := by_part n 7
  simp only [Nat.reduceMul, Nat.reducePow, Nat.div_one] at h0 h1 h2 h3 h4 h5 h6 h7
  have a0 : pu_cnt (fun j => n.testBit j) 64 0 = pu_cnt (fun j => n.testBit j) 8 0 + pu_cnt (fun j => n.testBit j) 56 8 := pu_cnt_add (fun j => n.testBit j) 8 56 0
  have a1 : pu_cnt (fun j => n.testBit j) 56 8 = pu_cnt (fun j => n.testBit j) 8 8 + pu_cnt (fun j => n.testBit j) 48 16 := pu_cnt_add (fun j => n.testBit j) 8 48 8
  have a2 : pu_cnt (fun j => n.testBit j) 48 16 = pu_cnt (fun j => n.testBit j) 8 16 + pu_cnt (fun j => n.testBit j) 40 24 := pu_cnt_add (fun j => n.testBit j) 8 40 16
  have a3 : pu_cnt (fun j => n.testBit j) 40 24 = pu_cnt (fun j => n.testBit j) 8 24 + pu_cnt (fun j => n.testBit j) 32 32 := pu_cnt_add (fun j => n.testBit j) 8 32 24
  have a4 : pu_cnt (fun j => n.testBit j) 32 32 = pu_cnt (fun j => n.testBit j) 8 32 + pu_cnt (fun j => n.testBit j) 24 40 := pu_cnt_add (fun j => n.testBit j) 8 24 32
  have a5 : pu_cnt (fun j => n.testBit j) 24 40 = pu_cnt (fun j => n.testBit j) 8 40 + pu_cnt (fun j => n.testBit j) 16 48 := pu_cnt_add (fun j => n.testBit j) 8 16 40
  have a6 : pu_cnt (fun j => n.testBit j) 16 48 = pu_cnt (fun j => n.testBit j) 8 48 + pu_cnt (fun j => n.testBit j) 8 56 := pu_cnt_add (fun j => n.testBit j) 8 8 48
  rw [a0, a1, a2, a3, a4, a5, a6, h0, h1, h2, h3, h4, h5, h6, h7]
  omega
/-- the five steps on the eight bytes -/
theorem by_s1 {a b c d e f g h : Nat} (ha : a < 256) (hb : b < 256) (hc : c < 256) (hd : d < 256) (he : e < 256) (hf : f < 256) (hg : g < 256) (hh : h < 256) :
    by8 a b c d e f g h - ((by8 a b c d e f g h / 2) &&& 6148914691236517205) = by8 (by_g1 a) (by_g1 b) (by_g1 c) (by_g1 d) (by_g1 e) (by_g1 f) (by_g1 g) (by_g1 h) := by
  have e1 : by8 a b c d e f g h / 2 = by8 (a / 2 + 128 * (b % 2)) (b / 2 + 128 * (c % 2)) (c / 2 + 128 * (d % 2)) (d / 2 + 128 * (e % 2)) (e / 2 + 128 * (f % 2)) (f / 2 + 128 * (g % 2)) (g / 2 + 128 * (h % 2)) (h / 2 + 128 * 0) := by
    unfold by8; omega
  rw [e1, show (6148914691236517205 : Nat) = by8 85 85 85 85 85 85 85 85 from rfl, by8_and (by omega) (by omega) (by omega) (by omega) (by omega) (by omega) (by omega) (by decide)]
  rw [by_d1 a ha (b % 2) (by omega), by_d1 b hb (c % 2) (by omega), by_d1 c hc (d % 2) (by omega), by_d1 d hd (e % 2) (by omega), by_d1 e he (f % 2) (by omega), by_d1 f hf (g % 2) (by omega), by_d1 g hg (h % 2) (by omega), by_d1 h hh 0 (by omega)]
  have a1 := (by_d3 a ha).1
  have a2 := (by_d3 b hb).1
  have a3 := (by_d3 c hc).1
  have a4 := (by_d3 d hd).1
  have a5 := (by_d3 e he).1
  have a6 := (by_d3 f hf).1
  have a7 := (by_d3 g hg).1
  have a8 := (by_d3 h hh).1
  unfold by8 by_g1
  generalize (a / 2) &&& 85 = x1 at *
  generalize (b / 2) &&& 85 = x2 at *
  generalize (c / 2) &&& 85 = x3 at *
  generalize (d / 2) &&& 85 = x4 at *
  generalize (e / 2) &&& 85 = x5 at *
  generalize (f / 2) &&& 85 = x6 at *
  generalize (g / 2) &&& 85 = x7 at *
  generalize (h / 2) &&& 85 = x8 at *
  omega
theorem by_s2 {a b c d e f g h : Nat} (ha : a < 256) (hb : b < 256) (hc : c < 256) (hd : d < 256) (he : e < 256) (hf : f < 256) (hg : g < 256) (hh : h < 256) :
    (by8 a b c d e f g h &&& 3689348814741910323) + ((by8 a b c d e f g h / 4) &&& 3689348814741910323) = by8 (by_g2 a) (by_g2 b) (by_g2 c) (by_g2 d) (by_g2 e) (by_g2 f) (by_g2 g) (by_g2 h) := by
  have e1 : by8 a b c d e f g h / 4 = by8 (a / 4 + 64 * (b % 4)) (b / 4 + 64 * (c % 4)) (c / 4 + 64 * (d % 4)) (d / 4 + 64 * (e % 4)) (e / 4 + 64 * (f % 4)) (f / 4 + 64 * (g % 4)) (g / 4 + 64 * (h % 4)) (h / 4 + 64 * 0) := by
    unfold by8; omega
  rw [e1, show (3689348814741910323 : Nat) = by8 51 51 51 51 51 51 51 51 from rfl, by8_and (by omega) (by omega) (by omega) (by omega) (by omega) (by omega) (by omega) (by decide), by8_and (by omega) (by omega) (by omega) (by omega) (by omega) (by omega) (by omega) (by decide)]
  rw [by_d2 a ha (b % 4) (by omega), by_d2 b hb (c % 4) (by omega), by_d2 c hc (d % 4) (by omega), by_d2 d hd (e % 4) (by omega), by_d2 e he (f % 4) (by omega), by_d2 f hf (g % 4) (by omega), by_d2 g hg (h % 4) (by omega), by_d2 h hh 0 (by omega)]
  unfold by8 by_g2
  omega
theorem by_s3 {a b c d e f g h : Nat} (ha : a < 256) (hb : b < 256) (hc : c < 256) (hd : d < 256) (he : e < 256) (hf : f < 256) (hg : g < 256) (hh : h < 256) :
    (by8 (by_g2 (by_g1 a)) (by_g2 (by_g1 b)) (by_g2 (by_g1 c)) (by_g2 (by_g1 d)) (by_g2 (by_g1 e)) (by_g2 (by_g1 f)) (by_g2 (by_g1 g)) (by_g2 (by_g1 h)) + by8 (by_g2 (by_g1 a)) (by_g2 (by_g1 b)) (by_g2 (by_g1 c)) (by_g2 (by_g1 d)) (by_g2 (by_g1 e)) (by_g2 (by_g1 f)) (by_g2 (by_g1 g)) (by_g2 (by_g1 h)) / 16) &&& 1085102592571150095 = by8 (by_p a) (by_p b) (by_p c) (by_p d) (by_p e) (by_p f) (by_p g) (by_p h) := by
  have a1 := (by_d3 a ha).2.2
  have a2 := (by_d3 b hb).2.2
  have a3 := (by_d3 c hc).2.2
  have a4 := (by_d3 d hd).2.2
  have a5 := (by_d3 e he).2.2
  have a6 := (by_d3 f hf).2.2
  have a7 := (by_d3 g hg).2.2
  have a8 := (by_d3 h hh).2.2
  have d1 := fun x hx => by_d4 a ha x hx
  have d2 := fun x hx => by_d4 b hb x hx
  have d3 := fun x hx => by_d4 c hc x hx
  have d4 := fun x hx => by_d4 d hd x hx
  have d5 := fun x hx => by_d4 e he x hx
  have d6 := fun x hx => by_d4 f hf x hx
  have d7 := fun x hx => by_d4 g hg x hx
  have d8 := fun x hx => by_d4 h hh x hx
  generalize by_g2 (by_g1 a) = x1 at *
  generalize by_g2 (by_g1 b) = x2 at *
  generalize by_g2 (by_g1 c) = x3 at *
  generalize by_g2 (by_g1 d) = x4 at *
  generalize by_g2 (by_g1 e) = x5 at *
  generalize by_g2 (by_g1 f) = x6 at *
  generalize by_g2 (by_g1 g) = x7 at *
  generalize by_g2 (by_g1 h) = x8 at *
  have e1 : by8 x1 x2 x3 x4 x5 x6 x7 x8 + by8 x1 x2 x3 x4 x5 x6 x7 x8 / 16 = by8 (x1 + x1 / 16 + 16 * (x2 % 16)) (x2 + x2 / 16 + 16 * (x3 % 16)) (x3 + x3 / 16 + 16 * (x4 % 16)) (x4 + x4 / 16 + 16 * (x5 % 16)) (x5 + x5 / 16 + 16 * (x6 % 16)) (x6 + x6 / 16 + 16 * (x7 % 16)) (x7 + x7 / 16 + 16 * (x8 % 16)) (x8 + x8 / 16 + 16 * 0) := by
    unfold by8; omega
  rw [e1, show (1085102592571150095 : Nat) = by8 15 15 15 15 15 15 15 15 from rfl, by8_and (by omega) (by omega) (by omega) (by omega) (by omega) (by omega) (by omega) (by decide)]
  rw [d1 _ (by omega), d2 _ (by omega), d3 _ (by omega), d4 _ (by omega), d5 _ (by omega), d6 _ (by omega), d7 _ (by omega), d8 _ (by omega)]
theorem by8_d1 {a b c d e f g h : Nat} (ha : a < 256) : by8 a b c d e f g h / 256 = by8 b c d e f g h 0 := by
  unfold by8; omega
theorem by8_d2 {a b c d e f g h : Nat} (ha : a < 256) (hb : b < 256) : by8 a b c d e f g h / 65536 = by8 c d e f g h 0 0 := by
  rw [show (65536 : Nat) = 256 * 256 from rfl, ← Nat.div_div_eq_div_mul, by8_d1 ha, by8_d1 hb]
theorem by8_d4 {a b c d e f g h : Nat} (ha : a < 256) (hb : b < 256) (hc : c < 256) (hd : d < 256) : by8 a b c d e f g h / 4294967296 = by8 e f g h 0 0 0 0 := by
  rw [show (4294967296 : Nat) = 65536 * 65536 from rfl, ← Nat.div_div_eq_div_mul, by8_d2 ha hb, by8_d2 hc hd]
theorem by8_add (a b c d e f g h a' b' c' d' e' f' g' h' : Nat) : by8 a b c d e f g h + by8 a' b' c' d' e' f' g' h' = by8 (a + a') (b + b') (c + c') (d + d') (e + e') (f + f') (g + g') (h + h') := by
  unfold by8; omega
theorem by8_lt {a b c d e f g h : Nat} (ha : a < 256) (hb : b < 256) (hc : c < 256) (hd : d < 256) (he : e < 256) (hf : f < 256) (hg : g < 256) (hh : h < 256) : by8 a b c d e f g h < 18446744073709551616 := by
  unfold by8; omega
theorem by_s4 {a b c d e f g h n1 n2 n3 : Nat} (ha : a ≤ 8) (hb : b ≤ 8) (hc : c ≤ 8) (hd : d ≤ 8) (he : e ≤ 8) (hf : f ≤ 8) (hg : g ≤ 8) (hh : h ≤ 8)
    (e1 : n1 = (by8 a b c d e f g h + by8 a b c d e f g h / 256) % 18446744073709551616) (e2 : n2 = (n1 + n1 / 65536) % 18446744073709551616) (e3 : n3 = (n2 + n2 / 4294967296) % 18446744073709551616) :
    n3 % 128 = a + b + c + d + e + f + g + h := by
  have f1 : n1 = by8 (a + b) (b + c) (c + d) (d + e) (e + f) (f + g) (g + h) (h + 0) := by
    rw [e1, by8_d1 (by omega), by8_add, Nat.mod_eq_of_lt (by8_lt (by omega) (by omega) (by omega) (by omega) (by omega) (by omega) (by omega) (by omega))]
  have f2 : n2 = by8 (a + b + (c + d)) (b + c + (d + e)) (c + d + (e + f)) (d + e + (f + g)) (e + f + (g + h)) (f + g + (h + 0)) (g + h + 0) (h + 0 + 0) := by
    rw [e2, f1, by8_d2 (by omega) (by omega), by8_add, Nat.mod_eq_of_lt (by8_lt (by omega) (by omega) (by omega) (by omega) (by omega) (by omega) (by omega) (by omega))]
  have f3 : n3 = by8 (a + b + (c + d) + (e + f + (g + h))) (b + c + (d + e) + (f + g + (h + 0))) (c + d + (e + f) + (g + h + 0)) (d + e + (f + g) + (h + 0 + 0)) (e + f + (g + h) + 0) (f + g + (h + 0) + 0) (g + h + 0 + 0) (h + 0 + 0 + 0) := by
    rw [e3, f2, by8_d4 (by omega) (by omega) (by omega) (by omega), by8_add, Nat.mod_eq_of_lt (by8_lt (by omega) (by omega) (by omega) (by omega) (by omega) (by omega) (by omega) (by omega))]
  clear e1 e2 e3 f1 f2
  rw [f3]
  unfold by8
  omega
theorem i32_of (x : Int64) : x.toInt32.toBitVec.toNat = ux x % 4294967296 := by
  have e : x.toInt32.toBitVec = x.toBitVec.signExtend 32 := rfl
  rw [e, BitVec.signExtend_eq_setWidth_of_le _ (by decide), BitVec.toNat_setWidth]
  rfl
set_option maxHeartbeats 4000000 in
theorem bc1_ok {x : Int64} {a b c d e f g h : Nat} (ha : a < 256) (hb : b < 256) (hc : c < 256) (hd : d < 256) (he : e < 256) (hf : f < 256) (hg : g < 256) (hh : h < 256) (hE : ux x = by8 a b c d e f g h) : ux (bc1 x) = by8 (by_g1 a) (by_g1 b) (by_g1 c) (by_g1 d) (by_g1 e) (by_g1 f) (by_g1 g) (by_g1 h) := by
  unfold bc1
  rw [ux_sub, ux_and, ux_lsr x 1 (by decide), show ux 6148914691236517205 = 6148914691236517205 from rfl, Nat.pow_one]
  have q := by_s1 ha hb hc hd he hf hg hh
  rw [← hE] at q
  have q2 : (ux x / 2 &&& 6148914691236517205) ≤ ux x / 2 := Nat.and_le_left
  have hn := ux_lt x
  rw [← q]
  generalize (ux x / 2 &&& 6148914691236517205) = z at *
  clear q
  omega
set_option maxHeartbeats 4000000 in
theorem bc2_ok {y : Int64} {a b c d e f g h : Nat} (ha : a < 256) (hb : b < 256) (hc : c < 256) (hd : d < 256) (he : e < 256) (hf : f < 256) (hg : g < 256) (hh : h < 256) (s1 : ux y = by8 (by_g1 a) (by_g1 b) (by_g1 c) (by_g1 d) (by_g1 e) (by_g1 f) (by_g1 g) (by_g1 h)) : ux (bc2 y) = by8 (by_g2 (by_g1 a)) (by_g2 (by_g1 b)) (by_g2 (by_g1 c)) (by_g2 (by_g1 d)) (by_g2 (by_g1 e)) (by_g2 (by_g1 f)) (by_g2 (by_g1 g)) (by_g2 (by_g1 h)) := by
  unfold bc2
  rw [ux_add, ux_and, ux_and, ux_lsr y 2 (by decide), show ux 3689348814741910323 = 3689348814741910323 from rfl, s1, show (2 : Nat) ^ 2 = 4 from rfl]
  rw [by_s2 (by_d3 a ha).2.1 (by_d3 b hb).2.1 (by_d3 c hc).2.1 (by_d3 d hd).2.1 (by_d3 e he).2.1 (by_d3 f hf).2.1 (by_d3 g hg).2.1 (by_d3 h hh).2.1]
  have qa := (by_d3 a ha).2.2.1
  have qb := (by_d3 b hb).2.2.1
  have qc := (by_d3 c hc).2.2.1
  have qd := (by_d3 d hd).2.2.1
  have qe := (by_d3 e he).2.2.1
  have qf := (by_d3 f hf).2.2.1
  have qg := (by_d3 g hg).2.2.1
  have qh := (by_d3 h hh).2.2.1
  refine Nat.mod_eq_of_lt (by8_lt (by omega) (by omega) (by omega) (by omega) (by omega) (by omega) (by omega) (by omega))
set_option maxHeartbeats 4000000 in
theorem bc3_ok {y : Int64} {a b c d e f g h : Nat} (ha : a < 256) (hb : b < 256) (hc : c < 256) (hd : d < 256) (he : e < 256) (hf : f < 256) (hg : g < 256) (hh : h < 256) (s2 : ux y = by8 (by_g2 (by_g1 a)) (by_g2 (by_g1 b)) (by_g2 (by_g1 c)) (by_g2 (by_g1 d)) (by_g2 (by_g1 e)) (by_g2 (by_g1 f)) (by_g2 (by_g1 g)) (by_g2 (by_g1 h))) : ux (bc3 y) = by8 (by_p a) (by_p b) (by_p c) (by_p d) (by_p e) (by_p f) (by_p g) (by_p h) := by
  unfold bc3
  rw [ux_and, ux_add, ux_lsr y 4 (by decide), show ux 1085102592571150095 = 1085102592571150095 from rfl, s2, show (2 : Nat) ^ 4 = 16 from rfl, ← by_s3 ha hb hc hd he hf hg hh]
  have qa := (by_d3 a ha).2.2.1
  have qb := (by_d3 b hb).2.2.1
  have qc := (by_d3 c hc).2.2.1
  have qd := (by_d3 d hd).2.2.1
  have qe := (by_d3 e he).2.2.1
  have qf := (by_d3 f hf).2.2.1
  have qg := (by_d3 g hg).2.2.1
  have qh := (by_d3 h hh).2.2.1
  have hl : by8 (by_g2 (by_g1 a)) (by_g2 (by_g1 b)) (by_g2 (by_g1 c)) (by_g2 (by_g1 d)) (by_g2 (by_g1 e)) (by_g2 (by_g1 f)) (by_g2 (by_g1 g)) (by_g2 (by_g1 h)) < 1000000000000000000 * 5 := by
    generalize by_g2 (by_g1 a) = x1 at *
    generalize by_g2 (by_g1 b) = x2 at *
    generalize by_g2 (by_g1 c) = x3 at *
    generalize by_g2 (by_g1 d) = x4 at *
    generalize by_g2 (by_g1 e) = x5 at *
    generalize by_g2 (by_g1 f) = x6 at *
    generalize by_g2 (by_g1 g) = x7 at *
    generalize by_g2 (by_g1 h) = x8 at *
    clear s2
    unfold by8
    omega
  generalize by8 (by_g2 (by_g1 a)) (by_g2 (by_g1 b)) (by_g2 (by_g1 c)) (by_g2 (by_g1 d)) (by_g2 (by_g1 e)) (by_g2 (by_g1 f)) (by_g2 (by_g1 g)) (by_g2 (by_g1 h)) = z at *
  clear s2
  rw [Nat.mod_eq_of_lt (by omega)]
set_option maxHeartbeats 4000000 in
theorem bc6_ok {y : Int64} {a b c d e f g h : Nat} (ha : a ≤ 8) (hb : b ≤ 8) (hc : c ≤ 8) (hd : d ≤ 8) (he : e ≤ 8) (hf : f ≤ 8) (hg : g ≤ 8) (hh : h ≤ 8) (s3 : ux y = by8 a b c d e f g h) : ux (bc6 (bc5 (bc4 y))) % 128 = a + b + c + d + e + f + g + h := by
  refine by_s4 (n1 := ux (bc4 y)) (n2 := ux (bc5 (bc4 y))) ha hb hc hd he hf hg hh ?_ ?_ ?_
  · unfold bc4
    rw [ux_add, ux_lsr y 8 (by decide), s3]
  · generalize bc4 y = z
    unfold bc5
    rw [ux_add, ux_lsr z 16 (by decide)]
  · generalize bc5 (bc4 y) = z
    unfold bc6
    rw [ux_add, ux_lsr z 32 (by decide)]
set_option maxHeartbeats 4000000 in
theorem bcv_ok (x : Int64) : bcv x = nI (pu_cnt (lb x) 64 0) := by
  unfold bcv
  have hn := ux_lt x
  rw [show pu_cnt (lb x) 64 0 = pu_cnt (fun j => (ux x).testBit j) 64 0 from rfl, by_all]
  have s1 := bc1_ok (Nat.mod_lt _ (by decide)) (Nat.mod_lt _ (by decide)) (Nat.mod_lt _ (by decide)) (Nat.mod_lt _ (by decide)) (Nat.mod_lt _ (by decide)) (Nat.mod_lt _ (by decide)) (Nat.mod_lt _ (by decide)) (Nat.mod_lt _ (by decide)) (by_e (ux x) hn)
  have s2 := bc2_ok (Nat.mod_lt _ (by decide)) (Nat.mod_lt _ (by decide)) (Nat.mod_lt _ (by decide)) (Nat.mod_lt _ (by decide)) (Nat.mod_lt _ (by decide)) (Nat.mod_lt _ (by decide)) (Nat.mod_lt _ (by decide)) (Nat.mod_lt _ (by decide)) s1
  have s3 := bc3_ok (Nat.mod_lt _ (by decide)) (Nat.mod_lt _ (by decide)) (Nat.mod_lt _ (by decide)) (Nat.mod_lt _ (by decide)) (Nat.mod_lt _ (by decide)) (Nat.mod_lt _ (by decide)) (Nat.mod_lt _ (by decide)) (Nat.mod_lt _ (by decide)) s2
  have s6 := bc6_ok (by_p_le _) (by_p_le _) (by_p_le _) (by_p_le _) (by_p_le _) (by_p_le _) (by_p_le _) (by_p_le _) s3
  rw [pk_and _ 7 (by decide), i32_of, ← s6]
  congr 1
  omega
/-- of a set of ports 1 .. n alone, the count is that of 1 .. n -/
theorem lb_cnt {x : Int64} {n : Nat} (hn : n ≤ 62) (h0 : lb x 0 = false) (hx : ∀ j, n < j → lb x j = false) : pu_cnt (lb x) 64 0 = pu_cnt (lb x) n 1 := by
  have e : (64 : Nat) = 1 + (n + (63 - n)) := by omega
  rw [e, pu_cnt_add, pu_cnt_add]
  rw [pu_cnt_none (P := lb x) 1 0 (fun j h1 h2 => by rw [show j = 0 by omega]; exact h0), pu_cnt_none (P := lb x) (63 - n) (0 + 1 + n) (fun j h1 h2 => hx j (by omega))]
  simp
end
section
/-! BASE: rows of my own over W: loops, reads (contracts under which the heap stays), branches by whole numbers -/
theorem ni_inc (i : Nat) : nI i + Int32.ofInt 1 = nI (i + 1) := nI_1 i
theorem ni_dec {i : Nat} (h : 0 < i) : nI i + Int32.ofInt (-1) = nI (i - 1) := by
  obtain ⟨j, rfl⟩ : ∃ j, i = j + 1 := ⟨i - 1, by omega⟩
  rw [Nat.add_sub_cancel]
  exact pk_m1 j
def z1 (b : Bool) : Int32 := if b then 1 else 0
theorem z1_0 {b : Bool} : z1 b = 0 ↔ b = false := by cases b <;> decide
theorem z1_n {b : Bool} : ¬ z1 b = 0 ↔ b = true := by cases b <;> decide
theorem z1_nar (b : Bool) : narrow .boolean (.int (z1 b)) = .int (z1 b) := by cases b <;> rfl
theorem z1_t {b : Bool} (h : b = true) : (1 : Int32) = z1 b := by subst h; rfl
theorem z1_f {b : Bool} (h : b = false) : (0 : Int32) = z1 b := by subst h; rfl
theorem ni_pos {x : Int32} (h : 0 ≤ x.toInt) : ∃ t : Nat, t < 2 ^ 31 ∧ x = nI t := by
  have h2 := x.toInt_lt
  refine ⟨x.toInt.toNat, by omega, ?_⟩
  apply Int32.toInt_inj.mp
  rw [nI_toInt (by omega)]
  omega
/-- a number from 1 on and not above n -/
theorem ni_range {x : Int32} {n : Nat} (hn : n < 2 ^ 31) (h1 : (1 : Int) ≤ x.toInt) (h2 : x.toInt ≤ (n : Int)) : ∃ j : Nat, 1 ≤ j ∧ j ≤ n ∧ x = nI j := by
  refine ⟨x.toInt.toNat, by omega, by omega, ?_⟩
  apply Int32.toInt_inj.mp
  rw [nI_toInt (by omega)]
  omega
def rd_Pc (D : va_G) (cl : List vw_C) (tys : List (ClassId × FieldType)) (ws : va_W) (av : List Value) : Array Value → State → Prop := va_Pc av (fun U => va_P D cl ws U.heap ∧ va_K D cl tys U)
theorem rd_blind {D : va_G} {cl : List vw_C} {tys : List (ClassId × FieldType)} {ws : va_W} {av : List Value} : FrameBlind (rd_Pc D cl tys ws av) := fun a U g mk q => by
  obtain ⟨q0, qP, qK⟩ := q
  exact ⟨q0, qP, va_K.moved (u := U) (U := U.calling g mk a) (Vm.Alike.refl U.vm) qK⟩
section RD
variable {p : Program} {l : Launch} {e : Env} {R : Room} {s : State} {m : MethodId} {args : Array Value} {below : List Frame} {meth : Method} {c : Code} {H : Heap} {locs : List Loc} {cells slots : Nat} {Q : State → Prop}
variable {cc : ByteArray} {pc : Nat} {ls : Array Slot} {rest st0 : List Value} {D : va_G} {cl : List vw_C} {tys : List (ClassId × FieldType)} {ws : va_W}
/-- a loop whose heap stays: a measure that falls -/
theorem rd_loop (I : Nat → Array Slot → Prop) (step : ∀ (k : Nat) (ls : Array Slot), I k ls → (∀ (k' : Nat) (ls' : Array Slot), k' < k → I k' ls' → W p l e R s m args below meth c H locs cells slots Q (F0 m pc ls' [])) → W p l e R s m args below meth c H locs cells slots Q (F0 m pc ls [])) :
    ∀ (k : Nat) (ls : Array Slot), I k ls → W p l e R s m args below meth c H locs cells slots Q (F0 m pc ls []) := by
  intro k
  induction k using Nat.strongRecOn with
  | _ k ih => intro ls h; exact step k ls h (fun k' ls' hk hI => ih k' hk ls' hI)
/-- a loop that writes -/
theorem mu_loop {H0 : Heap} (I : Nat → Array Slot → Heap → List Loc → Prop) (step : ∀ (k : Nat) (ls : Array Slot) (H : Heap) (locs : List Loc), I k ls H locs → (∀ (k' : Nat) (ls' : Array Slot) (H' : Heap) (locs' : List Loc), k' < k → I k' ls' H' locs' → W p l e R s m args below meth c H' locs' cells slots Q (F0 m pc ls' [])) → W p l e R s m args below meth c H locs cells slots Q (F0 m pc ls [])) :
    ∀ (k : Nat) (ls : Array Slot) (H : Heap) (locs : List Loc), I k ls H locs → W p l e R s m args below meth c H locs cells slots Q (F0 m pc ls []) := by
  intro k
  induction k using Nat.strongRecOn with
  | _ k ih => intro ls H locs h; exact step k ls H locs h (fun k' ls' H' locs' hk hI => ih k' hk ls' H' locs' hI)
theorem rd_topi {x y : Int32} (h : x = y) (k : W p l e R s m args below meth c H locs cells slots Q (F0 m pc ls (.int y :: rest))) : W p l e R s m args below meth c H locs cells slots Q (F0 m pc ls (.int x :: rest)) := h ▸ k
theorem rd_topl {x y : Int64} (h : x = y) (k : W p l e R s m args below meth c H locs cells slots Q (F0 m pc ls (.long y :: rest))) : W p l e R s m args below meth c H locs cells slots Q (F0 m pc ls (.long x :: rest)) := h ▸ k
/-- arrays at a whole number -/
theorem rd_iald (hexec : p.tables.exec = Jvm.exec) (hb : c.code = cc) (hK : va_K D cl tys s) (hP : va_P D cl ws H) (q0 t0 : Nat) {a : Nat} {cA : ClassId} {n : Nat} {f : Nat → Int32} (ha : ws[q0]? = some (a, .inl (cA, n, .inl f))) (ht : tys[t0]? = some (cA, .int)) {i : Nat} (hi : i < n) (hn : n < 2 ^ 31) (hdg : decode cc pc = .ok (.iaload, 1))
    (kk : W p l e R s m args below meth c H locs cells slots Q (F0 m (pc + 1) ls (.int (f i) :: rest))) : W p l e R s m args below meth c H locs cells slots Q (F0 m pc ls (.int (nI i) :: .ref a :: rest)) := by
  refine va_iald hexec hb hK hP q0 t0 ha ht (vp_in_nI hi hn) hdg ?_
  rw [nI_clamp (by omega)]
  exact kk
theorem rd_zald (hexec : p.tables.exec = Jvm.exec) (hb : c.code = cc) (hK : va_K D cl tys s) (hP : va_P D cl ws H) (q0 t0 : Nat) {a : Nat} {cA : ClassId} {n : Nat} {f : Nat → Int32} (ha : ws[q0]? = some (a, .inl (cA, n, .inl f))) (ht : tys[t0]? = some (cA, .boolean)) {i : Nat} (hi : i < n) (hn : n < 2 ^ 31) (hdg : decode cc pc = .ok (.baload, 1))
    (kk : W p l e R s m args below meth c H locs cells slots Q (F0 m (pc + 1) ls (.int (f i) :: rest))) : W p l e R s m args below meth c H locs cells slots Q (F0 m pc ls (.int (nI i) :: .ref a :: rest)) := by
  refine va_zald hexec hb hK hP q0 t0 ha ht (vp_in_nI hi hn) hdg ?_
  rw [nI_clamp (by omega)]
  exact kk
theorem rd_lald (hexec : p.tables.exec = Jvm.exec) (hb : c.code = cc) (hK : va_K D cl tys s) (hP : va_P D cl ws H) (q0 t0 : Nat) {a : Nat} {cA : ClassId} {n : Nat} {f : Nat → Int64} (ha : ws[q0]? = some (a, .inl (cA, n, .inr (.inl f)))) (ht : tys[t0]? = some (cA, .long)) {i : Nat} (hi : i < n) (hn : n < 2 ^ 31) (hdg : decode cc pc = .ok (.laload, 1))
    (kk : W p l e R s m args below meth c H locs cells slots Q (F0 m (pc + 1) ls (.long (f i) :: rest))) : W p l e R s m args below meth c H locs cells slots Q (F0 m pc ls (.int (nI i) :: .ref a :: rest)) := by
  refine va_lald hexec hb hK hP q0 t0 ha ht (vp_in_nI hi hn) hdg ?_
  rw [nI_clamp (by omega)]
  exact kk
theorem mu_iast {A : Nat → Prop} {H0 : Heap} (hexec : p.tables.exec = Jvm.exec) (hb : c.code = cc) (hK : va_K D cl tys s) (hP : va_P D cl ws H) (hD : va_D A ws) (hS : va_S A H0 H locs) (q0 t0 : Nat) {a : Nat} {cA : ClassId} {n : Nat} {f : Nat → Int32} (ha : ws[q0]? = some (a, .inl (cA, n, .inl f))) (ht : tys[t0]? = some (cA, .int)) {i : Nat} {x : Int32} (hi : i < n) (hn : n < 2 ^ 31) (hdg : decode cc pc = .ok (.iastore, 1)) {ws1 : va_W} (he : ws.set q0 (a, .inl (cA, n, .inl (upd f i x))) = ws1)
    (kk : ∀ (H1 : Heap) (locs1 : List Loc), va_P D cl ws1 H1 → va_D A ws1 → va_S A H0 H1 locs1 → W p l e R s m args below meth c H1 locs1 cells slots Q (F0 m (pc + 1) ls rest)) : W p l e R s m args below meth c H locs cells slots Q (F0 m pc ls (.int x :: .int (nI i) :: .ref a :: rest)) := by
  subst he
  refine va_iast hexec hb hK hP hD hS q0 t0 ha ht (vp_in_nI hi hn) hdg fun H1 locs1 h1 h2 h3 => ?_
  rw [nI_clamp (by omega)] at h1 h2
  exact kk H1 locs1 h1 h2 h3
theorem mu_zast {A : Nat → Prop} {H0 : Heap} (hexec : p.tables.exec = Jvm.exec) (hb : c.code = cc) (hK : va_K D cl tys s) (hP : va_P D cl ws H) (hD : va_D A ws) (hS : va_S A H0 H locs) (q0 t0 : Nat) {a : Nat} {cA : ClassId} {n : Nat} {f : Nat → Int32} (ha : ws[q0]? = some (a, .inl (cA, n, .inl f))) (ht : tys[t0]? = some (cA, .boolean)) {i : Nat} {x : Int32} (hi : i < n) (hn : n < 2 ^ 31) (hx : vp_nar .boolean x = x) (hdg : decode cc pc = .ok (.bastore, 1)) {ws1 : va_W} (he : ws.set q0 (a, .inl (cA, n, .inl (upd f i x))) = ws1)
    (kk : ∀ (H1 : Heap) (locs1 : List Loc), va_P D cl ws1 H1 → va_D A ws1 → va_S A H0 H1 locs1 → W p l e R s m args below meth c H1 locs1 cells slots Q (F0 m (pc + 1) ls rest)) : W p l e R s m args below meth c H locs cells slots Q (F0 m pc ls (.int x :: .int (nI i) :: .ref a :: rest)) := by
  subst he
  refine va_zast hexec hb hK hP hD hS q0 t0 ha ht (vp_in_nI hi hn) hdg fun H1 locs1 h1 h2 h3 => ?_
  rw [nI_clamp (by omega), hx] at h1 h2
  exact kk H1 locs1 h1 h2 h3
theorem mu_last {A : Nat → Prop} {H0 : Heap} (hexec : p.tables.exec = Jvm.exec) (hb : c.code = cc) (hK : va_K D cl tys s) (hP : va_P D cl ws H) (hD : va_D A ws) (hS : va_S A H0 H locs) (q0 t0 : Nat) {a : Nat} {cA : ClassId} {n : Nat} {f : Nat → Int64} (ha : ws[q0]? = some (a, .inl (cA, n, .inr (.inl f)))) (ht : tys[t0]? = some (cA, .long)) {i : Nat} {x : Int64} (hi : i < n) (hn : n < 2 ^ 31) (hdg : decode cc pc = .ok (.lastore, 1)) {ws1 : va_W} (he : ws.set q0 (a, .inl (cA, n, .inr (.inl (vp_updL f i x)))) = ws1)
    (kk : ∀ (H1 : Heap) (locs1 : List Loc), va_P D cl ws1 H1 → va_D A ws1 → va_S A H0 H1 locs1 → W p l e R s m args below meth c H1 locs1 cells slots Q (F0 m (pc + 1) ls rest)) : W p l e R s m args below meth c H locs cells slots Q (F0 m pc ls (.long x :: .int (nI i) :: .ref a :: rest)) := by
  subst he
  refine va_last hexec hb hK hP hD hS q0 t0 ha ht (vp_in_nI hi hn) hdg fun H1 locs1 h1 h2 h3 => ?_
  rw [nI_clamp (by omega)] at h1 h2
  exact kk H1 locs1 h1 h2 h3
/-- branches: two whole numbers -/
theorem nb_gt (hexec : p.tables.exec = Jvm.exec) (hb : c.code = cc) {x y : Nat} {off : Int} {tgt : Nat} (hdg : decode cc pc = .ok (.if_icmp .gt off, 3)) (ht : (pc : Int) + off = (tgt : Int)) (hx : x < 2 ^ 31) (hy : y < 2 ^ 31)
    (kt : y < x → W p l e R s m args below meth c H locs cells slots Q (F0 m tgt ls rest)) (kf : x ≤ y → W p l e R s m args below meth c H locs cells slots Q (F0 m (pc + 3) ls rest)) : W p l e R s m args below meth c H locs cells slots Q (F0 m pc ls (.int (nI y) :: .int (nI x) :: rest)) :=
  lv_icmp_gt hexec hb hdg ht (fun h => kt ((nI_ltI hy hx).mp h)) (fun h => kf (Nat.le_of_not_lt fun q => h ((nI_ltI hy hx).mpr q)))
theorem nb_ge (hexec : p.tables.exec = Jvm.exec) (hb : c.code = cc) {x y : Nat} {off : Int} {tgt : Nat} (hdg : decode cc pc = .ok (.if_icmp .ge off, 3)) (ht : (pc : Int) + off = (tgt : Int)) (hx : x < 2 ^ 31) (hy : y < 2 ^ 31)
    (kt : y ≤ x → W p l e R s m args below meth c H locs cells slots Q (F0 m tgt ls rest)) (kf : x < y → W p l e R s m args below meth c H locs cells slots Q (F0 m (pc + 3) ls rest)) : W p l e R s m args below meth c H locs cells slots Q (F0 m pc ls (.int (nI y) :: .int (nI x) :: rest)) :=
  lv_icmp_ge hexec hb hdg ht (fun h => kt ((nI_leI hy hx).mp h)) (fun h => kf (Nat.lt_of_not_le fun q => h ((nI_leI hy hx).mpr q)))
theorem nb_eq (hexec : p.tables.exec = Jvm.exec) (hb : c.code = cc) {x y : Nat} {off : Int} {tgt : Nat} (hdg : decode cc pc = .ok (.if_icmp .eq off, 3)) (ht : (pc : Int) + off = (tgt : Int)) (hx : x < 2 ^ 31) (hy : y < 2 ^ 31)
    (kt : x = y → W p l e R s m args below meth c H locs cells slots Q (F0 m tgt ls rest)) (kf : x ≠ y → W p l e R s m args below meth c H locs cells slots Q (F0 m (pc + 3) ls rest)) : W p l e R s m args below meth c H locs cells slots Q (F0 m pc ls (.int (nI y) :: .int (nI x) :: rest)) :=
  lv_icmp_eq hexec hb hdg ht (fun h => kt ((nI_eq hx hy).mp h)) (fun h => kf (fun q => h ((nI_eq hx hy).mpr q)))
/-- branches: any two ints, by their numbers -/
theorem bi_lt (hexec : p.tables.exec = Jvm.exec) (hb : c.code = cc) {x y : Int32} {off a b : Int} {tgt : Nat} (hdg : decode cc pc = .ok (.if_icmp .lt off, 3)) (ht : (pc : Int) + off = (tgt : Int)) (ha : x.toInt = a) (hc : y.toInt = b)
    (kt : a < b → W p l e R s m args below meth c H locs cells slots Q (F0 m tgt ls rest)) (kf : b ≤ a → W p l e R s m args below meth c H locs cells slots Q (F0 m (pc + 3) ls rest)) : W p l e R s m args below meth c H locs cells slots Q (F0 m pc ls (.int y :: .int x :: rest)) := by
  subst ha; subst hc
  exact lv_icmp_lt hexec hb hdg ht (fun h => kt (Int32.lt_iff_toInt_lt.mp h)) (fun h => kf (Int.not_lt.mp fun q => h (Int32.lt_iff_toInt_lt.mpr q)))
theorem bi_gt (hexec : p.tables.exec = Jvm.exec) (hb : c.code = cc) {x y : Int32} {off a b : Int} {tgt : Nat} (hdg : decode cc pc = .ok (.if_icmp .gt off, 3)) (ht : (pc : Int) + off = (tgt : Int)) (ha : x.toInt = a) (hc : y.toInt = b)
    (kt : b < a → W p l e R s m args below meth c H locs cells slots Q (F0 m tgt ls rest)) (kf : a ≤ b → W p l e R s m args below meth c H locs cells slots Q (F0 m (pc + 3) ls rest)) : W p l e R s m args below meth c H locs cells slots Q (F0 m pc ls (.int y :: .int x :: rest)) := by
  subst ha; subst hc
  exact lv_icmp_gt hexec hb hdg ht (fun h => kt (Int32.lt_iff_toInt_lt.mp h)) (fun h => kf (Int.not_lt.mp fun q => h (Int32.lt_iff_toInt_lt.mpr q)))
theorem bi_ge (hexec : p.tables.exec = Jvm.exec) (hb : c.code = cc) {x y : Int32} {off a b : Int} {tgt : Nat} (hdg : decode cc pc = .ok (.if_icmp .ge off, 3)) (ht : (pc : Int) + off = (tgt : Int)) (ha : x.toInt = a) (hc : y.toInt = b)
    (kt : b ≤ a → W p l e R s m args below meth c H locs cells slots Q (F0 m tgt ls rest)) (kf : a < b → W p l e R s m args below meth c H locs cells slots Q (F0 m (pc + 3) ls rest)) : W p l e R s m args below meth c H locs cells slots Q (F0 m pc ls (.int y :: .int x :: rest)) := by
  subst ha; subst hc
  exact lv_icmp_ge hexec hb hdg ht (fun h => kt (Int32.le_iff_toInt_le.mp h)) (fun h => kf (Int.not_le.mp fun q => h (Int32.le_iff_toInt_le.mpr q)))
theorem bi_le (hexec : p.tables.exec = Jvm.exec) (hb : c.code = cc) {x y : Int32} {off a b : Int} {tgt : Nat} (hdg : decode cc pc = .ok (.if_icmp .le off, 3)) (ht : (pc : Int) + off = (tgt : Int)) (ha : x.toInt = a) (hc : y.toInt = b)
    (kt : a ≤ b → W p l e R s m args below meth c H locs cells slots Q (F0 m tgt ls rest)) (kf : b < a → W p l e R s m args below meth c H locs cells slots Q (F0 m (pc + 3) ls rest)) : W p l e R s m args below meth c H locs cells slots Q (F0 m pc ls (.int y :: .int x :: rest)) := by
  subst ha; subst hc
  exact lv_icmp_le hexec hb hdg ht (fun h => kt (Int32.le_iff_toInt_le.mp h)) (fun h => kf (Int.not_le.mp fun q => h (Int32.le_iff_toInt_le.mpr q)))
theorem bz_lt (hexec : p.tables.exec = Jvm.exec) (hb : c.code = cc) {x : Int32} {off a : Int} {tgt : Nat} (hdg : decode cc pc = .ok (.ifCond .lt off, 3)) (ht : (pc : Int) + off = (tgt : Int)) (ha : x.toInt = a)
    (kt : a < 0 → W p l e R s m args below meth c H locs cells slots Q (F0 m tgt ls rest)) (kf : 0 ≤ a → W p l e R s m args below meth c H locs cells slots Q (F0 m (pc + 3) ls rest)) : W p l e R s m args below meth c H locs cells slots Q (F0 m pc ls (.int x :: rest)) := by
  subst ha
  exact lv_if_lt hexec hb hdg ht (fun h => kt (Int32.lt_iff_toInt_lt.mp h)) (fun h => kf (Int.not_lt.mp fun q => h (Int32.lt_iff_toInt_lt.mpr q)))
theorem bz_ge (hexec : p.tables.exec = Jvm.exec) (hb : c.code = cc) {x : Int32} {off a : Int} {tgt : Nat} (hdg : decode cc pc = .ok (.ifCond .ge off, 3)) (ht : (pc : Int) + off = (tgt : Int)) (ha : x.toInt = a)
    (kt : 0 ≤ a → W p l e R s m args below meth c H locs cells slots Q (F0 m tgt ls rest)) (kf : a < 0 → W p l e R s m args below meth c H locs cells slots Q (F0 m (pc + 3) ls rest)) : W p l e R s m args below meth c H locs cells slots Q (F0 m pc ls (.int x :: rest)) := by
  subst ha
  exact lv_if_ge hexec hb hdg ht (fun h => kt (Int32.le_iff_toInt_le.mp h)) (fun h => kf (Int.not_le.mp fun q => h (Int32.le_iff_toInt_le.mpr q)))
/-- branches on a truth value -/
theorem bb_eq (hexec : p.tables.exec = Jvm.exec) (hb : c.code = cc) {b : Bool} {off : Int} {tgt : Nat} (hdg : decode cc pc = .ok (.ifCond .eq off, 3)) (ht : (pc : Int) + off = (tgt : Int))
    (kt : b = false → W p l e R s m args below meth c H locs cells slots Q (F0 m tgt ls rest)) (kf : b = true → W p l e R s m args below meth c H locs cells slots Q (F0 m (pc + 3) ls rest)) : W p l e R s m args below meth c H locs cells slots Q (F0 m pc ls (.int (z1 b) :: rest)) :=
  lv_if_eq hexec hb hdg ht (fun h => kt (z1_0.mp h)) (fun h => kf (z1_n.mp h))
theorem bb_ne (hexec : p.tables.exec = Jvm.exec) (hb : c.code = cc) {b : Bool} {off : Int} {tgt : Nat} (hdg : decode cc pc = .ok (.ifCond .ne off, 3)) (ht : (pc : Int) + off = (tgt : Int))
    (kt : b = true → W p l e R s m args below meth c H locs cells slots Q (F0 m tgt ls rest)) (kf : b = false → W p l e R s m args below meth c H locs cells slots Q (F0 m (pc + 3) ls rest)) : W p l e R s m args below meth c H locs cells slots Q (F0 m pc ls (.int (z1 b) :: rest)) :=
  lv_if_ne hexec hb hdg ht (fun h => kt (z1_n.mp h)) (fun h => kf (z1_0.mp h))
/-- a whole number against 0 -/
theorem bn_eq (hexec : p.tables.exec = Jvm.exec) (hb : c.code = cc) {n : Nat} {off : Int} {tgt : Nat} (hdg : decode cc pc = .ok (.ifCond .eq off, 3)) (ht : (pc : Int) + off = (tgt : Int)) (hn : n < 2 ^ 31)
    (kt : n = 0 → W p l e R s m args below meth c H locs cells slots Q (F0 m tgt ls rest)) (kf : n ≠ 0 → W p l e R s m args below meth c H locs cells slots Q (F0 m (pc + 3) ls rest)) : W p l e R s m args below meth c H locs cells slots Q (F0 m pc ls (.int (nI n) :: rest)) :=
  lv_if_eq hexec hb hdg ht (fun h => kt ((nI_eq hn (by decide)).mp (h.trans nI_0.symm))) (fun h => kf (fun q => h (by rw [q]; exact nI_0)))
theorem bn_ne (hexec : p.tables.exec = Jvm.exec) (hb : c.code = cc) {n : Nat} {off : Int} {tgt : Nat} (hdg : decode cc pc = .ok (.ifCond .ne off, 3)) (ht : (pc : Int) + off = (tgt : Int)) (hn : n < 2 ^ 31)
    (kt : n ≠ 0 → W p l e R s m args below meth c H locs cells slots Q (F0 m tgt ls rest)) (kf : n = 0 → W p l e R s m args below meth c H locs cells slots Q (F0 m (pc + 3) ls rest)) : W p l e R s m args below meth c H locs cells slots Q (F0 m pc ls (.int (nI n) :: rest)) :=
  lv_if_ne hexec hb hdg ht (fun h => kt (fun q => h (by rw [q]; exact nI_0))) (fun h => kf ((nI_eq hn (by decide)).mp (h.trans nI_0.symm)))
/-- two longs compared, and the branch behind it -/
theorem lg_cmp0 {x y : Int64} : lg_cmp x y = 0 ↔ x = y := by
  unfold lg_cmp
  split
  · rename_i h
    constructor
    · intro q; exact absurd q (by decide)
    · intro q; subst q; have := Int64.lt_iff_toInt_lt.mp h; omega
  · split
    · rename_i h; exact ⟨fun _ => h, fun _ => rfl⟩
    · rename_i h; exact ⟨fun q => absurd q (by decide), fun q => absurd q h⟩
theorem lg_cmpl {x y : Int64} : lg_cmp x y < 0 ↔ x.toInt < y.toInt := by
  unfold lg_cmp
  split
  · rename_i h
    have := Int64.lt_iff_toInt_lt.mp h
    exact ⟨fun q => absurd q (by decide), fun q => by omega⟩
  · rename_i h
    have h1 : ¬ y.toInt < x.toInt := fun q => h (Int64.lt_iff_toInt_lt.mpr q)
    split
    · rename_i h2
      subst h2
      exact ⟨fun q => absurd q (by decide), fun q => by omega⟩
    · rename_i h2
      have h3 : ¬ x.toInt = y.toInt := fun q => h2 (Int64.toInt_inj.mp q)
      exact ⟨fun _ => by omega, fun _ => by decide⟩
theorem lg_cmpg {x y : Int64} : 0 < lg_cmp x y ↔ y.toInt < x.toInt := by
  unfold lg_cmp
  split
  · rename_i h
    exact ⟨fun _ => Int64.lt_iff_toInt_lt.mp h, fun _ => by decide⟩
  · rename_i h
    have h1 : ¬ y.toInt < x.toInt := fun q => h (Int64.lt_iff_toInt_lt.mpr q)
    split
    · exact ⟨fun q => absurd q (by decide), fun q => absurd q h1⟩
    · exact ⟨fun q => absurd q (by decide), fun q => absurd q h1⟩
theorem bl_lt (hexec : p.tables.exec = Jvm.exec) (hb : c.code = cc) {x y : Int64} {off a b : Int} {tgt : Nat} (hd1 : decode cc pc = .ok (.lcmp, 1)) (hd2 : decode cc (pc + 1) = .ok (.ifCond .lt off, 3)) (ht : ((pc + 1 : Nat) : Int) + off = (tgt : Int)) (ha : x.toInt = a) (hc : y.toInt = b)
    (kt : a < b → W p l e R s m args below meth c H locs cells slots Q (F0 m tgt ls rest)) (kf : b ≤ a → W p l e R s m args below meth c H locs cells slots Q (F0 m (pc + 1 + 3) ls rest)) : W p l e R s m args below meth c H locs cells slots Q (F0 m pc ls (.long y :: .long x :: rest)) := by
  subst ha; subst hc
  refine W.lcmp hexec hb hd1 ?_
  exact lv_if_lt hexec hb hd2 ht (fun h => kt (lg_cmpl.mp h)) (fun h => kf (Int.not_lt.mp fun q => h (lg_cmpl.mpr q)))
theorem bl_gt (hexec : p.tables.exec = Jvm.exec) (hb : c.code = cc) {x y : Int64} {off a b : Int} {tgt : Nat} (hd1 : decode cc pc = .ok (.lcmp, 1)) (hd2 : decode cc (pc + 1) = .ok (.ifCond .gt off, 3)) (ht : ((pc + 1 : Nat) : Int) + off = (tgt : Int)) (ha : x.toInt = a) (hc : y.toInt = b)
    (kt : b < a → W p l e R s m args below meth c H locs cells slots Q (F0 m tgt ls rest)) (kf : a ≤ b → W p l e R s m args below meth c H locs cells slots Q (F0 m (pc + 1 + 3) ls rest)) : W p l e R s m args below meth c H locs cells slots Q (F0 m pc ls (.long y :: .long x :: rest)) := by
  subst ha; subst hc
  refine W.lcmp hexec hb hd1 ?_
  exact lv_if_gt hexec hb hd2 ht (fun h => kt (lg_cmpg.mp h)) (fun h => kf (Int.not_lt.mp fun q => h (lg_cmpg.mpr q)))
theorem bl_eq (hexec : p.tables.exec = Jvm.exec) (hb : c.code = cc) {x y : Int64} {off : Int} {tgt : Nat} (hd1 : decode cc pc = .ok (.lcmp, 1)) (hd2 : decode cc (pc + 1) = .ok (.ifCond .eq off, 3)) (ht : ((pc + 1 : Nat) : Int) + off = (tgt : Int))
    (kt : x = y → W p l e R s m args below meth c H locs cells slots Q (F0 m tgt ls rest)) (kf : ¬ x = y → W p l e R s m args below meth c H locs cells slots Q (F0 m (pc + 1 + 3) ls rest)) : W p l e R s m args below meth c H locs cells slots Q (F0 m pc ls (.long y :: .long x :: rest)) := by
  refine W.lcmp hexec hb hd1 ?_
  exact lv_if_eq hexec hb hd2 ht (fun h => kt (lg_cmp0.mp h)) (fun h => kf (fun q => h (lg_cmp0.mpr q)))
theorem bl_ne (hexec : p.tables.exec = Jvm.exec) (hb : c.code = cc) {x y : Int64} {off : Int} {tgt : Nat} (hd1 : decode cc pc = .ok (.lcmp, 1)) (hd2 : decode cc (pc + 1) = .ok (.ifCond .ne off, 3)) (ht : ((pc + 1 : Nat) : Int) + off = (tgt : Int))
    (kt : ¬ x = y → W p l e R s m args below meth c H locs cells slots Q (F0 m tgt ls rest)) (kf : x = y → W p l e R s m args below meth c H locs cells slots Q (F0 m (pc + 1 + 3) ls rest)) : W p l e R s m args below meth c H locs cells slots Q (F0 m pc ls (.long y :: .long x :: rest)) := by
  refine W.lcmp hexec hb hd1 ?_
  exact lv_if_ne hexec hb hd2 ht (fun h => kt (fun q => h (lg_cmp0.mpr q))) (fun h => kf (lg_cmp0.mp h))
/-- the end of a read -/
theorem rd_iret (hexec : p.tables.exec = Jvm.exec) (hb : c.code = cc) (hr : meth.sig.returnType = some .int) {v r : Int32} (hv : v = r) (hdg : decode cc pc = .ok (.ireturn, 1)) (hlocks : meth.locks = false) :
    W p l e R s m args below meth c s.heap [] cells slots (MQ below (k2_QcV (.int r)) args s cells slots (fun _ => False)) (F0 m pc ls [.int v]) := by
  subst hv
  exact W.iret hexec hb hr (fun t ht _ => ⟨rfl, ht⟩) (fun q h => absurd h List.not_mem_nil) hdg hlocks
theorem rd_zret (hexec : p.tables.exec = Jvm.exec) (hb : c.code = cc) (hr : meth.sig.returnType = some .boolean) {v r : Int32} (hn : narrow .boolean (.int v) = .int v) (hv : v = r) (hdg : decode cc pc = .ok (.ireturn, 1)) (hlocks : meth.locks = false) :
    W p l e R s m args below meth c s.heap [] cells slots (MQ below (k2_QcV (.int r)) args s cells slots (fun _ => False)) (F0 m pc ls [.int v]) := by
  subst hv
  exact W.zret hexec hb hr hn (fun t ht _ => ⟨rfl, ht⟩) (fun q h => absurd h List.not_mem_nil) hdg hlocks
theorem rd_lret (hexec : p.tables.exec = Jvm.exec) (hb : c.code = cc) (hr : meth.sig.returnType = some .long) {v r : Int64} (hv : v = r) (hdg : decode cc pc = .ok (.lreturn, 1)) (hlocks : meth.locks = false) :
    W p l e R s m args below meth c s.heap [] cells slots (MQ below (k2_QcV (.long r)) args s cells slots (fun _ => False)) (F0 m pc ls [.long v]) := by
  subst hv
  exact W.lret hexec hb hr (fun t ht _ => ⟨rfl, ht⟩) (fun q h => absurd h List.not_mem_nil) hdg hlocks
/-- a call of a read, on an object of the world -/
theorem rd_callV {y : MethodName} {bytes : ByteArray} {maxL nL n index : Nat} {ret : Option FieldType} {wm Ts : List Cond} {rm : Room} {r : Value} {own C : String} {b q0 ci : Nat} {As : List Value} {q : vw_C} {fs : List Value}
    (S : CallFix p m c cc nL s args Ts own) (hM : Met l y wm rm (rd_Pc D cl tys ws (.ref b :: As)) (k2_QcV r) 0 0 (fun _ => False)) (cw : CallW R s args own C index y bytes maxL ret wm rm 0 0 n)
    (hK : va_K D cl tys s) (hP : va_P D cl ws H) (hc : cl[ci]? = some q) (he : ws[q0]? = some (b, .inr (ci, fs))) (hC : q.1 = C) (hn : As.length = n) (hsize : ls.size = nL) (hst : st0 = As.reverse ++ .ref b :: rest)
    (hW : (rest.map fun v => v.category).sum ≤ 8) (hdg : decode cc pc = .ok (.invokevirtual index, 3)) (hf : cells ≤ R.cells ∧ slots ≤ R.slots)
    (kk : W p l e R s m args below meth c H locs cells slots Q (F0 m (pc + 3) ls (r :: rest))) : W p l e R s m args below meth c H locs cells slots Q (F0 m pc ls st0) := by
  subst hC
  exact W.callV (W.runV (g := F0 m pc ls st0) (rest := rest) (As := As) (b := b) S hM cw ⟨rd_blind, va_recv hK hP hc he, fun U hU hW => ⟨rfl, by rw [hU]; exact hP, va_K.moved hW.alike hK⟩⟩ rfl hn hsize hst (lv_room hW) hdg hf) kk
/-- a call of a static read -/
theorem rd_callS {y : MethodName} {bytes : ByteArray} {maxL nL n index : Nat} {ret : Option FieldType} {wm Ts : List Cond} {rm : Room} {r : Value} {own : String} {As : List Value}
    (S : CallFix p m c cc nL s args Ts own) (hM : Met l y wm rm (fun v _ => v = As.toArray) (k2_QcV r) 0 0 (fun _ => False)) (cw : CallB R s args own index y bytes maxL ret wm rm 0 0 n ∧ (Cond.static y).before args s = true)
    (hn : As.length = n) (hsize : ls.size = nL) (hst : st0 = As.reverse ++ rest)
    (hW : (rest.map fun v => v.category).sum ≤ 8) (hdg : decode cc pc = .ok (.invokestatic index, 3)) (hf : cells ≤ R.cells ∧ slots ≤ R.slots)
    (kk : W p l e R s m args below meth c H locs cells slots Q (F0 m (pc + 3) ls (r :: rest))) : W p l e R s m args below meth c H locs cells slots Q (F0 m pc ls st0) :=
  W.callV (W.runS (g := F0 m pc ls st0) (rest := rest) (As := As) S hM cw preEq rfl hn hsize hst (lv_room hW) hdg hf) kk
end RD
end
section
/-! WRITES: contracts under which the addresses stay and the contents change; nothing is made -/
def mu_A (ws : va_W) : Nat → Prop := fun q => ∃ (k : Nat) (e : va_E), ws[k]? = some (q, e)
def mu_Pc (D : va_G) (cl : List vw_C) (tys : List (ClassId × FieldType)) (ws : va_W) (av : List Value) : Array Value → State → Prop := va_Pc av (fun U => va_P D cl ws U.heap ∧ va_K D cl tys U ∧ va_D (fun _ => True) ws)
def mu_Q {S : Type} (D : va_G) (cl : List vw_C) (ws : va_W) (r : S → Option Value) (post : S → Prop) (w : S → va_W) : Array Value → State → Outcome → State → Prop :=
  fun _ st o t => ∃ u : S, o = .returned (r u) ∧ post u ∧ va_P D cl (w u) t.heap ∧ va_F (mu_A ws) st t
theorem mu_blind {D : va_G} {cl : List vw_C} {tys : List (ClassId × FieldType)} {ws : va_W} {av : List Value} : FrameBlind (mu_Pc D cl tys ws av) := fun a U g mk q => by
  obtain ⟨q0, qP, qK, qD⟩ := q
  exact ⟨q0, qP, va_K.moved (u := U) (U := U.calling g mk a) (Vm.Alike.refl U.vm) qK, qD⟩
theorem mu_own {A : Nat → Prop} {ws : va_W} (h : va_D A ws) : va_D (mu_A ws) ws := ⟨h.1, fun k q hk => ⟨k, q.2, hk⟩⟩
theorem mu_fst {A : Nat → Prop} {ws ws' : va_W} (he : ws'.map Prod.fst = ws.map Prod.fst) (h : va_D A ws) : va_D A ws' := by
  have key : ∀ (k : Nat) (q : Nat × va_E), ws'[k]? = some q → ∃ q', ws[k]? = some q' ∧ q'.1 = q.1 := by
    intro k q hq
    have h1 : (ws'.map Prod.fst)[k]? = some q.1 := by rw [List.getElem?_map, hq]; rfl
    rw [he, List.getElem?_map] at h1
    cases hk : ws[k]? with
    | none => rw [hk] at h1; cases h1
    | some q' => rw [hk] at h1; exact ⟨q', rfl, Option.some.inj h1⟩
  refine ⟨fun i j p q hp hq hpq => ?_, fun k q hk => ?_⟩
  · obtain ⟨p', h1, h2⟩ := key i p hp
    obtain ⟨q', h3, h4⟩ := key j q hq
    exact h.1 i j p' q' h1 h3 (by rw [h2, h4, hpq])
  · obtain ⟨q', h1, h2⟩ := key k q hk
    rw [← h2]
    exact h.2 k q' h1
theorem mu_left {A : Nat → Prop} {wc wr : va_W} (h : va_D A (wc ++ wr)) : va_D A wc := by
  refine ⟨fun i j p q hp hq => ?_, fun k q hk => ?_⟩
  · exact h.1 i j p q (by rw [List.getElem?_append_left (List.getElem?_eq_some_iff.mp hp).1]; exact hp) (by rw [List.getElem?_append_left (List.getElem?_eq_some_iff.mp hq).1]; exact hq)
  · exact h.2 k q (by rw [List.getElem?_append_left (List.getElem?_eq_some_iff.mp hk).1]; exact hk)
theorem mu_apart {A : Nat → Prop} {wc wr : va_W} (h : va_D A (wc ++ wr)) {k : Nat} {q : Nat × va_E} (hq : wr[k]? = some q) : ¬ mu_A wc q.1 := by
  rintro ⟨i, e, hi⟩
  have hl := (List.getElem?_eq_some_iff.mp hi).1
  have h1 : (wc ++ wr)[i]? = some (q.1, e) := by rw [List.getElem?_append_left hl]; exact hi
  have h2 : (wc ++ wr)[wc.length + k]? = some q := by rw [List.getElem?_append_right (by omega), Nat.add_sub_cancel_left]; exact hq
  have := h.1 i (wc.length + k) _ _ h1 h2 rfl
  omega
section MU
variable {p : Program} {l : Launch} {e : Env} {R : Room} {s : State} {m : MethodId} {args : Array Value} {below : List Frame} {meth : Method} {c : Code} {H : Heap} {locs : List Loc} {cells slots : Nat} {Q : State → Prop}
variable {cc : ByteArray} {pc : Nat} {ls : Array Slot} {rest st0 : List Value} {D : va_G} {cl : List vw_C} {tys : List (ClassId × FieldType)} {ws : va_W}
theorem mu_iret {S : Type} {r : S → Option Value} {post : S → Prop} {w : S → va_W} (u : S) (hexec : p.tables.exec = Jvm.exec) (hb : c.code = cc) (hr : meth.sig.returnType = some .int) (hS : va_S (mu_A ws) s.heap H locs) (hP : va_P D cl (w u) H) (hp : post u) {v : Int32} (hv : r u = some (.int v)) (hdg : decode cc pc = .ok (.ireturn, 1)) (hlocks : meth.locks = false) :
    W p l e R s m args below meth c H locs cells slots (MQ below (mu_Q D cl ws r post w) args s cells slots (mu_A ws)) (F0 m pc ls [.int v]) :=
  W.iret hexec hb hr (fun t ht _ => ⟨u, by rw [hv], hp, by rw [ht]; exact hP, hS.F ht⟩) hS.2.2 hdg hlocks
theorem mu_zret {S : Type} {r : S → Option Value} {post : S → Prop} {w : S → va_W} (u : S) (hexec : p.tables.exec = Jvm.exec) (hb : c.code = cc) (hr : meth.sig.returnType = some .boolean) (hS : va_S (mu_A ws) s.heap H locs) (hP : va_P D cl (w u) H) (hp : post u) {v : Int32} (hn : narrow .boolean (.int v) = .int v) (hv : r u = some (.int v)) (hdg : decode cc pc = .ok (.ireturn, 1)) (hlocks : meth.locks = false) :
    W p l e R s m args below meth c H locs cells slots (MQ below (mu_Q D cl ws r post w) args s cells slots (mu_A ws)) (F0 m pc ls [.int v]) :=
  W.zret hexec hb hr hn (fun t ht _ => ⟨u, by rw [hv], hp, by rw [ht]; exact hP, hS.F ht⟩) hS.2.2 hdg hlocks
theorem mu_vret {S : Type} {r : S → Option Value} {post : S → Prop} {w : S → va_W} (u : S) (hexec : p.tables.exec = Jvm.exec) (hb : c.code = cc) (hr : meth.sig.returnType = none) (hS : va_S (mu_A ws) s.heap H locs) (hP : va_P D cl (w u) H) (hp : post u) (hv : r u = none) (hdg : decode cc pc = .ok (.return_, 1)) (hlocks : meth.locks = false) :
    W p l e R s m args below meth c H locs cells slots (MQ below (mu_Q D cl ws r post w) args s cells slots (mu_A ws)) (F0 m pc ls []) :=
  W.vret hexec hb hr (fun t ht _ => ⟨u, by rw [hv], hp, by rw [ht]; exact hP, hS.F ht⟩) hS.2.2 hdg hlocks
/-- a call of a write, on an object of the world wc; beside it stands the world wr -/
theorem mu_callF {S : Type} {r : S → Option Value} {post : S → Prop} {w : S → va_W} {A : Nat → Prop} {H0 : Heap} {y : MethodName} {bytes : ByteArray} {maxL nL n index : Nat} {ret : Option FieldType} {wm Ts : List Cond} {rm : Room} {own C : String} {b q0 ci : Nat} {As : List Value} {q : vw_C} {fs : List Value} {wc wr : va_W}
    (Sx : CallFix p m c cc nL s args Ts own) (hM : Met l y wm rm (mu_Pc D cl tys wc (.ref b :: As)) (mu_Q D cl wc r post w) 0 0 (mu_A wc)) (cw : CallW R s args own C index y bytes maxL ret wm rm 0 0 n)
    (hK : va_K D cl tys s) (hP : va_P D cl wc H) (hPr : va_P D cl wr H) (hD : va_D A (wc ++ wr)) (hS : va_S A H0 H locs) (hc : cl[ci]? = some q) (he : wc[q0]? = some (b, .inr (ci, fs))) (hC : q.1 = C) (hw : ∀ u, post u → (w u).map Prod.fst = wc.map Prod.fst)
    (hn : As.length = n) (hsize : ls.size = nL) (hst : st0 = As.reverse ++ .ref b :: rest) (hW : (rest.map fun v => v.category).sum ≤ 8) (hdg : decode cc pc = .ok (.invokevirtual index, 3)) (hf : cells ≤ R.cells ∧ slots ≤ R.slots)
    (kk : ∀ (u : S) (H1 : Heap) (locs1 : List Loc), post u → va_P D cl (w u) H1 → va_P D cl wr H1 → va_D A (w u ++ wr) → va_S A H0 H1 locs1 → W p l e R s m args below meth c H1 locs1 cells slots Q (F0 m (pc + 3) ls ((r u).toList ++ rest))) : W p l e R s m args below meth c H locs cells slots Q (F0 m pc ls st0) := by
  subst hC
  have hDc := mu_left hD
  have hrun := va_runV (g := F0 m pc ls st0) (rest := rest) (As := As) (b := b) (locs := locs) (cells := cells) (slots := slots) (below := below) (meth := meth) (e := e) (R := R) Sx hM cw ⟨mu_blind, va_recv hK hP hc he, fun U hU hW => ⟨rfl, by rw [hU]; exact hP, va_K.moved hW.alike hK, hDc.weaken (fun _ _ _ _ => trivial)⟩⟩ rfl hn hsize hst (lv_room hW) hdg hf
  intro T hT X
  obtain ⟨v, st₀, t, T', L, h0, X', hL, e1, e2, ⟨u, hv, hp, hPu, hz, hk⟩, st⟩ := hrun T hT X
  cases hv
  rw [h0] at hz hk
  have hsub : ∀ x, mu_A wc x → A x := by
    rintro x ⟨i, e', hi⟩
    exact hDc.2 i _ hi
  obtain ⟨t2, a1, b1⟩ := kk u T'.heap (locs ++ L) hp (by rw [e1]; exact hPu)
    (fun k x hx => (hPr k x hx).kept (by rw [e1]; exact hk x.1 (hPr k x hx).lt (mu_apart hD hx)))
    (mu_fst (by rw [List.map_append, List.map_append, hw u hp]) hD)
    ⟨Nat.le_trans hS.1 (by rw [e1]; exact hz), fun x h1 h2 => by rw [e1, hk x (Nat.lt_of_lt_of_le h1 hS.1) (fun z => h2 (hsub x z))]; exact hS.2.1 x h1 h2, fun x hx => by
      rcases List.mem_append.mp hx with h | h
      · exact hS.2.2 x h
      · exact hsub _ (hL x h)⟩ T' rfl X'
  exact ⟨t2, st t2 a1, b1⟩
/-- the same, where the callee's world is the caller's -/
theorem mu_callV {S : Type} {r : S → Option Value} {post : S → Prop} {w : S → va_W} {A : Nat → Prop} {H0 : Heap} {y : MethodName} {bytes : ByteArray} {maxL nL n index : Nat} {ret : Option FieldType} {wm Ts : List Cond} {rm : Room} {own C : String} {b q0 ci : Nat} {As : List Value} {q : vw_C} {fs : List Value} {wc : va_W}
    (Sx : CallFix p m c cc nL s args Ts own) (hM : Met l y wm rm (mu_Pc D cl tys wc (.ref b :: As)) (mu_Q D cl wc r post w) 0 0 (mu_A wc)) (cw : CallW R s args own C index y bytes maxL ret wm rm 0 0 n)
    (hK : va_K D cl tys s) (hP : va_P D cl wc H) (hD : va_D A wc) (hS : va_S A H0 H locs) (hc : cl[ci]? = some q) (he : wc[q0]? = some (b, .inr (ci, fs))) (hC : q.1 = C) (hw : ∀ u, post u → (w u).map Prod.fst = wc.map Prod.fst)
    (hn : As.length = n) (hsize : ls.size = nL) (hst : st0 = As.reverse ++ .ref b :: rest) (hW : (rest.map fun v => v.category).sum ≤ 8) (hdg : decode cc pc = .ok (.invokevirtual index, 3)) (hf : cells ≤ R.cells ∧ slots ≤ R.slots)
    (kk : ∀ (u : S) (H1 : Heap) (locs1 : List Loc), post u → va_P D cl (w u) H1 → va_D A (w u) → va_S A H0 H1 locs1 → W p l e R s m args below meth c H1 locs1 cells slots Q (F0 m (pc + 3) ls ((r u).toList ++ rest))) : W p l e R s m args below meth c H locs cells slots Q (F0 m pc ls st0) :=
  mu_callF (wr := []) Sx hM cw hK hP (fun k x hx => by cases hx) (by rw [List.append_nil]; exact hD) hS hc he hC hw hn hsize hst hW hdg hf
    (fun u H1 locs1 h1 h2 _ h4 h5 => kk u H1 locs1 h1 h2 (by rw [List.append_nil] at h4; exact h4) h5)
end MU
end
section
/-! WHAT A STATE IS, and what the methods answer of it.
X (PortRules): np parts, nq ports, the sets ap (provided, atomic) and ar (required, atomic), the arrays by the number of their field: f of ints and booleans, g of longs:
f 1 compositionOf, f 2 hasInnerParts, f 3 managerOf, f 5 partOf, f 6 kindOf, f 7 isProvided, f 8 unitOf, g 9 upOf, g 10 downOf, f 11 versionOf, f 12 hasFallback, f 13 fallbackOf, f 14 queueOf, g 15 connectedTo, g 16 reachedFrom.
M (PortRulesModel): parts, ports, code, known; f 2 in, f 4 partOf, f 5 kindOf, f 6 provides, f 7 unit, g 8 up, g 9 down, f 10 version, f 11 hasFallback, f 12 fallback, f 13 queue, f 14 manager, f 15 leads, f 16 reaches. -/
abbrev XV : Type := Nat × Nat × Int64 × Int64 × (Nat → Nat → Int32) × (Nat → Nat → Int64)
abbrev xnp (V : XV) : Nat := V.1
abbrev xnq (V : XV) : Nat := V.2.1
abbrev xap (V : XV) : Int64 := V.2.2.1
abbrev xar (V : XV) : Int64 := V.2.2.2.1
abbrev xf (V : XV) : Nat → Nat → Int32 := V.2.2.2.2.1
abbrev xg (V : XV) : Nat → Nat → Int64 := V.2.2.2.2.2
abbrev MV : Type := Nat × Nat × Int32 × Int32 × (Nat → Nat → Int32) × (Nat → Nat → Int64)
abbrev mnp (M : MV) : Nat := M.1
abbrev mnq (M : MV) : Nat := M.2.1
abbrev mco (M : MV) : Int32 := M.2.2.1
abbrev mkn (M : MV) : Int32 := M.2.2.2.1
abbrev mf (M : MV) : Nat → Nat → Int32 := M.2.2.2.2.1
abbrev mg (M : MV) : Nat → Nat → Int64 := M.2.2.2.2.2
def pu_any (P : Nat → Bool) : Nat → Nat → Bool
  | 0, _ => false
  | k + 1, i => P i || pu_any P k (i + 1)
theorem pu_any_iff {P : Nat → Bool} : ∀ (k i : Nat), pu_any P k i = true ↔ ∃ j, i ≤ j ∧ j < i + k ∧ P j = true := by
  intro k
  induction k with
  | zero => intro i; constructor
            · intro h; exact absurd h (by simp [pu_any])
            · intro ⟨j, h1, h2, _⟩; omega
  | succ k ih =>
    intro i
    simp only [pu_any, Bool.or_eq_true, ih (i + 1)]
    constructor
    · rintro (h | ⟨j, h1, h2, h3⟩)
      · exact ⟨i, Nat.le_refl i, by omega, h⟩
      · exact ⟨j, by omega, by omega, h3⟩
    · rintro ⟨j, h1, h2, h3⟩
      by_cases e : j = i
      · subst e; exact Or.inl h3
      · exact Or.inr ⟨j, by omega, by omega, h3⟩
theorem pu_any_congr {P Q : Nat → Bool} : ∀ (k i : Nat), (∀ j, i ≤ j → j < i + k → P j = Q j) → pu_any P k i = pu_any Q k i := by
  intro k
  induction k with
  | zero => intro i _; rfl
  | succ k ih =>
    intro i h
    simp only [pu_any]
    rw [h i (Nat.le_refl i) (by omega), ih (i + 1) (fun j h1 h2 => h j (by omega) (by omega))]
def pu_or (f : Nat → Int64) : Nat → Nat → Int64 → Int64
  | 0, _, x => x
  | k + 1, i, x => pu_or f k (i + 1) (x ||| f i)
theorem pu_or_lb {f : Nat → Int64} {j : Nat} : ∀ (k i : Nat) (x : Int64), lb (pu_or f k i x) j = (lb x j || pu_any (fun p => lb (f p) j) k i) := by
  intro k
  induction k with
  | zero => intro i x; simp [pu_or, pu_any]
  | succ k ih =>
    intro i x
    simp only [pu_or, pu_any]
    rw [ih (i + 1), lb_or, Bool.or_assoc]
def lrm (x y : Int64) : Int64 := x - x / y * y
/-- an int between two numbers -/
def inB (x : Int32) (lo hi : Int) : Bool := decide (lo ≤ x.toInt ∧ x.toInt ≤ hi)
def inL (x : Int64) (lo hi : Int) : Bool := decide (lo ≤ x.toInt ∧ x.toInt ≤ hi)
theorem inB_t {x : Int32} {lo hi : Int} (h1 : lo ≤ x.toInt) (h2 : x.toInt ≤ hi) : inB x lo hi = true := decide_eq_true ⟨h1, h2⟩
theorem inB_lo {x : Int32} {lo hi : Int} (h : x.toInt < lo) : inB x lo hi = false := decide_eq_false (by omega)
theorem inB_hi {x : Int32} {lo hi : Int} (h : hi < x.toInt) : inB x lo hi = false := decide_eq_false (by omega)
theorem inL_t {x : Int64} {lo hi : Int} (h1 : lo ≤ x.toInt) (h2 : x.toInt ≤ hi) : inL x lo hi = true := decide_eq_true ⟨h1, h2⟩
theorem inL_lo {x : Int64} {lo hi : Int} (h : x.toInt < lo) : inL x lo hi = false := decide_eq_false (by omega)
theorem inL_hi {x : Int64} {lo hi : Int} (h : hi < x.toInt) : inL x lo hi = false := decide_eq_false (by omega)
theorem inB_of {x : Int32} {lo hi : Int} (h : inB x lo hi = true) : lo ≤ x.toInt ∧ x.toInt ≤ hi := of_decide_eq_true h
/-- a port or part that there is -/
theorem inB_nI {x : Int32} {n : Nat} (hn : n < 2 ^ 31) (h : inB x 1 n = true) : ∃ j : Nat, 1 ≤ j ∧ j ≤ n ∧ x = nI j := ni_range hn (inB_of h).1 (inB_of h).2
/-- X: the second ports of the flat connectors from p -/
def xFl (V : XV) (p : Nat) : Int64 := if lb (xap V) p then xg V 16 p &&& xar V else 0
theorem xFl_t {V : XV} {p : Nat} (h : lb (xap V) p = true) : xFl V p = xg V 16 p &&& xar V := by unfold xFl; rw [if_pos h]
theorem xFl_f {V : XV} {p : Nat} (h : lb (xap V) p = false) : xFl V p = 0 := by unfold xFl; rw [if_neg (by rw [h]; decide)]
def xF (V : XV) (p q : Nat) : Bool := lb (xFl V p) q
def xWay (V : XV) (p q a b : Nat) : Bool := if xf V 7 p = 0 then decide (xf V 7 q = 0) && decide (xf V 1 b = nI a) else if xf V 7 q = 0 then !decide (nI a = nI b) && decide (xf V 1 a = xf V 1 b) else decide (xf V 1 a = nI b)
def xTo (V : XV) (q : Nat) : Nat := pu_cnt (fun p => xF V p q) (xnq V) 1
def xPB (V : XV) (r q : Nat) : Bool :=
  if r = 5 then !decide (xf V 6 q = 2) && decide (xf V 12 q = 0) && decide (xTo V q = 0)
  else if r = 6 then decide (xf V 6 q = 2) && decide (xTo V q = 0)
  else if r = 7 then decide (xf V 6 q = 2) && decide (1 < xTo V q)
  else decide (xf V 6 q = 1) && decide (xf V 14 q = 0)
def xEx (V : XV) (p q : Nat) : Bool := !decide (xg V 10 p * xg V 9 q = 0) && decide (lrm (xg V 9 p * xg V 10 q) (xg V 10 p * xg V 9 q) = 0)
def xSv (V : XV) (p q : Nat) : Bool := decide ((xf V 11 q).toInt ≤ (xf V 11 p).toInt) && decide (xf V 11 p / 100 = xf V 11 q / 100)
def xMg (V : XV) (x : Int32) : Bool := pu_any (fun k => decide (xf V 3 k = x)) 10 0
def xCB (V : XV) (r p q : Nat) : Bool :=
  if r = 1 then (decide (xf V 8 p = -1) != decide (xf V 8 q = -1))
  else if r = 2 then !decide (xf V 8 p = xf V 8 q)
  else if r = 3 then !decide (xf V 8 p = -1) && !xEx V p q
  else if r = 4 then !decide (xf V 11 q = -1) && !xSv V p q
  else decide (xf V 6 p = 3) && !xMg V (xf V 5 p)
def xBP (V : XV) (r : Nat) : Nat := pu_fst (fun q => lb (xar V) q && xPB V r q) (xnq V) 1
def xBC (V : XV) (r : Nat) : Nat := pu_fst2 (fun p q => xF V p q && xCB V r p q) (xnq V) (xnq V) 1
def xChk (V : XV) : Nat := pu_chk (fun r => if 5 ≤ r ∧ r ≤ 8 then xBP V r else xBC V r) 9 1
def xSec (V : XV) : Int64 := pu_or (xFl V) (xnq V) 1 0
def xOp (V : XV) (t : Nat) : Nat := pu_nth (fun q => lb (xar V &&& (xSec V ^^^ (-1))) q) (xnq V) 1 t
def xAll (V : XV) : Nat := pu_sum (fun p => pu_cnt (lb (xFl V p)) 64 0) (xnq V) 1
theorem xTo_le (V : XV) (q : Nat) : xTo V q ≤ xnq V := pu_cnt_le _ _ _
theorem xBP_le (V : XV) (r : Nat) : xBP V r ≤ xnq V := by
  unfold xBP
  rcases pu_fst_lt (fun q => lb (xar V) q && xPB V r q) (xnq V) 1 with h | h <;> omega
theorem xBC_le (V : XV) (r : Nat) : xBC V r ≤ xnq V := pu_fst2_lt _ _ _ _
/-- what X's methods need: indices in their ranges; the sets are of ports alone -/
def xOK (V : XV) : Prop := xnp V ≤ 30 ∧ xnq V ≤ 60 ∧ (∀ j, 1 ≤ j → j ≤ xnq V → ∃ c : Nat, 1 ≤ c ∧ c ≤ xnp V ∧ xf V 5 j = nI c) ∧ (∀ j, lb (xar V) j = true → 1 ≤ j ∧ j ≤ xnq V)
/-- M: the connectors; what they lead to; atomic parts; the flat connectors -/
def mL (M : MV) (p q : Nat) : Bool := !decide (mf M 15 (61 * p + q) = 0)
def mAt (M : MV) (x : Int32) : Bool := !pu_any (fun k => decide (mf M 2 k = x)) (mnp M) 1
def mR (M : MV) (p q : Nat) : Bool := pu_wl (mL M) (mnq M) p q
def mKn (M : MV) : Prop := ∀ p q, 1 ≤ p → p ≤ mnq M → 1 ≤ q → q ≤ mnq M → (!decide (mf M 16 (61 * p + q) = 0)) = mR M p q
def mF (M : MV) (p q : Nat) : Bool := !decide (mf M 6 p = 0) && (decide (mf M 6 q = 0) && (mR M p q && (mAt M (mf M 4 p) && mAt M (mf M 4 q))))
def mWay (M : MV) (p q a b : Nat) : Bool := if mf M 6 p = 0 then decide (mf M 6 q = 0) && decide (mf M 2 b = nI a) else if mf M 6 q = 0 then !decide (nI a = nI b) && decide (mf M 2 a = mf M 2 b) else decide (mf M 2 a = nI b)
def mTo (M : MV) (q : Nat) : Nat := pu_cnt (fun p => mF M p q) (mnq M) 1
def mRd (M : MV) (q : Nat) : Bool := decide (mf M 6 q = 0) && mAt M (mf M 4 q)
def mPB (M : MV) (r q : Nat) : Bool :=
  if r = 5 then !decide (mf M 5 q = 2) && (decide (mTo M q = 0) && decide (mf M 11 q = 0))
  else if r = 6 then decide (mf M 5 q = 2) && decide (mTo M q = 0)
  else if r = 7 then decide (mf M 5 q = 2) && decide (1 < mTo M q)
  else decide (mf M 5 q = 1) && decide (mf M 13 q = 0)
def mMg (M : MV) (x : Int32) : Bool := pu_any (fun k => decide (mf M 14 k = x)) 10 0
def mBo (M : MV) (p q : Nat) : Bool := decide (0 ≤ (mf M 7 p).toInt) && decide (0 ≤ (mf M 7 q).toInt)
def mCB (M : MV) (r p q : Nat) : Bool :=
  if r = 1 then (decide (0 ≤ (mf M 7 p).toInt) != decide (0 ≤ (mf M 7 q).toInt))
  else if r = 2 then mBo M p q && !decide (mf M 7 p = mf M 7 q)
  else if r = 3 then mBo M p q && !decide (lrm (mg M 8 p * mg M 9 q) (mg M 9 p * mg M 8 q) = 0)
  else if r = 4 then decide (0 ≤ (mf M 10 q).toInt) && (decide ((mf M 10 p).toInt < (mf M 10 q).toInt) || !decide (mf M 10 p / 100 = mf M 10 q / 100))
  else decide (mf M 5 p = 3) && !mMg M (mf M 4 p)
def mBP (M : MV) (r : Nat) : Nat := pu_fst (fun q => mRd M q && mPB M r q) (mnq M) 1
def mBC (M : MV) (r : Nat) : Nat := pu_fst2 (fun p q => mF M p q && mCB M r p q) (mnq M) (mnq M) 1
def mChk (M : MV) : Nat := pu_chk (fun r => if 5 ≤ r ∧ r ≤ 8 then mBP M r else mBC M r) 9 1
def mOp (M : MV) (t : Nat) : Nat := pu_nth (fun q => mRd M q && decide (mTo M q = 0)) (mnq M) 1 t
def mAll (M : MV) : Nat := pu_sum (fun p => pu_cnt (mF M p) (mnq M) 1) (mnq M) 1
/-- what M's methods need -/
def mOK (M : MV) : Prop := mnp M ≤ 30 ∧ mnq M ≤ 60 ∧ (∀ j, 1 ≤ j → j ≤ mnq M → ∃ c : Nat, 1 ≤ c ∧ c ≤ mnp M ∧ mf M 4 j = nI c) ∧ (∀ j, 1 ≤ j → j ≤ mnq M → 0 ≤ (mf M 7 j).toInt → inL (mg M 8 j) 1 1000 = true ∧ inL (mg M 9 j) 1 1000 = true) ∧ (¬ mkn M = 0 → mKn M)
end
section
/-! THE CALLS THAT CHANGE SOMETHING: answer and new state -/
/-- the ports with P taken out of a set -/
def pu_cut (P : Nat → Bool) : Nat → Nat → Int64 → Int64
  | 0, _, x => x
  | k + 1, i, x => pu_cut P k (i + 1) (if P i then x &&& (lbit i ^^^ (-1)) else x)
theorem pu_cut_lb {P : Nat → Bool} {j : Nat} (hj : j < 64) : ∀ (k i : Nat) (x : Int64), i + k ≤ 64 → lb (pu_cut P k i x) j = (lb x j && !(decide (i ≤ j ∧ j < i + k) && P j)) := by
  intro k
  induction k with
  | zero =>
    intro i x _
    have h : ¬ (i ≤ j ∧ j < i + 0) := by omega
    rw [decide_eq_false h]
    simp [pu_cut]
  | succ k ih =>
    intro i x h
    simp only [pu_cut]
    rw [ih (i + 1) _ (by omega)]
    by_cases e : i = j
    · subst e
      have h1 : ¬ (i + 1 ≤ i ∧ i < i + 1 + k) := by omega
      have h2 : (i ≤ i ∧ i < i + (k + 1)) := by omega
      cases hp : P i with
      | true => rw [decide_eq_false h1, decide_eq_true h2, if_pos rfl, lb_and, lb_not _ hj, lb_bit hj]; simp
      | false => rw [decide_eq_false h1, decide_eq_true h2, if_neg (by decide)]; simp
    · have h3 : (i + 1 ≤ j ∧ j < i + 1 + k) ↔ (i ≤ j ∧ j < i + (k + 1)) := by omega
      have h4 : lb (if P i = true then x &&& (lbit i ^^^ (-1)) else x) j = lb x j := by
        cases hp : P i with
        | true => rw [if_pos rfl, lb_and, lb_not _ hj, lb_bit (show i < 64 by omega), decide_eq_false e]; simp
        | false => rw [if_neg (by decide)]
      rw [h4]
      simp [h3]
def xEnd (V : XV) (c : Nat) : XV := (xnp V, xnq V, pu_cut (fun j => decide (xf V 5 j = nI c)) (xnq V) 1 (xap V), pu_cut (fun j => decide (xf V 5 j = nI c)) (xnq V) 1 (xar V), va_up (xf V) 2 (upd (xf V 2) c 1), xg V)
def xPart1 (V : XV) (c : Int32) : XV := (xnp V + 1, xnq V, xap V, xar V, va_up (xf V) 1 (upd (xf V 1) (xnp V + 1) c), xg V)
def xPart (V : XV) (c : Int32) : Int32 × XV :=
  if c = 0 ∨ inB c 1 (xnp V) = true then
    if 30 ≤ xnp V then (-4, V) else if c = 0 then (nI (xnp V + 1), xPart1 V c) else (nI (xnp V + 1), xEnd (xPart1 V c) c.toNatClampNeg)
  else (-1, V)
def xAdd (V : XV) (j : Nat) : XV := (xnp V, xnq V, (if xf V 7 j = 0 then xap V else xap V ||| lbit j), (if xf V 7 j = 0 then xar V ||| lbit j else xar V), xf V, xg V)
def xPort1 (V : XV) (a k b : Int32) : XV := (xnp V, xnq V + 1, xap V, xar V, va_up (va_up (va_up (xf V) 5 (upd (xf V 5) (xnq V + 1) a)) 6 (upd (xf V 6) (xnq V + 1) k)) 7 (upd (xf V 7) (xnq V + 1) b), xg V)
def xPort (V : XV) (a k b : Int32) : Int32 × XV :=
  if inB a 1 (xnp V) = true then
    if inB k 0 3 = true then
      if 60 ≤ xnq V then (-4, V)
      else if xf V 2 a.toNatClampNeg = 0 then (nI (xnq V + 1), xAdd (xPort1 V a k b) (xnq V + 1)) else (nI (xnq V + 1), xPort1 V a k b)
    else (-2, V)
  else (-1, V)
def xUnit (V : XV) (p u : Int32) (x y : Int64) : Int32 × XV :=
  if inB p 1 (xnq V) = true then
    if inB u 0 20 = true ∧ inL x 1 1000 = true ∧ inL y 1 1000 = true then (1, (xnp V, xnq V, xap V, xar V, va_up (xf V) 8 (upd (xf V 8) p.toNatClampNeg u), va_up (va_up (xg V) 9 (vp_updL (xg V 9) p.toNatClampNeg x)) 10 (vp_updL (xg V 10) p.toNatClampNeg y)))
    else (-2, V)
  else (-1, V)
/-- what a new connector from a to b does to the sets of what is reached, for the k numbers from i on -/
def pu_spread (a : Nat) (z : Int64) : Nat → Nat → (Nat → Int64) → (Nat → Int64)
  | 0, _, r => r
  | k + 1, i, r => pu_spread a z k (i + 1) (if i = a ∨ lb (r i) a = true then vp_updL r i (r i ||| z) else r)
theorem pu_spread_at {a : Nat} {z : Int64} : ∀ (k i : Nat) (r : Nat → Int64) (p : Nat), pu_spread a z k i r p = if (i ≤ p ∧ p < i + k) ∧ (p = a ∨ lb (r p) a = true) then r p ||| z else r p := by
  intro k
  induction k with
  | zero =>
    intro i r p
    have h : ¬ ((i ≤ p ∧ p < i + 0) ∧ (p = a ∨ lb (r p) a = true)) := by omega
    rw [if_neg h]
    rfl
  | succ k ih =>
    intro i r p
    simp only [pu_spread]
    rw [ih]
    by_cases e : p = i
    · subst e
      have h1 : ¬ (p + 1 ≤ p ∧ p < p + 1 + k) := by omega
      have h2 : (p ≤ p ∧ p < p + (k + 1)) := by omega
      simp only [h1, h2, false_and, if_false, true_and]
      by_cases hc : p = a ∨ lb (r p) a = true
      · rw [if_pos hc, if_pos hc, pk_uLs]
      · rw [if_neg hc, if_neg hc]
    · have h4 : (if i = a ∨ lb (r i) a = true then vp_updL r i (r i ||| z) else r) p = r p := by
        by_cases hc : i = a ∨ lb (r i) a = true
        · rw [if_pos hc, pk_uLn e]
        · rw [if_neg hc]
      have h3 : (i + 1 ≤ p ∧ p < i + 1 + k) ↔ (i ≤ p ∧ p < i + (k + 1)) := by omega
      rw [h4]
      simp only [h3]
def xSpread (V : XV) (a b : Nat) : XV := (xnp V, xnq V, xap V, xar V, xf V, va_up (xg V) 16 (pu_spread a (xg V 16 b ||| lbit b) (xnq V) 1 (xg V 16)))
def xConn1 (V : XV) (a b : Nat) : XV := (xnp V, xnq V, xap V, xar V, xf V, va_up (xg V) 15 (vp_updL (xg V 15) a (xg V 15 a ||| lbit b)))
def xConn (V : XV) (p q : Int32) : Int32 × XV :=
  if inB p 1 (xnq V) = true ∧ inB q 1 (xnq V) = true then
    if xf V 6 p.toNatClampNeg = xf V 6 q.toNatClampNeg ∧ xWay V p.toNatClampNeg q.toNatClampNeg (xf V 5 p.toNatClampNeg).toNatClampNeg (xf V 5 q.toNatClampNeg).toNatClampNeg = true then
      if lb (xg V 15 p.toNatClampNeg) q.toNatClampNeg = true then (0, V) else (1, xSpread (xConn1 V p.toNatClampNeg q.toNatClampNeg) p.toNatClampNeg q.toNatClampNeg)
    else (-2, V)
  else (-1, V)
def xMan (V : XV) (k a : Int32) : Int32 × XV :=
  if inB a 1 (xnp V) = true then
    if inB k 0 9 = true then
      if xf V 3 k.toNatClampNeg = 0 ∨ xf V 3 k.toNatClampNeg = a then (1, (xnp V, xnq V, xap V, xar V, va_up (xf V) 3 (upd (xf V 3) k.toNatClampNeg a), xg V)) else (0, V)
    else (-2, V)
  else (-1, V)
def xFall (V : XV) (p v : Int32) : Int32 × XV :=
  if inB p 1 (xnq V) = true then
    if xf V 7 p.toNatClampNeg = 0 then (xf V 13 p.toNatClampNeg, (xnp V, xnq V, xap V, xar V, va_up (va_up (xf V) 12 (upd (xf V 12) p.toNatClampNeg 1)) 13 (upd (xf V 13) p.toNatClampNeg v), xg V)) else (-3, V)
  else (-1, V)
def xQue (V : XV) (p n : Int32) : Int32 × XV :=
  if inB p 1 (xnq V) = true then
    if inB n 1 100 = true then
      if xf V 6 p.toNatClampNeg = 1 then (1, (xnp V, xnq V, xap V, xar V, va_up (xf V) 14 (upd (xf V 14) p.toNatClampNeg n), xg V)) else (-3, V)
    else (-2, V)
  else (-1, V)
def xVer (V : XV) (p v : Int32) : Int32 × XV :=
  if inB p 1 (xnq V) = true then
    if inB v 0 9999 = true then (1, (xnp V, xnq V, xap V, xar V, va_up (xf V) 11 (upd (xf V 11) p.toNatClampNeg v), xg V)) else (-2, V)
  else (-1, V)
/-! M: each call begins with code := 0 -/
def m0 (M : MV) : MV := (mnp M, mnq M, 0, mkn M, mf M, mg M)
def mPart (M : MV) (c : Int32) : Int32 × MV :=
  if inB c 0 (mnp M) = true then
    if mnp M = 30 then (-4, m0 M) else (nI (mnp M + 1), (mnp M + 1, mnq M, 0, 0, va_up (mf M) 2 (upd (mf M 2) (mnp M + 1) c), mg M))
  else (-1, m0 M)
def mPort (M : MV) (a k b : Int32) : Int32 × MV :=
  if inB a 1 (mnp M) = true then
    if inB k 0 3 = true then
      if mnq M = 60 then (-4, m0 M)
      else (nI (mnq M + 1), (mnp M, mnq M + 1, 0, 0, va_up (va_up (va_up (va_up (va_up (mf M) 4 (upd (mf M 4) (mnq M + 1) a)) 5 (upd (mf M 5) (mnq M + 1) k)) 6 (upd (mf M 6) (mnq M + 1) b)) 7 (upd (mf M 7) (mnq M + 1) (-1))) 10 (upd (mf M 10) (mnq M + 1) (-1)), mg M))
    else (-2, m0 M)
  else (-1, m0 M)
def mUnit (M : MV) (p u : Int32) (x y : Int64) : Int32 × MV :=
  if inB p 1 (mnq M) = true then
    if inB u 0 20 = true ∧ inL x 1 1000 = true ∧ inL y 1 1000 = true then (1, (mnp M, mnq M, 0, mkn M, va_up (mf M) 7 (upd (mf M 7) p.toNatClampNeg u), va_up (va_up (mg M) 8 (vp_updL (mg M 8) p.toNatClampNeg x)) 9 (vp_updL (mg M 9) p.toNatClampNeg y)))
    else (-2, m0 M)
  else (-1, m0 M)
def mConn (M : MV) (p q : Int32) : Int32 × MV :=
  if inB p 1 (mnq M) = true ∧ inB q 1 (mnq M) = true then
    if mf M 5 p.toNatClampNeg = mf M 5 q.toNatClampNeg ∧ mWay M p.toNatClampNeg q.toNatClampNeg (mf M 4 p.toNatClampNeg).toNatClampNeg (mf M 4 q.toNatClampNeg).toNatClampNeg = true then
      if mf M 15 (61 * p.toNatClampNeg + q.toNatClampNeg) = 0 then (1, (mnp M, mnq M, 0, 0, va_up (mf M) 15 (upd (mf M 15) (61 * p.toNatClampNeg + q.toNatClampNeg) 1), mg M)) else (0, m0 M)
    else (-2, m0 M)
  else (-1, m0 M)
def mMan (M : MV) (k a : Int32) : Int32 × MV :=
  if inB a 1 (mnp M) = true then
    if inB k 0 9 = true then
      if mf M 14 k.toNatClampNeg = 0 ∨ mf M 14 k.toNatClampNeg = a then (1, (mnp M, mnq M, 0, mkn M, va_up (mf M) 14 (upd (mf M 14) k.toNatClampNeg a), mg M)) else (0, m0 M)
    else (-2, m0 M)
  else (-1, m0 M)
def mFall (M : MV) (p v : Int32) : Int32 × MV :=
  if inB p 1 (mnq M) = true then
    if mf M 6 p.toNatClampNeg = 0 then (mf M 12 p.toNatClampNeg, (mnp M, mnq M, 0, mkn M, va_up (va_up (mf M) 12 (upd (mf M 12) p.toNatClampNeg v)) 11 (upd (mf M 11) p.toNatClampNeg 1), mg M)) else (-3, m0 M)
  else (-1, m0 M)
def mQue (M : MV) (p n : Int32) : Int32 × MV :=
  if inB p 1 (mnq M) = true then
    if inB n 1 100 = true then
      if mf M 5 p.toNatClampNeg = 1 then (1, (mnp M, mnq M, 0, mkn M, va_up (mf M) 13 (upd (mf M 13) p.toNatClampNeg n), mg M)) else (-3, m0 M)
    else (-2, m0 M)
  else (-1, m0 M)
def mVer (M : MV) (p v : Int32) : Int32 × MV :=
  if inB p 1 (mnq M) = true then
    if inB v 0 9999 = true then (1, (mnp M, mnq M, 0, mkn M, va_up (mf M) 10 (upd (mf M 10) p.toNatClampNeg v), mg M)) else (-2, m0 M)
  else (-1, m0 M)
end
section
/-! WHEN X AND M TELL THE SAME -/
def Rel (V : XV) (M : MV) : Prop :=
  (mnp M = xnp V ∧ mnq M = xnq V ∧ xnp V ≤ 30 ∧ xnq V ≤ 60) ∧
  (∀ j, 1 ≤ j → j ≤ xnp V → xf V 1 j = mf M 2 j ∧ ∃ c : Nat, c < j ∧ mf M 2 j = nI c) ∧
  (∀ c : Nat, 1 ≤ c → c ≤ 30 → (xf V 2 c = 0 ↔ mAt M (nI c) = true)) ∧
  (∀ k, k < 10 → xf V 3 k = mf M 14 k) ∧
  (∀ j, 1 ≤ j → j ≤ xnq V → xf V 5 j = mf M 4 j ∧ xf V 6 j = mf M 5 j ∧ xf V 7 j = mf M 6 j ∧ xf V 8 j = mf M 7 j ∧ xf V 11 j = mf M 10 j ∧ ∃ c : Nat, 1 ≤ c ∧ c ≤ xnp V ∧ mf M 4 j = nI c) ∧
  (∀ j, j ≤ 60 → xg V 9 j = mg M 8 j ∧ xg V 10 j = mg M 9 j ∧ xf V 12 j = mf M 11 j ∧ xf V 13 j = mf M 12 j ∧ xf V 14 j = mf M 13 j) ∧
  (∀ j, j ≤ 60 → (xf V 8 j = -1 ∨ (j ≤ xnq V ∧ 0 ≤ (xf V 8 j).toInt ∧ inL (xg V 9 j) 1 1000 = true ∧ inL (xg V 10 j) 1 1000 = true)) ∧ (xf V 11 j = -1 ∨ (j ≤ xnq V ∧ 0 ≤ (xf V 11 j).toInt))) ∧
  (∀ p q, p ≤ 60 → q ≤ 60 → lb (xg V 15 p) q = mL M p q) ∧
  (∀ p q, p ≤ 60 → q ≤ 60 → mL M p q = true → (1 ≤ p ∧ p ≤ xnq V) ∧ (1 ≤ q ∧ q ≤ xnq V)) ∧
  (∀ p q, p ≤ 60 → lb (xg V 16 p) q = (decide ((1 ≤ p ∧ p ≤ xnq V) ∧ (1 ≤ q ∧ q ≤ xnq V)) && mR M p q)) ∧
  (∀ j, lb (xap V) j = (decide (1 ≤ j ∧ j ≤ xnq V) && (!decide (mf M 6 j = 0) && mAt M (mf M 4 j)))) ∧
  (∀ j, lb (xar V) j = (decide (1 ≤ j ∧ j ≤ xnq V) && (decide (mf M 6 j = 0) && mAt M (mf M 4 j)))) ∧
  (¬ mkn M = 0 → mKn M)
theorem xF_eq (V : XV) (p q : Nat) : xF V p q = (lb (xap V) p && (lb (xg V 16 p) q && lb (xar V) q)) := by
  unfold xF xFl
  cases lb (xap V) p <;> simp [lb_and, lb_0]
theorem rel_F {V : XV} {M : MV} (h : Rel V M) {p q : Nat} (hp : 1 ≤ p ∧ p ≤ xnq V) (hq : 1 ≤ q ∧ q ≤ xnq V) : xF V p q = mF M p q := by
  obtain ⟨⟨n1, n2, n3, n4⟩, hc, hh, hm, hpt, hul, hrng, hld, hli, hrc, hap, har, hkn⟩ := h
  rw [xF_eq, hap p, hrc p q (by omega), har q]
  unfold mF
  simp only [hp, hq, and_self, decide_true, Bool.true_and]
  generalize (!decide (mf M 6 p = 0)) = b1
  generalize decide (mf M 6 q = 0) = b2
  generalize mAt M (mf M 4 p) = b3
  generalize mAt M (mf M 4 q) = b4
  generalize mR M p q = b5
  cases b1 <;> cases b2 <;> cases b3 <;> cases b4 <;> cases b5 <;> rfl
theorem rel_xOK {V : XV} {M : MV} (h : Rel V M) : xOK V := by
  obtain ⟨⟨n1, n2, n3, n4⟩, hc, hh, hm, hpt, hul, hrng, hld, hli, hrc, hap, har, hkn⟩ := h
  refine ⟨n3, n4, fun j h1 h2 => ?_, fun j hj => ?_⟩
  · obtain ⟨e, -, -, -, -, c, c1, c2, c3⟩ := hpt j h1 h2
    exact ⟨c, c1, c2, e.trans c3⟩
  · rw [har j] at hj
    simp only [Bool.and_eq_true, decide_eq_true_eq] at hj
    exact hj.1
theorem rel_mOK {V : XV} {M : MV} (h : Rel V M) : mOK M := by
  obtain ⟨⟨n1, n2, n3, n4⟩, hc, hh, hm, hpt, hul, hrng, hld, hli, hrc, hap, har, hkn⟩ := h
  refine ⟨by omega, by omega, fun j h1 h2 => ?_, fun j h1 h2 h3 => ?_, hkn⟩
  · obtain ⟨e, -, -, -, -, c, c1, c2, c3⟩ := hpt j h1 (by omega)
    exact ⟨c, c1, by omega, c3⟩
  · obtain ⟨-, -, -, e, -, -⟩ := hpt j h1 (by omega)
    obtain ⟨a1, a2, -, -, -⟩ := hul j (by omega)
    rw [← e] at h3
    rcases (hrng j (by omega)).1 with q | ⟨-, -, q1, q2⟩
    · rw [q] at h3; exact absurd h3 (by decide)
    · rw [← a1, ← a2]; exact ⟨q1, q2⟩
/-- outside the ports no flat connector ends -/
theorem xF_out {V : XV} (h : xOK V) {p q : Nat} (hq : ¬ (1 ≤ q ∧ q ≤ xnq V)) : xF V p q = false := by
  rw [xF_eq]
  have e : lb (xar V) q = false := by
    cases hb : lb (xar V) q with
    | false => rfl
    | true => exact absurd (h.2.2.2 q hb) hq
  rw [e, Bool.and_false, Bool.and_false]
theorem xF_cnt {V : XV} (h : xOK V) (p : Nat) : pu_cnt (lb (xFl V p)) 64 0 = pu_cnt (xF V p) (xnq V) 1 :=
  lb_cnt (x := xFl V p) (by have := h.2.1; omega) (xF_out h (by omega)) (fun j hj => xF_out h (by omega))
theorem rel_all {V : XV} {M : MV} (h : Rel V M) : xAll V = mAll M := by
  have n2 : mnq M = xnq V := h.1.2.1
  unfold xAll mAll
  rw [n2]
  refine pu_sum_congr _ _ (fun p h1 h2 => ?_)
  rw [xF_cnt (rel_xOK h) p]
  exact pu_cnt_congr _ _ (fun q h3 h4 => rel_F h (by omega) (by omega))
theorem rel_at {V : XV} {M : MV} (h : Rel V M) (t : Nat) : pu_at (xF V) (xnq V) (xnq V) 1 t = pu_at (mF M) (mnq M) (mnq M) 1 t := by
  have n2 : mnq M = xnq V := h.1.2.1
  rw [n2]
  exact pu_at_congr _ _ _ (fun a b h1 h2 h3 h4 => rel_F h (by omega) (by omega))
theorem rel_to {V : XV} {M : MV} (h : Rel V M) {q : Nat} (hq : 1 ≤ q ∧ q ≤ xnq V) : xTo V q = mTo M q := by
  have n2 : mnq M = xnq V := h.1.2.1
  unfold xTo mTo
  rw [n2]
  exact pu_cnt_congr _ _ (fun p h1 h2 => rel_F h (by omega) hq)
theorem rel_rd {V : XV} {M : MV} (h : Rel V M) {q : Nat} (hq : 1 ≤ q ∧ q ≤ xnq V) : lb (xar V) q = mRd M q := by
  obtain ⟨⟨n1, n2, n3, n4⟩, hc, hh, hm, hpt, hul, hrng, hld, hli, hrc, hap, har, hkn⟩ := h
  rw [har q]
  unfold mRd
  simp only [hq, and_self, decide_true, Bool.true_and]
theorem pu_cnt0 {P : Nat → Bool} : ∀ (k i : Nat), decide (pu_cnt P k i = 0) = !pu_any P k i := by
  intro k
  induction k with
  | zero => intro i; rfl
  | succ k ih =>
    intro i
    simp only [pu_cnt, pu_any]
    by_cases hp : P i = true
    · simp [hp]
    · have hf : P i = false := by simpa using hp
      simpa [hf] using ih (i + 1)
theorem rel_op {V : XV} {M : MV} (h : Rel V M) (t : Nat) : xOp V t = mOp M t := by
  have n2 : mnq M = xnq V := h.1.2.1
  have n4 : xnq V ≤ 60 := h.1.2.2.2
  unfold xOp mOp
  rw [n2]
  refine pu_nth_congr _ _ _ (fun q h1 h2 => ?_)
  have hq : 1 ≤ q ∧ q ≤ xnq V := by omega
  have e : lb (xSec V) q = pu_any (fun p => mF M p q) (mnq M) 1 := by
    unfold xSec
    rw [pu_or_lb, lb_0, Bool.false_or, n2]
    exact pu_any_congr _ _ (fun p h3 h4 => rel_F h (by omega) hq)
  rw [lb_and, lb_not _ (by omega), rel_rd h hq, e]
  unfold mTo
  rw [pu_cnt0]
theorem pu_fst_0 {P : Nat → Bool} : ∀ (k i : Nat), 1 ≤ i → pu_fst P k i = 0 → ∀ j, i ≤ j → j < i + k → P j = false := by
  intro k
  induction k with
  | zero => intro i _ _ j h1 h2; omega
  | succ k ih =>
    intro i hi h j h1 h2
    simp only [pu_fst] at h
    cases hp : P i with
    | true => rw [hp, if_pos rfl] at h; omega
    | false =>
      rw [hp, if_neg (by decide)] at h
      by_cases e : j = i
      · rw [e]; exact hp
      · exact ih (i + 1) (by omega) h j (by omega) (by omega)
theorem pu_fst2_0 {P : Nat → Nat → Bool} {n : Nat} : ∀ (k p : Nat), pu_fst2 P n k p = 0 → ∀ a b, p ≤ a → a < p + k → 1 ≤ b → b < 1 + n → P a b = false := by
  intro k
  induction k with
  | zero => intro p _ a b h1 h2; omega
  | succ k ih =>
    intro p h a b h1 h2 h3 h4
    simp only [pu_fst2] at h
    by_cases e : pu_fst (P p) n 1 = 0
    · rw [if_pos e] at h
      by_cases ea : a = p
      · rw [ea]; exact pu_fst_0 n 1 (Nat.le_refl 1) e b h3 h4
      · exact ih (p + 1) h a b (by omega) (by omega) h3 h4
    · rw [if_neg e] at h; exact absurd h e
theorem rel_BP {V : XV} {M : MV} (h : Rel V M) (r : Nat) : xBP V r = mBP M r := by
  have h0 := h
  obtain ⟨⟨n1, n2, n3, n4⟩, hc, hh, hm, hpt, hul, hrng, hld, hli, hrc, hap, har, hkn⟩ := h
  unfold xBP mBP
  rw [n2]
  refine pu_fst_congr _ _ (fun q h1 h2 => ?_)
  have hq : 1 ≤ q ∧ q ≤ xnq V := by omega
  obtain ⟨-, e6, -, -, -, -⟩ := hpt q hq.1 hq.2
  obtain ⟨-, -, e12, -, e14⟩ := hul q (by omega)
  rw [rel_rd h0 hq]
  unfold xPB mPB
  rw [rel_to h0 hq, e6, e12, e14]
  generalize decide (mf M 5 q = 2) = b1
  generalize decide (mf M 11 q = 0) = b2
  generalize decide (mTo M q = 0) = b3
  cases b1 <;> cases b2 <;> cases b3 <;> rfl
theorem i32_m1 {x : Int32} (h : x = -1 ∨ 0 ≤ x.toInt) : decide (x = -1) = !decide (0 ≤ x.toInt) := by
  rcases h with h | h
  · subst h; decide
  · have e : ¬ x = -1 := fun q => by rw [q] at h; exact absurd h (by decide)
    simp [h, e]
theorem lrm_ne {a b : Int64} (ha : inL a 1 1000 = true) (hb : inL b 1 1000 = true) : decide (a * b = 0) = false := by
  unfold inL at ha hb
  simp only [decide_eq_true_eq] at ha hb
  have h1 : (1 : Int) ≤ a.toInt * b.toInt := by
    have := Int.mul_le_mul ha.1 hb.1 (by decide) (by omega)
    simpa using this
  have h2 : a.toInt * b.toInt ≤ 1000 * 1000 := Int.mul_le_mul ha.2 hb.2 (by omega) (by decide)
  have e : (a * b).toInt = a.toInt * b.toInt := by
    rw [Int64.toInt_mul]
    exact Int.bmod_eq_of_le (by omega) (by omega)
  simp only [decide_eq_false_iff_not]
  intro q
  rw [q] at e
  have : (0 : Int64).toInt = 0 := rfl
  omega
theorem rel_BC1 {V : XV} {M : MV} (h : Rel V M) : xBC V 1 = mBC M 1 := by
  have h0 := h
  obtain ⟨⟨n1, n2, n3, n4⟩, hc, hh, hm, hpt, hul, hrng, hld, hli, hrc, hap, har, hkn⟩ := h
  unfold xBC mBC
  rw [n2]
  refine pu_fst2_congr _ _ (fun p q h1 h2 h3 h4 => ?_)
  rw [rel_F h0 (by omega) (by omega)]
  obtain ⟨-, -, -, ep, -, -⟩ := hpt p (by omega) (by omega)
  obtain ⟨-, -, -, eq, -, -⟩ := hpt q (by omega) (by omega)
  have up := (hrng p (by omega)).1
  have uq := (hrng q (by omega)).1
  have e1 : decide (xf V 8 p = -1) = !decide (0 ≤ (xf V 8 p).toInt) := i32_m1 (up.imp id (fun z => z.2.1))
  have e2 : decide (xf V 8 q = -1) = !decide (0 ≤ (xf V 8 q).toInt) := i32_m1 (uq.imp id (fun z => z.2.1))
  unfold xCB mCB
  simp only [if_true]
  rw [e1, e2, ep, eq]
  generalize decide (0 ≤ (mf M 7 p).toInt) = b1
  generalize decide (0 ≤ (mf M 7 q).toInt) = b2
  cases b1 <;> cases b2 <;> rfl
/-- rules 2, 3, 4, 9: where rule 1 holds -/
theorem rel_BC {V : XV} {M : MV} (h : Rel V M) (hz : mBC M 1 = 0) {r : Nat} (hr : 1 < r) : xBC V r = mBC M r := by
  have h0 := h
  obtain ⟨⟨n1, n2, n3, n4⟩, hc, hh, hm, hpt, hul, hrng, hld, hli, hrc, hap, har, hkn⟩ := h
  unfold mBC at hz
  unfold xBC mBC
  rw [n2]
  refine pu_fst2_congr _ _ (fun p q h1 h2 h3 h4 => ?_)
  have hz2 := pu_fst2_0 _ _ hz p q h1 (by omega) h3 (by omega)
  rw [rel_F h0 (by omega) (by omega)]
  cases hF : mF M p q with
  | false => rfl
  | true =>
    rw [hF, Bool.true_and] at hz2
    rw [Bool.true_and, Bool.true_and]
    obtain ⟨e5, e6, -, ep, vp, -⟩ := hpt p (by omega) (by omega)
    obtain ⟨-, -, -, eq, vq, -⟩ := hpt q (by omega) (by omega)
    obtain ⟨a1, a2, -, -, -⟩ := hul p (by omega)
    obtain ⟨b1, b2, -, -, -⟩ := hul q (by omega)
    have up := (hrng p (by omega)).1
    have uq := (hrng q (by omega)).1
    have wq := (hrng q (by omega)).2
    have d1 : decide (xf V 8 p = -1) = !decide (0 ≤ (xf V 8 p).toInt) := i32_m1 (up.imp id (fun z => z.2.1))
    have d2 : decide (xf V 8 q = -1) = !decide (0 ≤ (xf V 8 q).toInt) := i32_m1 (uq.imp id (fun z => z.2.1))
    have d3 : decide (xf V 11 q = -1) = !decide (0 ≤ (xf V 11 q).toInt) := i32_m1 (wq.imp id (fun z => z.2))
    unfold mCB at hz2
    simp only [if_true] at hz2
    rw [← ep, ← eq] at hz2
    unfold xCB mCB mBo
    rw [← ep, ← eq, ← vp, ← vq, ← a1, ← a2, ← b1, ← b2, ← e5, ← e6]
    rw [if_neg (show ¬ r = 1 by omega), if_neg (show ¬ r = 1 by omega)]
    by_cases r2 : r = 2
    · rw [if_pos r2, if_pos r2]
      cases c1 : decide (0 ≤ (xf V 8 p).toInt) with
      | true =>
        rw [c1] at hz2
        cases c2 : decide (0 ≤ (xf V 8 q).toInt) with
        | true => rfl
        | false => rw [c2] at hz2; exact absurd hz2 (by decide)
      | false =>
        rw [c1] at hz2 d1
        cases c2 : decide (0 ≤ (xf V 8 q).toInt) with
        | true => rw [c2] at hz2; exact absurd hz2 (by decide)
        | false =>
          rw [c2] at d2
          have g1 : xf V 8 p = -1 := by simpa using d1
          have g2 : xf V 8 q = -1 := by simpa using d2
          rw [g1, g2]; rfl
    · rw [if_neg r2, if_neg r2]
      by_cases r3 : r = 3
      · rw [if_pos r3, if_pos r3, d1, Bool.not_not]
        cases c1 : decide (0 ≤ (xf V 8 p).toInt) with
        | false => rfl
        | true =>
          rw [c1] at hz2 d1
          cases c2 : decide (0 ≤ (xf V 8 q).toInt) with
          | false => rw [c2] at hz2; exact absurd hz2 (by decide)
          | true =>
            rw [c2] at d2
            have g1 : ¬ xf V 8 p = -1 := by simpa using d1
            have g2 : ¬ xf V 8 q = -1 := by simpa using d2
            have k1 : inL (xg V 10 p) 1 1000 = true := by rcases up with z | z; exact absurd z g1; exact z.2.2.2
            have k2 : inL (xg V 9 q) 1 1000 = true := by rcases uq with z | z; exact absurd z g2; exact z.2.2.1
            unfold xEx
            rw [lrm_ne k1 k2]
            simp
      · rw [if_neg r3, if_neg r3]
        by_cases r4 : r = 4
        · rw [if_pos r4, if_pos r4, d3]
          unfold xSv
          generalize xf V 11 p / 100 = y1
          generalize xf V 11 q / 100 = y2
          have g : decide ((xf V 11 q).toInt ≤ (xf V 11 p).toInt) = !decide ((xf V 11 p).toInt < (xf V 11 q).toInt) := by
            rw [← decide_not, decide_eq_decide]; omega
          rw [g]
          generalize decide ((xf V 11 p).toInt < (xf V 11 q).toInt) = b1
          generalize decide (0 ≤ (xf V 11 q).toInt) = b2
          generalize decide (y1 = y2) = b3
          cases b1 <;> cases b2 <;> cases b3 <;> rfl
        · rw [if_neg r4, if_neg r4]
          have g : xMg V (xf V 5 p) = mMg M (xf V 5 p) := by
            unfold xMg mMg
            exact pu_any_congr _ _ (fun k _ hk => by rw [hm k (by omega)])
          rw [g]
theorem rel_chk {V : XV} {M : MV} (h : Rel V M) : xChk V = mChk M := by
  have b1 : (fun r => if 5 ≤ r ∧ r ≤ 8 then xBP V r else xBC V r) 1 = mBC M 1 := (if_neg (by omega)).trans (rel_BC1 h)
  have b2 : (fun r => if 5 ≤ r ∧ r ≤ 8 then mBP M r else mBC M r) 1 = mBC M 1 := if_neg (by omega)
  by_cases hz : mBC M 1 = 0
  · refine Eq.trans (pu_chk_n (k := 8) (b := fun r => if 5 ≤ r ∧ r ≤ 8 then xBP V r else xBC V r) (r := 1) (b1.trans hz)) (Eq.trans ?_ (pu_chk_n (k := 8) (b := fun r => if 5 ≤ r ∧ r ≤ 8 then mBP M r else mBC M r) (r := 1) (b2.trans hz)).symm)
    refine pu_chk_congr 8 (1 + 1) (fun r h1 h2 => ?_)
    show (if 5 ≤ r ∧ r ≤ 8 then xBP V r else xBC V r) = (if 5 ≤ r ∧ r ≤ 8 then mBP M r else mBC M r)
    by_cases hp : 5 ≤ r ∧ r ≤ 8
    · rw [if_pos hp, if_pos hp, rel_BP h r]
    · rw [if_neg hp, if_neg hp, rel_BC h hz (by omega)]
  · exact Eq.trans (pu_chk_y (k := 8) (b := fun r => if 5 ≤ r ∧ r ≤ 8 then xBP V r else xBC V r) (r := 1) b1 hz) (pu_chk_y (k := 8) (b := fun r => if 5 ≤ r ∧ r ≤ 8 then mBP M r else mBC M r) (r := 1) b2 hz).symm
end
section
/-! THE CELLS of X and M; the fields of M -/
def TM : u_T := fun k => match k with
  | 0 => ("PortRulesModel", "code", "I", false)
  | 1 => ("PortRulesModel", "parts", "I", false)
  | 2 => ("PortRulesModel", "in", "[I", true)
  | 3 => ("PortRulesModel", "ports", "I", false)
  | 4 => ("PortRulesModel", "partOf", "[I", true)
  | 5 => ("PortRulesModel", "kindOf", "[I", true)
  | 6 => ("PortRulesModel", "provides", "[Z", true)
  | 7 => ("PortRulesModel", "unit", "[I", true)
  | 8 => ("PortRulesModel", "up", "[J", true)
  | 9 => ("PortRulesModel", "down", "[J", true)
  | 10 => ("PortRulesModel", "version", "[I", true)
  | 11 => ("PortRulesModel", "hasFallback", "[Z", true)
  | 12 => ("PortRulesModel", "fallback", "[I", true)
  | 13 => ("PortRulesModel", "queue", "[I", true)
  | 14 => ("PortRulesModel", "manager", "[I", true)
  | 15 => ("PortRulesModel", "leads", "[Z", true)
  | 16 => ("PortRulesModel", "reaches", "[Z", true)
  | _ => ("PortRulesModel", "known", "Z", false)
def tyM : Nat → FieldType := fun k => match k with
  | 0 => .int
  | 1 => .int
  | 2 => .array .int
  | 3 => .int
  | 4 => .array .int
  | 5 => .array .int
  | 6 => .array .boolean
  | 7 => .array .int
  | 8 => .array .long
  | 9 => .array .long
  | 10 => .array .int
  | 11 => .array .boolean
  | 12 => .array .int
  | 13 => .array .int
  | 14 => .array .int
  | 15 => .array .boolean
  | 16 => .array .boolean
  | _ => .boolean
theorem nmM : ∀ a, a < 18 → ∀ b, b < 18 → a ≠ b → (TM a).2.1 ≠ (TM b).2.1 := by decide +kernel
theorem tyM_ok : ∀ k, k < 18 → parseFieldDescriptor (TM k).2.2.1 = some (tyM k) := by decide +kernel
abbrev vwC2 : List vw_C := [(RX0, TX0, 19), (RX1, TM, 18)]
abbrev tT (cA : Nat → ClassId) : List (ClassId × FieldType) := [(cA 0, .int), (cA 1, .boolean), (cA 2, .long)]
abbrev xO (a : Nat → Nat) (V : XV) : List Value := [.int (nI (xnp V)), .ref (a 1), .ref (a 2), .ref (a 3), .int (nI (xnq V)), .ref (a 5), .ref (a 6), .ref (a 7), .ref (a 8), .ref (a 9), .ref (a 10), .ref (a 11), .ref (a 12), .ref (a 13), .ref (a 14), .ref (a 15), .ref (a 16), .long (xap V), .long (xar V)]
abbrev xW (cA : Nat → ClassId) (a : Nat → Nat) (V : XV) : va_W := [(a 0, .inr (0, xO a V)), (a 1, .inl (cA 0, 31, .inl (xf V 1))), (a 2, .inl (cA 1, 31, .inl (xf V 2))), (a 3, .inl (cA 0, 10, .inl (xf V 3))), (a 5, .inl (cA 0, 61, .inl (xf V 5))), (a 6, .inl (cA 0, 61, .inl (xf V 6))), (a 7, .inl (cA 1, 61, .inl (xf V 7))), (a 8, .inl (cA 0, 61, .inl (xf V 8))), (a 9, .inl (cA 2, 61, .inr (.inl (xg V 9)))), (a 10, .inl (cA 2, 61, .inr (.inl (xg V 10)))), (a 11, .inl (cA 0, 61, .inl (xf V 11))), (a 12, .inl (cA 1, 61, .inl (xf V 12))), (a 13, .inl (cA 0, 61, .inl (xf V 13))), (a 14, .inl (cA 0, 61, .inl (xf V 14))), (a 15, .inl (cA 2, 61, .inr (.inl (xg V 15)))), (a 16, .inl (cA 2, 61, .inr (.inl (xg V 16))))]
abbrev mO (a : Nat → Nat) (V : MV) : List Value := [.int (mco V), .int (nI (mnp V)), .ref (a 2), .int (nI (mnq V)), .ref (a 4), .ref (a 5), .ref (a 6), .ref (a 7), .ref (a 8), .ref (a 9), .ref (a 10), .ref (a 11), .ref (a 12), .ref (a 13), .ref (a 14), .ref (a 15), .ref (a 16), .int (mkn V)]
abbrev mW (cA : Nat → ClassId) (a : Nat → Nat) (V : MV) : va_W := [(a 0, .inr (1, mO a V)), (a 2, .inl (cA 0, 31, .inl (mf V 2))), (a 4, .inl (cA 0, 61, .inl (mf V 4))), (a 5, .inl (cA 0, 61, .inl (mf V 5))), (a 6, .inl (cA 1, 61, .inl (mf V 6))), (a 7, .inl (cA 0, 61, .inl (mf V 7))), (a 8, .inl (cA 2, 61, .inr (.inl (mg V 8)))), (a 9, .inl (cA 2, 61, .inr (.inl (mg V 9)))), (a 10, .inl (cA 0, 61, .inl (mf V 10))), (a 11, .inl (cA 1, 61, .inl (mf V 11))), (a 12, .inl (cA 0, 61, .inl (mf V 12))), (a 13, .inl (cA 0, 61, .inl (mf V 13))), (a 14, .inl (cA 0, 10, .inl (mf V 14))), (a 15, .inl (cA 1, 3721, .inl (mf V 15))), (a 16, .inl (cA 1, 3721, .inl (mf V 16)))]
end
section
/-! X: the methods that change nothing -/
set_option maxHeartbeats 4000000 in
set_option maxRecDepth 100000 in
theorem cx_isPart (l : Launch) (G : va_G) (cA : Nat → ClassId) (a : Nat → Nat) (V : XV) (x : Int32) (h30 : xnp V ≤ 30) : Met l yX0_isPart wsX0_isPart { frames := 0, cells := 0, slots := 0, locals := 0 } (rd_Pc G vwC2 (tT cA) (xW cA a V) [.ref (a 0), .int x]) (k2_QcV (.int (z1 (inB x 1 (xnp V))))) 0 0 (fun _ => False) := by
  refine Met.ofW (cc := cX0_isPart) (maxL := 2) (ret := some .boolean) (by decide) rfl ?_
  intro p e s m args below meth c s₁ B hml hv
  obtain ⟨rfl, hP, hK⟩ := hv
  have hx := B.exec
  have hb := B.bytes
  have hr := B.returns
  have hts := atoms_spec (ws := wsX0_isPart) B.pre
  have hown : s.vm.findClass RX0 = some m.cls := findClass_of_methodNamed B.named
  have hlocks := B.notSynchronized
  have hfi : ∀ w ∈ u_ws RX0 TX0 19, w ∈ wsX0_isPart := by decide +kernel
  have hl := lv_entry ([.ref (a 0), .int x]) (n := 2) (Nat.le_of_ble_eq_true rfl)
  rw [lg_entry_eq]
  generalize (lg_sl ([.ref (a 0), .int x]) ++ List.replicate (2 - (lg_sl ([.ref (a 0), .int x])).length) Slot.unset).toArray = ls at hl ⊢
  have hl : lv_has ls 2 [(0, .ref (a 0)), (1, .int x)] := hl
  refine lv_iload_n hx hb dX0_isPart_0 rfl (lv_at hl 1 rfl) ?_
  refine lv_iconst (v := 1) hx hb dX0_isPart_1 (by decide) ?_
  refine bi_lt (a := x.toInt) (b := 1) (tgt := 17) hx hb dX0_isPart_2 (by decide) rfl (by decide) (fun c2 => ?_) (fun c2 => ?_)
  · refine lv_iconst (v := 0) hx hb dX0_isPart_17 (by decide) ?_
    exact rd_zret hx hb hr rfl (z1_f (inB_lo c2)) dX0_isPart_18 hlocks
  · refine lv_iload_n hx hb dX0_isPart_5 rfl (lv_at hl 1 rfl) ?_
    refine lv_aload_n hx hb dX0_isPart_6 rfl (lv_at hl 0 rfl) ?_
    refine va_get (D := G) (ci := 0) (v := .int (nI (xnp V))) (C := RX0) (T := TX0) (N := 19) hx hb hts hfi hown hK hP 0 rfl rfl 0 (by decide) (hts (.fieldLink RX0 67 "PortRules" "partCount" "I") (by decide +kernel)) (fun _ h9 => h9) rfl dX0_isPart_7 ?_
    refine bi_gt (a := x.toInt) (b := (((xnp V) : Nat) : Int)) (tgt := 17) hx hb dX0_isPart_10 (by decide) rfl (nI_toInt (by omega)) (fun c10 => ?_) (fun c10 => ?_)
    · refine lv_iconst (v := 0) hx hb dX0_isPart_17 (by decide) ?_
      exact rd_zret hx hb hr rfl (z1_f (inB_hi c10)) dX0_isPart_18 hlocks
    · refine lv_iconst (v := 1) hx hb dX0_isPart_13 (by decide) ?_
      refine lv_goto (tgt := 18) hx hb dX0_isPart_14 (by decide) ?_
      exact rd_zret hx hb hr rfl (z1_t (inB_t c2 c10)) dX0_isPart_18 hlocks
set_option maxHeartbeats 4000000 in
set_option maxRecDepth 100000 in
theorem cx_isPort (l : Launch) (G : va_G) (cA : Nat → ClassId) (a : Nat → Nat) (V : XV) (x : Int32) (h60 : xnq V ≤ 60) : Met l yX0_isPort wsX0_isPort { frames := 0, cells := 0, slots := 0, locals := 0 } (rd_Pc G vwC2 (tT cA) (xW cA a V) [.ref (a 0), .int x]) (k2_QcV (.int (z1 (inB x 1 (xnq V))))) 0 0 (fun _ => False) := by
  refine Met.ofW (cc := cX0_isPort) (maxL := 2) (ret := some .boolean) (by decide) rfl ?_
  intro p e s m args below meth c s₁ B hml hv
  obtain ⟨rfl, hP, hK⟩ := hv
  have hx := B.exec
  have hb := B.bytes
  have hr := B.returns
  have hts := atoms_spec (ws := wsX0_isPort) B.pre
  have hown : s.vm.findClass RX0 = some m.cls := findClass_of_methodNamed B.named
  have hlocks := B.notSynchronized
  have hfi : ∀ w ∈ u_ws RX0 TX0 19, w ∈ wsX0_isPort := by decide +kernel
  have hl := lv_entry ([.ref (a 0), .int x]) (n := 2) (Nat.le_of_ble_eq_true rfl)
  rw [lg_entry_eq]
  generalize (lg_sl ([.ref (a 0), .int x]) ++ List.replicate (2 - (lg_sl ([.ref (a 0), .int x])).length) Slot.unset).toArray = ls at hl ⊢
  have hl : lv_has ls 2 [(0, .ref (a 0)), (1, .int x)] := hl
  refine lv_iload_n hx hb dX0_isPort_0 rfl (lv_at hl 1 rfl) ?_
  refine lv_iconst (v := 1) hx hb dX0_isPort_1 (by decide) ?_
  refine bi_lt (a := x.toInt) (b := 1) (tgt := 17) hx hb dX0_isPort_2 (by decide) rfl (by decide) (fun c2 => ?_) (fun c2 => ?_)
  · refine lv_iconst (v := 0) hx hb dX0_isPort_17 (by decide) ?_
    exact rd_zret hx hb hr rfl (z1_f (inB_lo c2)) dX0_isPort_18 hlocks
  · refine lv_iload_n hx hb dX0_isPort_5 rfl (lv_at hl 1 rfl) ?_
    refine lv_aload_n hx hb dX0_isPort_6 rfl (lv_at hl 0 rfl) ?_
    refine va_get (D := G) (ci := 0) (v := .int (nI (xnq V))) (C := RX0) (T := TX0) (N := 19) hx hb hts hfi hown hK hP 0 rfl rfl 4 (by decide) (hts (.fieldLink RX0 75 "PortRules" "portCount" "I") (by decide +kernel)) (fun _ h9 => h9) rfl dX0_isPort_7 ?_
    refine bi_gt (a := x.toInt) (b := (((xnq V) : Nat) : Int)) (tgt := 17) hx hb dX0_isPort_10 (by decide) rfl (nI_toInt (by omega)) (fun c10 => ?_) (fun c10 => ?_)
    · refine lv_iconst (v := 0) hx hb dX0_isPort_17 (by decide) ?_
      exact rd_zret hx hb hr rfl (z1_f (inB_hi c10)) dX0_isPort_18 hlocks
    · refine lv_iconst (v := 1) hx hb dX0_isPort_13 (by decide) ?_
      refine lv_goto (tgt := 18) hx hb dX0_isPort_14 (by decide) ?_
      exact rd_zret hx hb hr rfl (z1_t (inB_t c2 c10)) dX0_isPort_18 hlocks
set_option maxHeartbeats 4000000 in
set_option maxRecDepth 100000 in
theorem cx_isScaling (l : Launch) (x : Int64)  : Met l yX0_isScaling wsX0_isScaling { frames := 0, cells := 0, slots := 0, locals := 0 } (fun v _ => v = ([.long x] : List Value).toArray) (k2_QcV (.int (z1 (inL x 1 1000)))) 0 0 (fun _ => False) := by
  refine Met.ofW (cc := cX0_isScaling) (maxL := 2) (ret := some .boolean) (by decide) rfl ?_
  intro p e s m args below meth c s₁ B hml hv
  obtain rfl := hv
  have hx := B.exec
  have hb := B.bytes
  have hr := B.returns
  have hts := atoms_spec (ws := wsX0_isScaling) B.pre
  have hown : s.vm.findClass RX0 = some m.cls := findClass_of_methodNamed B.named
  have hlocks := B.notSynchronized
  have hl := lv_entry ([.long x]) (n := 2) (Nat.le_of_ble_eq_true rfl)
  rw [lg_entry_eq]
  generalize (lg_sl ([.long x]) ++ List.replicate (2 - (lg_sl ([.long x])).length) Slot.unset).toArray = ls at hl ⊢
  have hl : lv_has ls 2 [(0, .long x)] := hl
  refine lv_lload_n hx hb dX0_isScaling_0 rfl (lv_at hl 0 rfl) ?_
  refine lv_lconst (v := 1) hx hb dX0_isScaling_1 (by decide) ?_
  refine bl_lt (tgt := 18) (a := x.toInt) (b := 1) hx hb dX0_isScaling_2 dX0_isScaling_3 (by decide) rfl (by decide) (fun c3 => ?_) (fun c3 => ?_)
  · refine lv_iconst (v := 0) hx hb dX0_isScaling_18 (by decide) ?_
    exact rd_zret hx hb hr rfl (z1_f (inL_lo c3)) dX0_isScaling_19 hlocks
  · refine lv_lload_n hx hb dX0_isScaling_6 rfl (lv_at hl 0 rfl) ?_
    refine lv_ldc2 (v := 1000) hx hb hown (hts (.constantLong RX0 144 1000) (by decide +kernel)) dX0_isScaling_7 ?_
    refine bl_gt (tgt := 18) (a := x.toInt) (b := 1000) hx hb dX0_isScaling_10 dX0_isScaling_11 (by decide) rfl (by decide) (fun c11 => ?_) (fun c11 => ?_)
    · refine lv_iconst (v := 0) hx hb dX0_isScaling_18 (by decide) ?_
      exact rd_zret hx hb hr rfl (z1_f (inL_hi c11)) dX0_isScaling_19 hlocks
    · refine lv_iconst (v := 1) hx hb dX0_isScaling_14 (by decide) ?_
      refine lv_goto (tgt := 19) hx hb dX0_isScaling_15 (by decide) ?_
      exact rd_zret hx hb hr rfl (z1_t (inL_t c3 c11)) dX0_isScaling_19 hlocks
set_option maxHeartbeats 4000000 in
set_option maxRecDepth 100000 in
theorem cx_bit (l : Launch) (p0 : Nat)  : Met l yX0_bit wsX0_bit { frames := 0, cells := 0, slots := 0, locals := 0 } (fun v _ => v = ([.int (nI p0)] : List Value).toArray) (k2_QcV (.long (lbit p0))) 0 0 (fun _ => False) := by
  refine Met.ofW (cc := cX0_bit) (maxL := 1) (ret := some .long) (by decide) rfl ?_
  intro p e s m args below meth c s₁ B hml hv
  obtain rfl := hv
  have hx := B.exec
  have hb := B.bytes
  have hr := B.returns
  have hts := atoms_spec (ws := wsX0_bit) B.pre
  have hown : s.vm.findClass RX0 = some m.cls := findClass_of_methodNamed B.named
  have hlocks := B.notSynchronized
  have hl := lv_entry ([.int (nI p0)]) (n := 1) (Nat.le_of_ble_eq_true rfl)
  rw [lg_entry_eq]
  generalize (lg_sl ([.int (nI p0)]) ++ List.replicate (1 - (lg_sl ([.int (nI p0)])).length) Slot.unset).toArray = ls at hl ⊢
  have hl : lv_has ls 1 [(0, .int (nI p0))] := hl
  refine lv_lconst (v := 1) hx hb dX0_bit_0 (by decide) ?_
  refine lv_iload_n hx hb dX0_bit_1 rfl (lv_at hl 0 rfl) ?_
  refine lv_lshl (v := lbit p0) hx hb dX0_bit_2 (rfl) ?_
  exact rd_lret hx hb hr (rfl) dX0_bit_3 hlocks
set_option maxHeartbeats 4000000 in
set_option maxRecDepth 100000 in
theorem cx_holds (l : Launch) (x : Int64) (p0 : Nat) (hp : p0 < 64) : Met l yX0_holds wsX0_holds { frames := 1, cells := 0, slots := 0, locals := 20 } (fun v _ => v = ([.long x, .int (nI p0)] : List Value).toArray) (k2_QcV (.int (z1 (lb x p0)))) 0 0 (fun _ => False) := by
  refine Met.ofW (cc := cX0_holds) (maxL := 3) (ret := some .boolean) (by decide) rfl ?_
  intro p e s m args below meth c s₁ B hml hv
  obtain rfl := hv
  have hx := B.exec
  have hb := B.bytes
  have hr := B.returns
  have hts := atoms_spec (ws := wsX0_holds) B.pre
  have hown : s.vm.findClass RX0 = some m.cls := findClass_of_methodNamed B.named
  have hlocks := B.notSynchronized
  have hl := lv_entry ([.long x, .int (nI p0)]) (n := 3) (Nat.le_of_ble_eq_true rfl)
  rw [lg_entry_eq]
  generalize (lg_sl ([.long x, .int (nI p0)]) ++ List.replicate (3 - (lg_sl ([.long x, .int (nI p0)])).length) Slot.unset).toArray = ls at hl ⊢
  have hl : lv_has ls 3 [(0, .long x), (2, .int (nI p0))] := hl
  refine lv_lload_n hx hb dX0_holds_0 rfl (lv_at hl 0 rfl) ?_
  refine lv_iload_n hx hb dX0_holds_1 rfl (lv_at hl 1 rfl) ?_
  refine rd_callS (As := [.int (nI p0)]) (rest := [.long x]) ⟨hx, hb, hml, hown, hts⟩ (cx_bit l p0) (va_cwS 1 hts gX0_holds_X0_bit rfl rfl rfl (by decide +kernel) ⟨Nat.le_of_ble_eq_true rfl, Nat.le_of_ble_eq_true rfl⟩) rfl hl.1 rfl (Nat.le_of_ble_eq_true rfl) dX0_holds_2 ⟨Nat.zero_le _, Nat.zero_le _⟩ ?_
  refine lv_land hx hb dX0_holds_5 ?_
  refine lv_lconst (v := 0) hx hb dX0_holds_6 (by decide) ?_
  refine bl_eq (tgt := 15) hx hb dX0_holds_7 dX0_holds_8 (by decide) (fun c8 => ?_) (fun c8 => ?_)
  · refine lv_iconst (v := 0) hx hb dX0_holds_15 (by decide) ?_
    exact rd_zret hx hb hr rfl (z1_f ((lb_hold x hp).mp c8)) dX0_holds_16 hlocks
  · refine lv_iconst (v := 1) hx hb dX0_holds_11 (by decide) ?_
    refine lv_goto (tgt := 16) hx hb dX0_holds_12 (by decide) ?_
    exact rd_zret hx hb hr rfl (z1_t ((lb_holdn x hp).mp c8)) dX0_holds_16 hlocks
set_option maxHeartbeats 4000000 in
set_option maxRecDepth 100000 in
theorem cx_flatFrom (l : Launch) (G : va_G) (cA : Nat → ClassId) (a : Nat → Nat) (V : XV) (p0 : Nat) (hp : p0 ≤ 60) : Met l yX0_flatFrom wsX0_flatFrom { frames := 2, cells := 0, slots := 0, locals := 42 } (rd_Pc G vwC2 (tT cA) (xW cA a V) [.ref (a 0), .int (nI p0)]) (k2_QcV (.long (xFl V p0))) 0 0 (fun _ => False) := by
  refine Met.ofW (cc := cX0_flatFrom) (maxL := 2) (ret := some .long) (by decide) rfl ?_
  intro p e s m args below meth c s₁ B hml hv
  obtain ⟨rfl, hP, hK⟩ := hv
  have hx := B.exec
  have hb := B.bytes
  have hr := B.returns
  have hts := atoms_spec (ws := wsX0_flatFrom) B.pre
  have hown : s.vm.findClass RX0 = some m.cls := findClass_of_methodNamed B.named
  have hlocks := B.notSynchronized
  have hfi : ∀ w ∈ u_ws RX0 TX0 19, w ∈ wsX0_flatFrom := by decide +kernel
  have hl := lv_entry ([.ref (a 0), .int (nI p0)]) (n := 2) (Nat.le_of_ble_eq_true rfl)
  rw [lg_entry_eq]
  generalize (lg_sl ([.ref (a 0), .int (nI p0)]) ++ List.replicate (2 - (lg_sl ([.ref (a 0), .int (nI p0)])).length) Slot.unset).toArray = ls at hl ⊢
  have hl : lv_has ls 2 [(0, .ref (a 0)), (1, .int (nI p0))] := hl
  refine lv_aload_n hx hb dX0_flatFrom_0 rfl (lv_at hl 0 rfl) ?_
  refine va_get (D := G) (ci := 0) (v := .long (xap V)) (C := RX0) (T := TX0) (N := 19) hx hb hts hfi hown hK hP 0 rfl rfl 17 (by decide) (hts (.fieldLink RX0 146 "PortRules" "atomicProvided" "J") (by decide +kernel)) (fun _ h9 => h9) rfl dX0_flatFrom_1 ?_
  refine lv_iload_n hx hb dX0_flatFrom_4 rfl (lv_at hl 1 rfl) ?_
  refine rd_callS (As := [.long (xap V), .int (nI p0)]) (rest := []) ⟨hx, hb, hml, hown, hts⟩ (cx_holds l (xap V) p0 (by omega)) (va_cwS 2 hts gX0_flatFrom_X0_holds rfl rfl rfl (by decide +kernel) ⟨Nat.le_of_ble_eq_true rfl, Nat.le_of_ble_eq_true rfl⟩) rfl hl.1 rfl (Nat.le_of_ble_eq_true rfl) dX0_flatFrom_5 ⟨Nat.zero_le _, Nat.zero_le _⟩ ?_
  refine bb_eq (tgt := 25) hx hb dX0_flatFrom_8 (by decide) (fun c8 => ?_) (fun c8 => ?_)
  · refine lv_lconst (v := 0) hx hb dX0_flatFrom_25 (by decide) ?_
    exact rd_lret hx hb hr ((xFl_f c8).symm) dX0_flatFrom_26 hlocks
  · refine lv_aload_n hx hb dX0_flatFrom_11 rfl (lv_at hl 0 rfl) ?_
    refine va_get (D := G) (ci := 0) (v := .ref (a 16)) (C := RX0) (T := TX0) (N := 19) hx hb hts hfi hown hK hP 0 rfl rfl 16 (by decide) (hts (.fieldLink RX0 54 "PortRules" "reachedFrom" "[J") (by decide +kernel)) (fun _ h9 => h9) rfl dX0_flatFrom_12 ?_
    refine lv_iload_n hx hb dX0_flatFrom_15 rfl (lv_at hl 1 rfl) ?_
    refine rd_lald hx hb hK hP 15 2 rfl rfl (by omega) (by decide) dX0_flatFrom_16 ?_
    refine lv_aload_n hx hb dX0_flatFrom_17 rfl (lv_at hl 0 rfl) ?_
    refine va_get (D := G) (ci := 0) (v := .long (xar V)) (C := RX0) (T := TX0) (N := 19) hx hb hts hfi hown hK hP 0 rfl rfl 18 (by decide) (hts (.fieldLink RX0 134 "PortRules" "atomicRequired" "J") (by decide +kernel)) (fun _ h9 => h9) rfl dX0_flatFrom_18 ?_
    refine lv_land hx hb dX0_flatFrom_21 ?_
    refine lv_goto (tgt := 26) hx hb dX0_flatFrom_22 (by decide) ?_
    exact rd_lret hx hb hr ((xFl_t c8).symm) dX0_flatFrom_26 hlocks
set_option maxHeartbeats 4000000 in
set_option maxRecDepth 100000 in
theorem cx_nthPort (l : Launch) (G : va_G) (cA : Nat → ClassId) (a : Nat → Nat) (V : XV) (x : Int64) (t : Nat) (h60 : xnq V ≤ 60) (ht : t < 2 ^ 31) : Met l yX0_nthPort wsX0_nthPort { frames := 2, cells := 0, slots := 0, locals := 42 } (rd_Pc G vwC2 (tT cA) (xW cA a V) [.ref (a 0), .long x, .int (nI t)]) (k2_QcV (.int (nI (pu_nth (lb x) (xnq V) 1 t)))) 0 0 (fun _ => False) := by
  refine Met.ofW (cc := cX0_nthPort) (maxL := 6) (ret := some .int) (by decide) rfl ?_
  intro p e s m args below meth c s₁ B hml hv
  obtain ⟨rfl, hP, hK⟩ := hv
  have hx := B.exec
  have hb := B.bytes
  have hr := B.returns
  have hts := atoms_spec (ws := wsX0_nthPort) B.pre
  have hown : s.vm.findClass RX0 = some m.cls := findClass_of_methodNamed B.named
  have hlocks := B.notSynchronized
  have hfi : ∀ w ∈ u_ws RX0 TX0 19, w ∈ wsX0_nthPort := by decide +kernel
  have hl := lv_entry ([.ref (a 0), .long x, .int (nI t)]) (n := 6) (Nat.le_of_ble_eq_true rfl)
  rw [lg_entry_eq]
  generalize (lg_sl ([.ref (a 0), .long x, .int (nI t)]) ++ List.replicate (6 - (lg_sl ([.ref (a 0), .long x, .int (nI t)])).length) Slot.unset).toArray = ls at hl ⊢
  have hl : lv_has ls 6 [(0, .ref (a 0)), (1, .long x), (3, .int (nI t))] := hl
  refine lv_iload_n hx hb dX0_nthPort_0 rfl (lv_at hl 2 rfl) ?_
  refine lv_istore (lv' := [(4, .int (nI t)), (0, .ref (a 0)), (1, .long x), (3, .int (nI t))]) hx hb dX0_nthPort_1 hl (by decide) rfl (fun ls hl => ?_)
  refine lv_iconst (v := nI 1) hx hb dX0_nthPort_3 (by decide) ?_
  refine lv_istore (lv' := [(5, .int (nI 1)), (4, .int (nI t)), (0, .ref (a 0)), (1, .long x), (3, .int (nI t))]) hx hb dX0_nthPort_4 hl (by decide) rfl (fun ls hl => ?_)
  refine rd_loop (fun k ls => ∃ i u : Nat, 1 ≤ i ∧ i + k = xnq V + 1 ∧ u < 2 ^ 31 ∧ pu_nth (lb x) k i u = pu_nth (lb x) (xnq V) 1 t ∧ lv_has ls 6 [(5, .int (nI i)), (4, .int (nI u)), (0, .ref (a 0)), (1, .long x), (3, .int (nI t))]) ?_ (xnq V) ls ⟨1, t, by omega, by omega, ht, rfl, (lv_sub hl [0, 1, 2, 3, 4] rfl)⟩
  intro k ls ⟨i, u, hi, hk, hu, hR, hl⟩ ih
  refine lv_iload hx hb dX0_nthPort_6 (lv_at hl 0 rfl) ?_
  refine lv_aload_n hx hb dX0_nthPort_8 rfl (lv_at hl 2 rfl) ?_
  refine va_get (D := G) (ci := 0) (v := .int (nI (xnq V))) (C := RX0) (T := TX0) (N := 19) hx hb hts hfi hown hK hP 0 rfl rfl 4 (by decide) (hts (.fieldLink RX0 75 "PortRules" "portCount" "I") (by decide +kernel)) (fun _ h9 => h9) rfl dX0_nthPort_9 ?_
  refine nb_gt (tgt := 41) hx hb dX0_nthPort_12 (by decide) (by omega) (by omega) (fun c12 => ?_) (fun c12 => ?_)
  · refine lv_iconst (v := nI 0) hx hb dX0_nthPort_41 (by decide) ?_
    exact rd_iret hx hb hr (by rw [← hR, show k = 0 by omega]; rfl) dX0_nthPort_42 hlocks
  · obtain ⟨k, rfl⟩ : ∃ z, k = z + 1 := ⟨k - 1, by omega⟩
    refine lv_lload_n hx hb dX0_nthPort_15 rfl (lv_at hl 3 rfl) ?_
    refine lv_iload hx hb dX0_nthPort_16 (lv_at hl 0 rfl) ?_
    refine rd_callS (As := [.long x, .int (nI i)]) (rest := []) ⟨hx, hb, hml, hown, hts⟩ (cx_holds l x i (by omega)) (va_cwS 2 hts gX0_nthPort_X0_holds rfl rfl rfl (by decide +kernel) ⟨Nat.le_of_ble_eq_true rfl, Nat.le_of_ble_eq_true rfl⟩) rfl hl.1 rfl (Nat.le_of_ble_eq_true rfl) dX0_nthPort_18 ⟨Nat.zero_le _, Nat.zero_le _⟩ ?_
    refine bb_eq (tgt := 35) hx hb dX0_nthPort_21 (by decide) (fun c21 => ?_) (fun c21 => ?_)
    · refine lv_iinc (v := nI (i + 1)) (lv' := [(5, .int (nI (i + 1))), (4, .int (nI u)), (0, .ref (a 0)), (1, .long x), (3, .int (nI t))]) hx hb dX0_nthPort_35 hl (k := 0) rfl (ni_inc _) (by decide) rfl (fun ls hl => ?_)
      refine lv_goto (tgt := 6) hx hb dX0_nthPort_38 (by decide) ?_
      exact ih k ls (by omega) ⟨i + 1, u, by omega, by omega, by omega, (pu_nth_f c21).symm.trans hR, (lv_sub hl [0, 1, 2, 3, 4] rfl)⟩
    · refine lv_iload hx hb dX0_nthPort_24 (lv_at hl 1 rfl) ?_
      refine bn_ne (tgt := 32) hx hb dX0_nthPort_26 (by decide) (by omega) (fun c26 => ?_) (fun c26 => ?_)
      · refine lv_iinc (v := nI (u - 1)) (lv' := [(4, .int (nI (u - 1))), (5, .int (nI i)), (0, .ref (a 0)), (1, .long x), (3, .int (nI t))]) hx hb dX0_nthPort_32 hl (k := 1) rfl (ni_dec (by omega)) (by decide) rfl (fun ls hl => ?_)
        refine lv_iinc (v := nI (i + 1)) (lv' := [(5, .int (nI (i + 1))), (4, .int (nI (u - 1))), (0, .ref (a 0)), (1, .long x), (3, .int (nI t))]) hx hb dX0_nthPort_35 hl (k := 1) rfl (ni_inc _) (by decide) rfl (fun ls hl => ?_)
        refine lv_goto (tgt := 6) hx hb dX0_nthPort_38 (by decide) ?_
        exact ih k ls (by omega) ⟨i + 1, (u - 1), by omega, by omega, by omega, (pu_nth_n c21 (by omega)).symm.trans hR, (lv_sub hl [0, 1, 2, 3, 4] rfl)⟩
      · refine lv_iload hx hb dX0_nthPort_29 (lv_at hl 0 rfl) ?_
        exact rd_iret hx hb hr (by rw [← hR, pu_nth_t c21 c26]) dX0_nthPort_31 hlocks
set_option maxHeartbeats 4000000 in
set_option maxRecDepth 100000 in
theorem cx_isWay (l : Launch) (G : va_G) (cA : Nat → ClassId) (a : Nat → Nat) (V : XV) (p0 q0 u v : Nat) (hp : p0 ≤ 60) (hq : q0 ≤ 60) (hu : u ≤ 30) (hv : v ≤ 30) (eu : xf V 5 p0 = nI u) (ev : xf V 5 q0 = nI v) : Met l yX0_isWay wsX0_isWay { frames := 0, cells := 0, slots := 0, locals := 0 } (rd_Pc G vwC2 (tT cA) (xW cA a V) [.ref (a 0), .int (nI p0), .int (nI q0)]) (k2_QcV (.int (z1 (xWay V p0 q0 u v)))) 0 0 (fun _ => False) := by
  refine Met.ofW (cc := cX0_isWay) (maxL := 5) (ret := some .boolean) (by decide) rfl ?_
  intro p e s m args below meth c s₁ B hml hv
  obtain ⟨rfl, hP, hK⟩ := hv
  have hx := B.exec
  have hb := B.bytes
  have hr := B.returns
  have hts := atoms_spec (ws := wsX0_isWay) B.pre
  have hown : s.vm.findClass RX0 = some m.cls := findClass_of_methodNamed B.named
  have hlocks := B.notSynchronized
  have hfi : ∀ w ∈ u_ws RX0 TX0 19, w ∈ wsX0_isWay := by decide +kernel
  have hl := lv_entry ([.ref (a 0), .int (nI p0), .int (nI q0)]) (n := 5) (Nat.le_of_ble_eq_true rfl)
  rw [lg_entry_eq]
  generalize (lg_sl ([.ref (a 0), .int (nI p0), .int (nI q0)]) ++ List.replicate (5 - (lg_sl ([.ref (a 0), .int (nI p0), .int (nI q0)])).length) Slot.unset).toArray = ls at hl ⊢
  have hl : lv_has ls 5 [(0, .ref (a 0)), (1, .int (nI p0)), (2, .int (nI q0))] := hl
  refine lv_aload_n hx hb dX0_isWay_0 rfl (lv_at hl 0 rfl) ?_
  refine va_get (D := G) (ci := 0) (v := .ref (a 5)) (C := RX0) (T := TX0) (N := 19) hx hb hts hfi hown hK hP 0 rfl rfl 5 (by decide) (hts (.fieldLink RX0 20 "PortRules" "partOf" "[I") (by decide +kernel)) (fun _ h9 => h9) rfl dX0_isWay_1 ?_
  refine lv_iload_n hx hb dX0_isWay_4 rfl (lv_at hl 1 rfl) ?_
  refine rd_iald hx hb hK hP 4 0 rfl rfl (by omega) (by decide) dX0_isWay_5 ?_
  refine rd_topi (y := nI u) (eu) ?_
  refine lv_istore_n (lv' := [(3, .int (nI u)), (0, .ref (a 0)), (1, .int (nI p0)), (2, .int (nI q0))]) hx hb dX0_isWay_6 rfl hl (by decide) rfl (fun ls hl => ?_)
  refine lv_aload_n hx hb dX0_isWay_7 rfl (lv_at hl 1 rfl) ?_
  refine va_get (D := G) (ci := 0) (v := .ref (a 5)) (C := RX0) (T := TX0) (N := 19) hx hb hts hfi hown hK hP 0 rfl rfl 5 (by decide) (hts (.fieldLink RX0 20 "PortRules" "partOf" "[I") (by decide +kernel)) (fun _ h9 => h9) rfl dX0_isWay_8 ?_
  refine lv_iload_n hx hb dX0_isWay_11 rfl (lv_at hl 3 rfl) ?_
  refine rd_iald hx hb hK hP 4 0 rfl rfl (by omega) (by decide) dX0_isWay_12 ?_
  refine rd_topi (y := nI v) (ev) ?_
  refine lv_istore (lv' := [(4, .int (nI v)), (3, .int (nI u)), (0, .ref (a 0)), (1, .int (nI p0)), (2, .int (nI q0))]) hx hb dX0_isWay_13 hl (by decide) rfl (fun ls hl => ?_)
  refine lv_aload_n hx hb dX0_isWay_15 rfl (lv_at hl 2 rfl) ?_
  refine va_get (D := G) (ci := 0) (v := .ref (a 7)) (C := RX0) (T := TX0) (N := 19) hx hb hts hfi hown hK hP 0 rfl rfl 7 (by decide) (hts (.fieldLink RX0 26 "PortRules" "isProvided" "[Z") (by decide +kernel)) (fun _ h9 => h9) rfl dX0_isWay_16 ?_
  refine lv_iload_n hx hb dX0_isWay_19 rfl (lv_at hl 3 rfl) ?_
  refine rd_zald hx hb hK hP 6 1 rfl rfl (by omega) (by decide) dX0_isWay_20 ?_
  refine lv_if_ne (tgt := 50) hx hb dX0_isWay_21 (by decide) (fun c21 => ?_) (fun c21 => ?_)
  · refine lv_aload_n hx hb dX0_isWay_50 rfl (lv_at hl 2 rfl) ?_
    refine va_get (D := G) (ci := 0) (v := .ref (a 7)) (C := RX0) (T := TX0) (N := 19) hx hb hts hfi hown hK hP 0 rfl rfl 7 (by decide) (hts (.fieldLink RX0 26 "PortRules" "isProvided" "[Z") (by decide +kernel)) (fun _ h9 => h9) rfl dX0_isWay_51 ?_
    refine lv_iload_n hx hb dX0_isWay_54 rfl (lv_at hl 4 rfl) ?_
    refine rd_zald hx hb hK hP 6 1 rfl rfl (by omega) (by decide) dX0_isWay_55 ?_
    refine lv_if_eq (tgt := 76) hx hb dX0_isWay_56 (by decide) (fun c56 => ?_) (fun c56 => ?_)
    · refine lv_iload_n hx hb dX0_isWay_76 rfl (lv_at hl 1 rfl) ?_
      refine lv_iload hx hb dX0_isWay_77 (lv_at hl 0 rfl) ?_
      refine lv_icmp_eq (tgt := 102) hx hb dX0_isWay_79 (by decide) (fun c79 => ?_) (fun c79 => ?_)
      · refine lv_iconst (v := 0) hx hb dX0_isWay_102 (by decide) ?_
        exact rd_zret hx hb hr rfl (z1_f (by unfold xWay; simp [c21, c56, c79])) dX0_isWay_103 hlocks
      · refine lv_aload_n hx hb dX0_isWay_82 rfl (lv_at hl 2 rfl) ?_
        refine va_get (D := G) (ci := 0) (v := .ref (a 1)) (C := RX0) (T := TX0) (N := 19) hx hb hts hfi hown hK hP 0 rfl rfl 1 (by decide) (hts (.fieldLink RX0 9 "PortRules" "compositionOf" "[I") (by decide +kernel)) (fun _ h9 => h9) rfl dX0_isWay_83 ?_
        refine lv_iload_n hx hb dX0_isWay_86 rfl (lv_at hl 1 rfl) ?_
        refine rd_iald hx hb hK hP 1 0 rfl rfl (by omega) (by decide) dX0_isWay_87 ?_
        refine lv_aload_n hx hb dX0_isWay_88 rfl (lv_at hl 2 rfl) ?_
        refine va_get (D := G) (ci := 0) (v := .ref (a 1)) (C := RX0) (T := TX0) (N := 19) hx hb hts hfi hown hK hP 0 rfl rfl 1 (by decide) (hts (.fieldLink RX0 9 "PortRules" "compositionOf" "[I") (by decide +kernel)) (fun _ h9 => h9) rfl dX0_isWay_89 ?_
        refine lv_iload hx hb dX0_isWay_92 (lv_at hl 0 rfl) ?_
        refine rd_iald hx hb hK hP 1 0 rfl rfl (by omega) (by decide) dX0_isWay_94 ?_
        refine lv_icmp_ne (tgt := 102) hx hb dX0_isWay_95 (by decide) (fun c95 => ?_) (fun c95 => ?_)
        · refine lv_iconst (v := 0) hx hb dX0_isWay_102 (by decide) ?_
          exact rd_zret hx hb hr rfl (z1_f (by unfold xWay; simp [c21, c56, c79, c95])) dX0_isWay_103 hlocks
        · refine lv_iconst (v := 1) hx hb dX0_isWay_98 (by decide) ?_
          refine lv_goto (tgt := 103) hx hb dX0_isWay_99 (by decide) ?_
          exact rd_zret hx hb hr rfl (z1_t (by unfold xWay; simp [c21, c56, c79, c95])) dX0_isWay_103 hlocks
    · refine lv_aload_n hx hb dX0_isWay_59 rfl (lv_at hl 2 rfl) ?_
      refine va_get (D := G) (ci := 0) (v := .ref (a 1)) (C := RX0) (T := TX0) (N := 19) hx hb hts hfi hown hK hP 0 rfl rfl 1 (by decide) (hts (.fieldLink RX0 9 "PortRules" "compositionOf" "[I") (by decide +kernel)) (fun _ h9 => h9) rfl dX0_isWay_60 ?_
      refine lv_iload_n hx hb dX0_isWay_63 rfl (lv_at hl 1 rfl) ?_
      refine rd_iald hx hb hK hP 1 0 rfl rfl (by omega) (by decide) dX0_isWay_64 ?_
      refine lv_iload hx hb dX0_isWay_65 (lv_at hl 0 rfl) ?_
      refine lv_icmp_ne (tgt := 74) hx hb dX0_isWay_67 (by decide) (fun c67 => ?_) (fun c67 => ?_)
      · refine lv_iconst (v := 0) hx hb dX0_isWay_74 (by decide) ?_
        exact rd_zret hx hb hr rfl (z1_f (by unfold xWay; simp [c21, c56, c67])) dX0_isWay_75 hlocks
      · refine lv_iconst (v := 1) hx hb dX0_isWay_70 (by decide) ?_
        refine lv_goto (tgt := 75) hx hb dX0_isWay_71 (by decide) ?_
        exact rd_zret hx hb hr rfl (z1_t (by unfold xWay; simp [c21, c56, c67])) dX0_isWay_75 hlocks
  · refine lv_aload_n hx hb dX0_isWay_24 rfl (lv_at hl 2 rfl) ?_
    refine va_get (D := G) (ci := 0) (v := .ref (a 7)) (C := RX0) (T := TX0) (N := 19) hx hb hts hfi hown hK hP 0 rfl rfl 7 (by decide) (hts (.fieldLink RX0 26 "PortRules" "isProvided" "[Z") (by decide +kernel)) (fun _ h9 => h9) rfl dX0_isWay_25 ?_
    refine lv_iload_n hx hb dX0_isWay_28 rfl (lv_at hl 4 rfl) ?_
    refine rd_zald hx hb hK hP 6 1 rfl rfl (by omega) (by decide) dX0_isWay_29 ?_
    refine lv_if_ne (tgt := 48) hx hb dX0_isWay_30 (by decide) (fun c30 => ?_) (fun c30 => ?_)
    · refine lv_iconst (v := 0) hx hb dX0_isWay_48 (by decide) ?_
      exact rd_zret hx hb hr rfl (z1_f (by unfold xWay; simp [c21, c30])) dX0_isWay_49 hlocks
    · refine lv_aload_n hx hb dX0_isWay_33 rfl (lv_at hl 2 rfl) ?_
      refine va_get (D := G) (ci := 0) (v := .ref (a 1)) (C := RX0) (T := TX0) (N := 19) hx hb hts hfi hown hK hP 0 rfl rfl 1 (by decide) (hts (.fieldLink RX0 9 "PortRules" "compositionOf" "[I") (by decide +kernel)) (fun _ h9 => h9) rfl dX0_isWay_34 ?_
      refine lv_iload hx hb dX0_isWay_37 (lv_at hl 0 rfl) ?_
      refine rd_iald hx hb hK hP 1 0 rfl rfl (by omega) (by decide) dX0_isWay_39 ?_
      refine lv_iload_n hx hb dX0_isWay_40 rfl (lv_at hl 1 rfl) ?_
      refine lv_icmp_ne (tgt := 48) hx hb dX0_isWay_41 (by decide) (fun c41 => ?_) (fun c41 => ?_)
      · refine lv_iconst (v := 0) hx hb dX0_isWay_48 (by decide) ?_
        exact rd_zret hx hb hr rfl (z1_f (by unfold xWay; simp [c21, c30, c41])) dX0_isWay_49 hlocks
      · refine lv_iconst (v := 1) hx hb dX0_isWay_44 (by decide) ?_
        refine lv_goto (tgt := 49) hx hb dX0_isWay_45 (by decide) ?_
        exact rd_zret hx hb hr rfl (z1_t (by unfold xWay; simp [c21, c30, c41])) dX0_isWay_49 hlocks
set_option maxHeartbeats 4000000 in
set_option maxRecDepth 100000 in
theorem cx_flatSeconds (l : Launch) (G : va_G) (cA : Nat → ClassId) (a : Nat → Nat) (V : XV)  (h60 : xnq V ≤ 60) : Met l yX0_flatSeconds wsX0_flatSeconds { frames := 3, cells := 0, slots := 0, locals := 63 } (rd_Pc G vwC2 (tT cA) (xW cA a V) [.ref (a 0)]) (k2_QcV (.long (xSec V))) 0 0 (fun _ => False) := by
  refine Met.ofW (cc := cX0_flatSeconds) (maxL := 4) (ret := some .long) (by decide) rfl ?_
  intro p e s m args below meth c s₁ B hml hv
  obtain ⟨rfl, hP, hK⟩ := hv
  have hx := B.exec
  have hb := B.bytes
  have hr := B.returns
  have hts := atoms_spec (ws := wsX0_flatSeconds) B.pre
  have hown : s.vm.findClass RX0 = some m.cls := findClass_of_methodNamed B.named
  have hlocks := B.notSynchronized
  have hfi : ∀ w ∈ u_ws RX0 TX0 19, w ∈ wsX0_flatSeconds := by decide +kernel
  have hl := lv_entry ([.ref (a 0)]) (n := 4) (Nat.le_of_ble_eq_true rfl)
  rw [lg_entry_eq]
  generalize (lg_sl ([.ref (a 0)]) ++ List.replicate (4 - (lg_sl ([.ref (a 0)])).length) Slot.unset).toArray = ls at hl ⊢
  have hl : lv_has ls 4 [(0, .ref (a 0))] := hl
  refine lv_lconst (v := 0) hx hb dX0_flatSeconds_0 (by decide) ?_
  refine lv_lstore_n (lv' := [(1, .long 0), (0, .ref (a 0))]) hx hb dX0_flatSeconds_1 rfl hl (by decide) rfl (fun ls hl => ?_)
  refine lv_iconst (v := nI 1) hx hb dX0_flatSeconds_2 (by decide) ?_
  refine lv_istore_n (lv' := [(3, .int (nI 1)), (1, .long 0), (0, .ref (a 0))]) hx hb dX0_flatSeconds_3 rfl hl (by decide) rfl (fun ls hl => ?_)
  refine rd_loop (fun k ls => ∃ (i : Nat) (y : Int64), 1 ≤ i ∧ i + k = xnq V + 1 ∧ pu_or (xFl V) k i y = xSec V ∧ lv_has ls 4 [(3, .int (nI i)), (1, .long y), (0, .ref (a 0))]) ?_ (xnq V) ls ⟨1, 0, by omega, by omega, rfl, (lv_sub hl [0, 1, 2] rfl)⟩
  intro k4 ls ⟨i, y, hi, hk, hR, hl⟩ ih4
  refine lv_iload_n hx hb dX0_flatSeconds_4 rfl (lv_at hl 0 rfl) ?_
  refine lv_aload_n hx hb dX0_flatSeconds_5 rfl (lv_at hl 2 rfl) ?_
  refine va_get (D := G) (ci := 0) (v := .int (nI (xnq V))) (C := RX0) (T := TX0) (N := 19) hx hb hts hfi hown hK hP 0 rfl rfl 4 (by decide) (hts (.fieldLink RX0 75 "PortRules" "portCount" "I") (by decide +kernel)) (fun _ h9 => h9) rfl dX0_flatSeconds_6 ?_
  refine nb_gt (tgt := 26) hx hb dX0_flatSeconds_9 (by decide) (by omega) (by omega) (fun c9 => ?_) (fun c9 => ?_)
  · refine lv_lload_n hx hb dX0_flatSeconds_26 rfl (lv_at hl 1 rfl) ?_
    exact rd_lret hx hb hr (by rw [← hR, show k4 = 0 by omega]; rfl) dX0_flatSeconds_27 hlocks
  · obtain ⟨k4, rfl⟩ : ∃ z, k4 = z + 1 := ⟨k4 - 1, by omega⟩
    refine lv_lload_n hx hb dX0_flatSeconds_12 rfl (lv_at hl 1 rfl) ?_
    refine lv_aload_n hx hb dX0_flatSeconds_13 rfl (lv_at hl 2 rfl) ?_
    refine lv_iload_n hx hb dX0_flatSeconds_14 rfl (lv_at hl 0 rfl) ?_
    refine rd_callV (As := [.int (nI i)]) (rest := [.long y]) (b := a 0) (q0 := 0) (ci := 0) ⟨hx, hb, hml, hown, hts⟩ (cx_flatFrom l G cA a V i (by omega)) (cwV 1 hts gX0_flatSeconds_X0_flatFrom rfl rfl rfl (by decide +kernel) ⟨Nat.le_of_ble_eq_true rfl, Nat.le_of_ble_eq_true rfl⟩) hK hP rfl rfl rfl rfl hl.1 rfl (Nat.le_of_ble_eq_true rfl) dX0_flatSeconds_15 ⟨Nat.zero_le _, Nat.zero_le _⟩ ?_
    refine lv_lor hx hb dX0_flatSeconds_18 ?_
    refine lv_lstore_n (lv' := [(1, .long (y ||| (xFl V i))), (3, .int (nI i)), (0, .ref (a 0))]) hx hb dX0_flatSeconds_19 rfl hl (by decide) rfl (fun ls hl => ?_)
    refine lv_iinc (v := nI (i + 1)) (lv' := [(3, .int (nI (i + 1))), (1, .long (y ||| (xFl V i))), (0, .ref (a 0))]) hx hb dX0_flatSeconds_20 hl (k := 1) rfl (ni_inc _) (by decide) rfl (fun ls hl => ?_)
    refine lv_goto (tgt := 4) hx hb dX0_flatSeconds_23 (by decide) ?_
    exact ih4 k4 ls (by omega) ⟨i + 1, y ||| xFl V i, by omega, by omega, hR, (lv_sub hl [0, 1, 2] rfl)⟩
set_option maxHeartbeats 4000000 in
set_option maxRecDepth 100000 in
theorem cx_flatCountTo (l : Launch) (G : va_G) (cA : Nat → ClassId) (a : Nat → Nat) (V : XV) (q0 : Nat) (h60 : xnq V ≤ 60) (hq : q0 ≤ 60) : Met l yX0_flatCountTo wsX0_flatCountTo { frames := 3, cells := 0, slots := 0, locals := 63 } (rd_Pc G vwC2 (tT cA) (xW cA a V) [.ref (a 0), .int (nI q0)]) (k2_QcV (.int (nI (xTo V q0)))) 0 0 (fun _ => False) := by
  refine Met.ofW (cc := cX0_flatCountTo) (maxL := 4) (ret := some .int) (by decide) rfl ?_
  intro p e s m args below meth c s₁ B hml hv
  obtain ⟨rfl, hP, hK⟩ := hv
  have hx := B.exec
  have hb := B.bytes
  have hr := B.returns
  have hts := atoms_spec (ws := wsX0_flatCountTo) B.pre
  have hown : s.vm.findClass RX0 = some m.cls := findClass_of_methodNamed B.named
  have hlocks := B.notSynchronized
  have hfi : ∀ w ∈ u_ws RX0 TX0 19, w ∈ wsX0_flatCountTo := by decide +kernel
  have hl := lv_entry ([.ref (a 0), .int (nI q0)]) (n := 4) (Nat.le_of_ble_eq_true rfl)
  rw [lg_entry_eq]
  generalize (lg_sl ([.ref (a 0), .int (nI q0)]) ++ List.replicate (4 - (lg_sl ([.ref (a 0), .int (nI q0)])).length) Slot.unset).toArray = ls at hl ⊢
  have hl : lv_has ls 4 [(0, .ref (a 0)), (1, .int (nI q0))] := hl
  refine lv_iconst (v := nI 0) hx hb dX0_flatCountTo_0 (by decide) ?_
  refine lv_istore_n (lv' := [(2, .int (nI 0)), (0, .ref (a 0)), (1, .int (nI q0))]) hx hb dX0_flatCountTo_1 rfl hl (by decide) rfl (fun ls hl => ?_)
  refine lv_iconst (v := nI 1) hx hb dX0_flatCountTo_2 (by decide) ?_
  refine lv_istore_n (lv' := [(3, .int (nI 1)), (2, .int (nI 0)), (0, .ref (a 0)), (1, .int (nI q0))]) hx hb dX0_flatCountTo_3 rfl hl (by decide) rfl (fun ls hl => ?_)
  refine rd_loop (fun k ls => ∃ i n : Nat, 1 ≤ i ∧ i + k = xnq V + 1 ∧ n + pu_cnt (fun p0 => xF V p0 q0) k i = xTo V q0 ∧ lv_has ls 4 [(3, .int (nI i)), (2, .int (nI n)), (0, .ref (a 0)), (1, .int (nI q0))]) ?_ (xnq V) ls ⟨1, 0, by omega, by omega, Nat.zero_add _, (lv_sub hl [0, 1, 2, 3] rfl)⟩
  intro k4 ls ⟨i, n, hi, hk, hR, hl⟩ ih4
  refine lv_iload_n hx hb dX0_flatCountTo_4 rfl (lv_at hl 0 rfl) ?_
  refine lv_aload_n hx hb dX0_flatCountTo_5 rfl (lv_at hl 2 rfl) ?_
  refine va_get (D := G) (ci := 0) (v := .int (nI (xnq V))) (C := RX0) (T := TX0) (N := 19) hx hb hts hfi hown hK hP 0 rfl rfl 4 (by decide) (hts (.fieldLink RX0 75 "PortRules" "portCount" "I") (by decide +kernel)) (fun _ h9 => h9) rfl dX0_flatCountTo_6 ?_
  refine nb_gt (tgt := 33) hx hb dX0_flatCountTo_9 (by decide) (by omega) (by omega) (fun c9 => ?_) (fun c9 => ?_)
  · refine lv_iload_n hx hb dX0_flatCountTo_33 rfl (lv_at hl 1 rfl) ?_
    exact rd_iret hx hb hr (by rw [← hR, show k4 = 0 by omega]; rfl) dX0_flatCountTo_34 hlocks
  · obtain ⟨k4, rfl⟩ : ∃ z, k4 = z + 1 := ⟨k4 - 1, by omega⟩
    refine lv_aload_n hx hb dX0_flatCountTo_12 rfl (lv_at hl 2 rfl) ?_
    refine lv_iload_n hx hb dX0_flatCountTo_13 rfl (lv_at hl 0 rfl) ?_
    refine rd_callV (As := [.int (nI i)]) (rest := []) (b := a 0) (q0 := 0) (ci := 0) ⟨hx, hb, hml, hown, hts⟩ (cx_flatFrom l G cA a V i (by omega)) (cwV 1 hts gX0_flatCountTo_X0_flatFrom rfl rfl rfl (by decide +kernel) ⟨Nat.le_of_ble_eq_true rfl, Nat.le_of_ble_eq_true rfl⟩) hK hP rfl rfl rfl rfl hl.1 rfl (Nat.le_of_ble_eq_true rfl) dX0_flatCountTo_14 ⟨Nat.zero_le _, Nat.zero_le _⟩ ?_
    refine lv_iload_n hx hb dX0_flatCountTo_17 rfl (lv_at hl 3 rfl) ?_
    refine rd_callS (As := [.long (xFl V i), .int (nI q0)]) (rest := []) ⟨hx, hb, hml, hown, hts⟩ (cx_holds l (xFl V i) q0 (by omega)) (va_cwS 2 hts gX0_flatCountTo_X0_holds rfl rfl rfl (by decide +kernel) ⟨Nat.le_of_ble_eq_true rfl, Nat.le_of_ble_eq_true rfl⟩) rfl hl.1 rfl (Nat.le_of_ble_eq_true rfl) dX0_flatCountTo_18 ⟨Nat.zero_le _, Nat.zero_le _⟩ ?_
    refine bb_eq (tgt := 27) hx hb dX0_flatCountTo_21 (by decide) (fun c21 => ?_) (fun c21 => ?_)
    · refine lv_iinc (v := nI (i + 1)) (lv' := [(3, .int (nI (i + 1))), (2, .int (nI n)), (0, .ref (a 0)), (1, .int (nI q0))]) hx hb dX0_flatCountTo_27 hl (k := 0) rfl (ni_inc _) (by decide) rfl (fun ls hl => ?_)
      refine lv_goto (tgt := 4) hx hb dX0_flatCountTo_30 (by decide) ?_
      exact ih4 k4 ls (by omega) ⟨i + 1, n, by omega, by omega, by have h := pu_cnt_f (k := k4) (P := fun p0 => xF V p0 q0) (i := i) c21; omega, (lv_sub hl [0, 1, 2, 3] rfl)⟩
    · refine lv_iinc (v := nI (n + 1)) (lv' := [(2, .int (nI (n + 1))), (3, .int (nI i)), (0, .ref (a 0)), (1, .int (nI q0))]) hx hb dX0_flatCountTo_24 hl (k := 1) rfl (ni_inc _) (by decide) rfl (fun ls hl => ?_)
      refine lv_iinc (v := nI (i + 1)) (lv' := [(3, .int (nI (i + 1))), (2, .int (nI (n + 1))), (0, .ref (a 0)), (1, .int (nI q0))]) hx hb dX0_flatCountTo_27 hl (k := 1) rfl (ni_inc _) (by decide) rfl (fun ls hl => ?_)
      refine lv_goto (tgt := 4) hx hb dX0_flatCountTo_30 (by decide) ?_
      exact ih4 k4 ls (by omega) ⟨i + 1, n + 1, by omega, by omega, by have h := pu_cnt_t (k := k4) (P := fun p0 => xF V p0 q0) (i := i) c21; omega, (lv_sub hl [0, 1, 2, 3] rfl)⟩
set_option maxHeartbeats 4000000 in
set_option maxRecDepth 100000 in
theorem cx_isPortRule (l : Launch) (r0 : Nat) (hr0 : r0 < 2 ^ 31) : Met l yX0_isPortRule wsX0_isPortRule { frames := 0, cells := 0, slots := 0, locals := 0 } (fun v _ => v = ([.int (nI r0)] : List Value).toArray) (k2_QcV (.int (z1 (decide (5 ≤ r0 ∧ r0 ≤ 8))))) 0 0 (fun _ => False) := by
  refine Met.ofW (cc := cX0_isPortRule) (maxL := 1) (ret := some .boolean) (by decide) rfl ?_
  intro p e s m args below meth c s₁ B hml hv
  obtain rfl := hv
  have hx := B.exec
  have hb := B.bytes
  have hr := B.returns
  have hts := atoms_spec (ws := wsX0_isPortRule) B.pre
  have hown : s.vm.findClass RX0 = some m.cls := findClass_of_methodNamed B.named
  have hlocks := B.notSynchronized
  have hl := lv_entry ([.int (nI r0)]) (n := 1) (Nat.le_of_ble_eq_true rfl)
  rw [lg_entry_eq]
  generalize (lg_sl ([.int (nI r0)]) ++ List.replicate (1 - (lg_sl ([.int (nI r0)])).length) Slot.unset).toArray = ls at hl ⊢
  have hl : lv_has ls 1 [(0, .int (nI r0))] := hl
  refine lv_iload_n hx hb dX0_isPortRule_0 rfl (lv_at hl 0 rfl) ?_
  refine lv_iconst (v := 5) hx hb dX0_isPortRule_1 (by decide) ?_
  refine bi_lt (a := ((r0 : Nat) : Int)) (b := 5) (tgt := 15) hx hb dX0_isPortRule_2 (by decide) (nI_toInt (by omega)) (by decide) (fun c2 => ?_) (fun c2 => ?_)
  · refine lv_iconst (v := 0) hx hb dX0_isPortRule_15 (by decide) ?_
    exact rd_zret hx hb hr rfl (z1_f (decide_eq_false (by omega))) dX0_isPortRule_16 hlocks
  · refine lv_iload_n hx hb dX0_isPortRule_5 rfl (lv_at hl 0 rfl) ?_
    refine lv_bipush (v := 8) hx hb dX0_isPortRule_6 (by decide) ?_
    refine bi_gt (a := ((r0 : Nat) : Int)) (b := 8) (tgt := 15) hx hb dX0_isPortRule_8 (by decide) (nI_toInt (by omega)) (by decide) (fun c8 => ?_) (fun c8 => ?_)
    · refine lv_iconst (v := 0) hx hb dX0_isPortRule_15 (by decide) ?_
      exact rd_zret hx hb hr rfl (z1_f (decide_eq_false (by omega))) dX0_isPortRule_16 hlocks
    · refine lv_iconst (v := 1) hx hb dX0_isPortRule_11 (by decide) ?_
      refine lv_goto (tgt := 16) hx hb dX0_isPortRule_12 (by decide) ?_
      exact rd_zret hx hb hr rfl (z1_t (decide_eq_true (by omega))) dX0_isPortRule_16 hlocks
set_option maxHeartbeats 4000000 in
set_option maxRecDepth 100000 in
theorem cx_portBreaks (l : Launch) (G : va_G) (cA : Nat → ClassId) (a : Nat → Nat) (V : XV) (r0 q0 : Nat) (h60 : xnq V ≤ 60) (hr0 : r0 ≤ 9) (hq : q0 ≤ 60) : Met l yX0_portBreaks wsX0_portBreaks { frames := 4, cells := 0, slots := 0, locals := 86 } (rd_Pc G vwC2 (tT cA) (xW cA a V) [.ref (a 0), .int (nI r0), .int (nI q0)]) (k2_QcV (.int (z1 (xPB V r0 q0)))) 0 0 (fun _ => False) := by
  refine Met.ofW (cc := cX0_portBreaks) (maxL := 4) (ret := some .boolean) (by decide) rfl ?_
  intro p e s m args below meth c s₁ B hml hv
  obtain ⟨rfl, hP, hK⟩ := hv
  have hx := B.exec
  have hb := B.bytes
  have hr := B.returns
  have hts := atoms_spec (ws := wsX0_portBreaks) B.pre
  have hown : s.vm.findClass RX0 = some m.cls := findClass_of_methodNamed B.named
  have hlocks := B.notSynchronized
  have hfi : ∀ w ∈ u_ws RX0 TX0 19, w ∈ wsX0_portBreaks := by decide +kernel
  have hl := lv_entry ([.ref (a 0), .int (nI r0), .int (nI q0)]) (n := 4) (Nat.le_of_ble_eq_true rfl)
  rw [lg_entry_eq]
  generalize (lg_sl ([.ref (a 0), .int (nI r0), .int (nI q0)]) ++ List.replicate (4 - (lg_sl ([.ref (a 0), .int (nI r0), .int (nI q0)])).length) Slot.unset).toArray = ls at hl ⊢
  have hl : lv_has ls 4 [(0, .ref (a 0)), (1, .int (nI r0)), (2, .int (nI q0))] := hl
  have hto := xTo_le V q0
  refine lv_aload_n hx hb dX0_portBreaks_0 rfl (lv_at hl 0 rfl) ?_
  refine va_get (D := G) (ci := 0) (v := .ref (a 6)) (C := RX0) (T := TX0) (N := 19) hx hb hts hfi hown hK hP 0 rfl rfl 6 (by decide) (hts (.fieldLink RX0 23 "PortRules" "kindOf" "[I") (by decide +kernel)) (fun _ h9 => h9) rfl dX0_portBreaks_1 ?_
  refine lv_iload_n hx hb dX0_portBreaks_4 rfl (lv_at hl 2 rfl) ?_
  refine rd_iald hx hb hK hP 5 0 rfl rfl (by omega) (by decide) dX0_portBreaks_5 ?_
  refine lv_iconst (v := 2) hx hb dX0_portBreaks_6 (by decide) ?_
  refine lv_icmp_ne (tgt := 14) hx hb dX0_portBreaks_7 (by decide) (fun c7 => ?_) (fun c7 => ?_)
  · refine lv_iconst (v := 0) hx hb dX0_portBreaks_14 (by decide) ?_
    refine lv_istore_n (lv' := [(3, .int 0), (0, .ref (a 0)), (1, .int (nI r0)), (2, .int (nI q0))]) hx hb dX0_portBreaks_15 rfl hl (by decide) rfl (fun ls hl => ?_)
    refine lv_iload_n hx hb dX0_portBreaks_16 rfl (lv_at hl 2 rfl) ?_
    by_cases r5 : r0 = 5
    · subst r5
      refine lv_tableIn (off := 27) (tgt := 44) hx hb dX0_portBreaks_17 (by decide) (by decide) (by decide) (by decide) ?_
      refine lv_iload_n hx hb dX0_portBreaks_44 rfl (lv_at hl 0 rfl) ?_
      refine lv_if_ne (tgt := 69) hx hb dX0_portBreaks_45 (by decide) (fun c45 => absurd c45 (by decide)) (fun _ => ?_)
      refine lv_aload_n hx hb dX0_portBreaks_48 rfl (lv_at hl 1 rfl) ?_
      refine va_get (D := G) (ci := 0) (v := .ref (a 12)) (C := RX0) (T := TX0) (N := 19) hx hb hts hfi hown hK hP 0 rfl rfl 12 (by decide) (hts (.fieldLink RX0 42 "PortRules" "hasFallback" "[Z") (by decide +kernel)) (fun _ h9 => h9) rfl dX0_portBreaks_49 ?_
      refine lv_iload_n hx hb dX0_portBreaks_52 rfl (lv_at hl 3 rfl) ?_
      refine rd_zald hx hb hK hP 11 1 rfl rfl (by omega) (by decide) dX0_portBreaks_53 ?_
      refine lv_if_ne (tgt := 69) hx hb dX0_portBreaks_54 (by decide) (fun c54 => ?_) (fun c54 => ?_)
      · refine lv_iconst (v := 0) hx hb dX0_portBreaks_69 (by decide) ?_
        exact rd_zret hx hb hr rfl (z1_f (by unfold xPB; simp [c54, c7] <;> omega)) dX0_portBreaks_70 hlocks
      · refine lv_aload_n hx hb dX0_portBreaks_57 rfl (lv_at hl 1 rfl) ?_
        refine lv_iload_n hx hb dX0_portBreaks_58 rfl (lv_at hl 3 rfl) ?_
        refine rd_callV (As := [.int (nI q0)]) (rest := []) (b := a 0) (q0 := 0) (ci := 0) ⟨hx, hb, hml, hown, hts⟩ (cx_flatCountTo l G cA a V q0 h60 (by omega)) (cwV 1 hts gX0_portBreaks_X0_flatCountTo rfl rfl rfl (by decide +kernel) ⟨Nat.le_of_ble_eq_true rfl, Nat.le_of_ble_eq_true rfl⟩) hK hP rfl rfl rfl rfl hl.1 rfl (Nat.le_of_ble_eq_true rfl) dX0_portBreaks_59 ⟨Nat.zero_le _, Nat.zero_le _⟩ ?_
        refine bn_ne (tgt := 69) hx hb dX0_portBreaks_62 (by decide) (by omega) (fun c62 => ?_) (fun c62 => ?_)
        · refine lv_iconst (v := 0) hx hb dX0_portBreaks_69 (by decide) ?_
          exact rd_zret hx hb hr rfl (z1_f (by unfold xPB; simp [c54, c62, c7] <;> omega)) dX0_portBreaks_70 hlocks
        · refine lv_iconst (v := 1) hx hb dX0_portBreaks_65 (by decide) ?_
          refine lv_goto (tgt := 70) hx hb dX0_portBreaks_66 (by decide) ?_
          exact rd_zret hx hb hr rfl (z1_t (by unfold xPB; simp [c54, c62, c7] <;> omega)) dX0_portBreaks_70 hlocks
    · skip
      by_cases r6 : r0 = 6
      · subst r6
        refine lv_tableIn (off := 54) (tgt := 71) hx hb dX0_portBreaks_17 (by decide) (by decide) (by decide) (by decide) ?_
        refine lv_iload_n hx hb dX0_portBreaks_71 rfl (lv_at hl 0 rfl) ?_
        refine lv_if_eq (tgt := 87) hx hb dX0_portBreaks_72 (by decide) (fun _ => ?_) (fun c72 => absurd c72 (by decide))
        refine lv_iconst (v := 0) hx hb dX0_portBreaks_87 (by decide) ?_
        exact rd_zret hx hb hr rfl (z1_f (by unfold xPB; simp [c7] <;> omega)) dX0_portBreaks_88 hlocks
      · skip
        by_cases r7 : r0 = 7
        · subst r7
          refine lv_tableIn (off := 72) (tgt := 89) hx hb dX0_portBreaks_17 (by decide) (by decide) (by decide) (by decide) ?_
          refine lv_iload_n hx hb dX0_portBreaks_89 rfl (lv_at hl 0 rfl) ?_
          refine lv_if_eq (tgt := 106) hx hb dX0_portBreaks_90 (by decide) (fun _ => ?_) (fun c90 => absurd c90 (by decide))
          refine lv_iconst (v := 0) hx hb dX0_portBreaks_106 (by decide) ?_
          exact rd_zret hx hb hr rfl (z1_f (by unfold xPB; simp [c7] <;> omega)) dX0_portBreaks_107 hlocks
        · skip
          refine lv_tableOut (tgt := 108) hx hb dX0_portBreaks_17 (by rw [nI_toInt (by omega)]; omega) (by decide) ?_
          refine lv_aload_n hx hb dX0_portBreaks_108 rfl (lv_at hl 1 rfl) ?_
          refine va_get (D := G) (ci := 0) (v := .ref (a 6)) (C := RX0) (T := TX0) (N := 19) hx hb hts hfi hown hK hP 0 rfl rfl 6 (by decide) (hts (.fieldLink RX0 23 "PortRules" "kindOf" "[I") (by decide +kernel)) (fun _ h9 => h9) rfl dX0_portBreaks_109 ?_
          refine lv_iload_n hx hb dX0_portBreaks_112 rfl (lv_at hl 3 rfl) ?_
          refine rd_iald hx hb hK hP 5 0 rfl rfl (by omega) (by decide) dX0_portBreaks_113 ?_
          refine lv_iconst (v := 1) hx hb dX0_portBreaks_114 (by decide) ?_
          refine lv_icmp_ne (tgt := 131) hx hb dX0_portBreaks_115 (by decide) (fun c115 => ?_) (fun c115 => ?_)
          · refine lv_iconst (v := 0) hx hb dX0_portBreaks_131 (by decide) ?_
            exact rd_zret hx hb hr rfl (z1_f (by unfold xPB; simp [c115, c7, r5, r6, r7] <;> omega)) dX0_portBreaks_132 hlocks
          · refine lv_aload_n hx hb dX0_portBreaks_118 rfl (lv_at hl 1 rfl) ?_
            refine va_get (D := G) (ci := 0) (v := .ref (a 14)) (C := RX0) (T := TX0) (N := 19) hx hb hts hfi hown hK hP 0 rfl rfl 14 (by decide) (hts (.fieldLink RX0 48 "PortRules" "queueOf" "[I") (by decide +kernel)) (fun _ h9 => h9) rfl dX0_portBreaks_119 ?_
            refine lv_iload_n hx hb dX0_portBreaks_122 rfl (lv_at hl 3 rfl) ?_
            refine rd_iald hx hb hK hP 13 0 rfl rfl (by omega) (by decide) dX0_portBreaks_123 ?_
            refine lv_if_ne (tgt := 131) hx hb dX0_portBreaks_124 (by decide) (fun c124 => ?_) (fun c124 => ?_)
            · refine lv_iconst (v := 0) hx hb dX0_portBreaks_131 (by decide) ?_
              exact rd_zret hx hb hr rfl (z1_f (by unfold xPB; simp [c115, c124, c7, r5, r6, r7] <;> omega)) dX0_portBreaks_132 hlocks
            · refine lv_iconst (v := 1) hx hb dX0_portBreaks_127 (by decide) ?_
              refine lv_goto (tgt := 132) hx hb dX0_portBreaks_128 (by decide) ?_
              exact rd_zret hx hb hr rfl (z1_t (by unfold xPB; simp [c115, c124, c7, r5, r6, r7] <;> omega)) dX0_portBreaks_132 hlocks
  · refine lv_iconst (v := 1) hx hb dX0_portBreaks_10 (by decide) ?_
    refine lv_goto (tgt := 15) hx hb dX0_portBreaks_11 (by decide) ?_
    refine lv_istore_n (lv' := [(3, .int 1), (0, .ref (a 0)), (1, .int (nI r0)), (2, .int (nI q0))]) hx hb dX0_portBreaks_15 rfl hl (by decide) rfl (fun ls hl => ?_)
    refine lv_iload_n hx hb dX0_portBreaks_16 rfl (lv_at hl 2 rfl) ?_
    by_cases r5 : r0 = 5
    · subst r5
      refine lv_tableIn (off := 27) (tgt := 44) hx hb dX0_portBreaks_17 (by decide) (by decide) (by decide) (by decide) ?_
      refine lv_iload_n hx hb dX0_portBreaks_44 rfl (lv_at hl 0 rfl) ?_
      refine lv_if_ne (tgt := 69) hx hb dX0_portBreaks_45 (by decide) (fun _ => ?_) (fun c45 => absurd c45 (by decide))
      refine lv_iconst (v := 0) hx hb dX0_portBreaks_69 (by decide) ?_
      exact rd_zret hx hb hr rfl (z1_f (by unfold xPB; simp [c7] <;> omega)) dX0_portBreaks_70 hlocks
    · skip
      by_cases r6 : r0 = 6
      · subst r6
        refine lv_tableIn (off := 54) (tgt := 71) hx hb dX0_portBreaks_17 (by decide) (by decide) (by decide) (by decide) ?_
        refine lv_iload_n hx hb dX0_portBreaks_71 rfl (lv_at hl 0 rfl) ?_
        refine lv_if_eq (tgt := 87) hx hb dX0_portBreaks_72 (by decide) (fun c72 => absurd c72 (by decide)) (fun _ => ?_)
        refine lv_aload_n hx hb dX0_portBreaks_75 rfl (lv_at hl 1 rfl) ?_
        refine lv_iload_n hx hb dX0_portBreaks_76 rfl (lv_at hl 3 rfl) ?_
        refine rd_callV (As := [.int (nI q0)]) (rest := []) (b := a 0) (q0 := 0) (ci := 0) ⟨hx, hb, hml, hown, hts⟩ (cx_flatCountTo l G cA a V q0 h60 (by omega)) (cwV 1 hts gX0_portBreaks_X0_flatCountTo rfl rfl rfl (by decide +kernel) ⟨Nat.le_of_ble_eq_true rfl, Nat.le_of_ble_eq_true rfl⟩) hK hP rfl rfl rfl rfl hl.1 rfl (Nat.le_of_ble_eq_true rfl) dX0_portBreaks_77 ⟨Nat.zero_le _, Nat.zero_le _⟩ ?_
        refine bn_ne (tgt := 87) hx hb dX0_portBreaks_80 (by decide) (by omega) (fun c80 => ?_) (fun c80 => ?_)
        · refine lv_iconst (v := 0) hx hb dX0_portBreaks_87 (by decide) ?_
          exact rd_zret hx hb hr rfl (z1_f (by unfold xPB; simp [c7, c80] <;> omega)) dX0_portBreaks_88 hlocks
        · refine lv_iconst (v := 1) hx hb dX0_portBreaks_83 (by decide) ?_
          refine lv_goto (tgt := 88) hx hb dX0_portBreaks_84 (by decide) ?_
          exact rd_zret hx hb hr rfl (z1_t (by unfold xPB; simp [c7, c80] <;> omega)) dX0_portBreaks_88 hlocks
      · skip
        by_cases r7 : r0 = 7
        · subst r7
          refine lv_tableIn (off := 72) (tgt := 89) hx hb dX0_portBreaks_17 (by decide) (by decide) (by decide) (by decide) ?_
          refine lv_iload_n hx hb dX0_portBreaks_89 rfl (lv_at hl 0 rfl) ?_
          refine lv_if_eq (tgt := 106) hx hb dX0_portBreaks_90 (by decide) (fun c90 => absurd c90 (by decide)) (fun _ => ?_)
          refine lv_aload_n hx hb dX0_portBreaks_93 rfl (lv_at hl 1 rfl) ?_
          refine lv_iload_n hx hb dX0_portBreaks_94 rfl (lv_at hl 3 rfl) ?_
          refine rd_callV (As := [.int (nI q0)]) (rest := []) (b := a 0) (q0 := 0) (ci := 0) ⟨hx, hb, hml, hown, hts⟩ (cx_flatCountTo l G cA a V q0 h60 (by omega)) (cwV 1 hts gX0_portBreaks_X0_flatCountTo rfl rfl rfl (by decide +kernel) ⟨Nat.le_of_ble_eq_true rfl, Nat.le_of_ble_eq_true rfl⟩) hK hP rfl rfl rfl rfl hl.1 rfl (Nat.le_of_ble_eq_true rfl) dX0_portBreaks_95 ⟨Nat.zero_le _, Nat.zero_le _⟩ ?_
          refine lv_iconst (v := 1) hx hb dX0_portBreaks_98 (by decide) ?_
          refine bi_le (a := (((xTo V q0) : Nat) : Int)) (b := 1) (tgt := 106) hx hb dX0_portBreaks_99 (by decide) (nI_toInt (by omega)) (by decide) (fun c99 => ?_) (fun c99 => ?_)
          · refine lv_iconst (v := 0) hx hb dX0_portBreaks_106 (by decide) ?_
            exact rd_zret hx hb hr rfl (z1_f (by unfold xPB; simp [c7, c99] <;> omega)) dX0_portBreaks_107 hlocks
          · refine lv_iconst (v := 1) hx hb dX0_portBreaks_102 (by decide) ?_
            refine lv_goto (tgt := 107) hx hb dX0_portBreaks_103 (by decide) ?_
            exact rd_zret hx hb hr rfl (z1_t (by unfold xPB; simp [c7, c99] <;> omega)) dX0_portBreaks_107 hlocks
        · skip
          refine lv_tableOut (tgt := 108) hx hb dX0_portBreaks_17 (by rw [nI_toInt (by omega)]; omega) (by decide) ?_
          refine lv_aload_n hx hb dX0_portBreaks_108 rfl (lv_at hl 1 rfl) ?_
          refine va_get (D := G) (ci := 0) (v := .ref (a 6)) (C := RX0) (T := TX0) (N := 19) hx hb hts hfi hown hK hP 0 rfl rfl 6 (by decide) (hts (.fieldLink RX0 23 "PortRules" "kindOf" "[I") (by decide +kernel)) (fun _ h9 => h9) rfl dX0_portBreaks_109 ?_
          refine lv_iload_n hx hb dX0_portBreaks_112 rfl (lv_at hl 3 rfl) ?_
          refine rd_iald hx hb hK hP 5 0 rfl rfl (by omega) (by decide) dX0_portBreaks_113 ?_
          refine lv_iconst (v := 1) hx hb dX0_portBreaks_114 (by decide) ?_
          refine lv_icmp_ne (tgt := 131) hx hb dX0_portBreaks_115 (by decide) (fun c115 => ?_) (fun c115 => ?_)
          · refine lv_iconst (v := 0) hx hb dX0_portBreaks_131 (by decide) ?_
            exact rd_zret hx hb hr rfl (z1_f (by unfold xPB; simp [c115, c7, r5, r6, r7] <;> omega)) dX0_portBreaks_132 hlocks
          · refine lv_aload_n hx hb dX0_portBreaks_118 rfl (lv_at hl 1 rfl) ?_
            refine va_get (D := G) (ci := 0) (v := .ref (a 14)) (C := RX0) (T := TX0) (N := 19) hx hb hts hfi hown hK hP 0 rfl rfl 14 (by decide) (hts (.fieldLink RX0 48 "PortRules" "queueOf" "[I") (by decide +kernel)) (fun _ h9 => h9) rfl dX0_portBreaks_119 ?_
            refine lv_iload_n hx hb dX0_portBreaks_122 rfl (lv_at hl 3 rfl) ?_
            refine rd_iald hx hb hK hP 13 0 rfl rfl (by omega) (by decide) dX0_portBreaks_123 ?_
            refine lv_if_ne (tgt := 131) hx hb dX0_portBreaks_124 (by decide) (fun c124 => ?_) (fun c124 => ?_)
            · refine lv_iconst (v := 0) hx hb dX0_portBreaks_131 (by decide) ?_
              exact rd_zret hx hb hr rfl (z1_f (by unfold xPB; simp [c115, c124, c7, r5, r6, r7] <;> omega)) dX0_portBreaks_132 hlocks
            · refine lv_iconst (v := 1) hx hb dX0_portBreaks_127 (by decide) ?_
              refine lv_goto (tgt := 132) hx hb dX0_portBreaks_128 (by decide) ?_
              exact rd_zret hx hb hr rfl (z1_t (by unfold xPB; simp [c115, c124, c7, r5, r6, r7] <;> omega)) dX0_portBreaks_132 hlocks
set_option maxHeartbeats 4000000 in
set_option maxRecDepth 100000 in
theorem cx_firstBadPort (l : Launch) (G : va_G) (cA : Nat → ClassId) (a : Nat → Nat) (V : XV) (r0 : Nat) (h60 : xnq V ≤ 60) (hr0 : r0 ≤ 9) : Met l yX0_firstBadPort wsX0_firstBadPort { frames := 5, cells := 0, slots := 0, locals := 109 } (rd_Pc G vwC2 (tT cA) (xW cA a V) [.ref (a 0), .int (nI r0)]) (k2_QcV (.int (nI (xBP V r0)))) 0 0 (fun _ => False) := by
  refine Met.ofW (cc := cX0_firstBadPort) (maxL := 3) (ret := some .int) (by decide) rfl ?_
  intro p e s m args below meth c s₁ B hml hv
  obtain ⟨rfl, hP, hK⟩ := hv
  have hx := B.exec
  have hb := B.bytes
  have hr := B.returns
  have hts := atoms_spec (ws := wsX0_firstBadPort) B.pre
  have hown : s.vm.findClass RX0 = some m.cls := findClass_of_methodNamed B.named
  have hlocks := B.notSynchronized
  have hfi : ∀ w ∈ u_ws RX0 TX0 19, w ∈ wsX0_firstBadPort := by decide +kernel
  have hl := lv_entry ([.ref (a 0), .int (nI r0)]) (n := 3) (Nat.le_of_ble_eq_true rfl)
  rw [lg_entry_eq]
  generalize (lg_sl ([.ref (a 0), .int (nI r0)]) ++ List.replicate (3 - (lg_sl ([.ref (a 0), .int (nI r0)])).length) Slot.unset).toArray = ls at hl ⊢
  have hl : lv_has ls 3 [(0, .ref (a 0)), (1, .int (nI r0))] := hl
  refine lv_iconst (v := nI 1) hx hb dX0_firstBadPort_0 (by decide) ?_
  refine lv_istore_n (lv' := [(2, .int (nI 1)), (0, .ref (a 0)), (1, .int (nI r0))]) hx hb dX0_firstBadPort_1 rfl hl (by decide) rfl (fun ls hl => ?_)
  refine rd_loop (fun k ls => ∃ i : Nat, 1 ≤ i ∧ i + k = xnq V + 1 ∧ pu_fst (fun q0 => lb (xar V) q0 && xPB V r0 q0) k i = xBP V r0 ∧ lv_has ls 3 [(2, .int (nI i)), (0, .ref (a 0)), (1, .int (nI r0))]) ?_ (xnq V) ls ⟨1, by omega, by omega, rfl, (lv_sub hl [0, 1, 2] rfl)⟩
  intro k2 ls ⟨i, hi, hk, hR, hl⟩ ih2
  refine lv_iload_n hx hb dX0_firstBadPort_2 rfl (lv_at hl 0 rfl) ?_
  refine lv_aload_n hx hb dX0_firstBadPort_3 rfl (lv_at hl 1 rfl) ?_
  refine va_get (D := G) (ci := 0) (v := .int (nI (xnq V))) (C := RX0) (T := TX0) (N := 19) hx hb hts hfi hown hK hP 0 rfl rfl 4 (by decide) (hts (.fieldLink RX0 75 "PortRules" "portCount" "I") (by decide +kernel)) (fun _ h9 => h9) rfl dX0_firstBadPort_4 ?_
  refine nb_gt (tgt := 38) hx hb dX0_firstBadPort_7 (by decide) (by omega) (by omega) (fun c7 => ?_) (fun c7 => ?_)
  · refine lv_iconst (v := nI 0) hx hb dX0_firstBadPort_38 (by decide) ?_
    exact rd_iret hx hb hr (by rw [← hR, show k2 = 0 by omega]; rfl) dX0_firstBadPort_39 hlocks
  · obtain ⟨k2, rfl⟩ : ∃ z, k2 = z + 1 := ⟨k2 - 1, by omega⟩
    refine lv_aload_n hx hb dX0_firstBadPort_10 rfl (lv_at hl 1 rfl) ?_
    refine va_get (D := G) (ci := 0) (v := .long (xar V)) (C := RX0) (T := TX0) (N := 19) hx hb hts hfi hown hK hP 0 rfl rfl 18 (by decide) (hts (.fieldLink RX0 134 "PortRules" "atomicRequired" "J") (by decide +kernel)) (fun _ h9 => h9) rfl dX0_firstBadPort_11 ?_
    refine lv_iload_n hx hb dX0_firstBadPort_14 rfl (lv_at hl 0 rfl) ?_
    refine rd_callS (As := [.long (xar V), .int (nI i)]) (rest := []) ⟨hx, hb, hml, hown, hts⟩ (cx_holds l (xar V) i (by omega)) (va_cwS 2 hts gX0_firstBadPort_X0_holds rfl rfl rfl (by decide +kernel) ⟨Nat.le_of_ble_eq_true rfl, Nat.le_of_ble_eq_true rfl⟩) rfl hl.1 rfl (Nat.le_of_ble_eq_true rfl) dX0_firstBadPort_15 ⟨Nat.zero_le _, Nat.zero_le _⟩ ?_
    refine bb_eq (tgt := 32) hx hb dX0_firstBadPort_18 (by decide) (fun c18 => ?_) (fun c18 => ?_)
    · refine lv_iinc (v := nI (i + 1)) (lv' := [(2, .int (nI (i + 1))), (0, .ref (a 0)), (1, .int (nI r0))]) hx hb dX0_firstBadPort_32 hl (k := 0) rfl (ni_inc _) (by decide) rfl (fun ls hl => ?_)
      refine lv_goto (tgt := 2) hx hb dX0_firstBadPort_35 (by decide) ?_
      exact ih2 k2 ls (by omega) ⟨i + 1, by omega, by omega, (pu_fst_f (P := (fun q0 => lb (xar V) q0 && xPB V r0 q0)) (by simp [c18])).symm.trans hR, (lv_sub hl [0, 1, 2] rfl)⟩
    · refine lv_aload_n hx hb dX0_firstBadPort_21 rfl (lv_at hl 1 rfl) ?_
      refine lv_iload_n hx hb dX0_firstBadPort_22 rfl (lv_at hl 2 rfl) ?_
      refine lv_iload_n hx hb dX0_firstBadPort_23 rfl (lv_at hl 0 rfl) ?_
      refine rd_callV (As := [.int (nI r0), .int (nI i)]) (rest := []) (b := a 0) (q0 := 0) (ci := 0) ⟨hx, hb, hml, hown, hts⟩ (cx_portBreaks l G cA a V r0 i h60 (by omega) (by omega)) (cwV 2 hts gX0_firstBadPort_X0_portBreaks rfl rfl rfl (by decide +kernel) ⟨Nat.le_of_ble_eq_true rfl, Nat.le_of_ble_eq_true rfl⟩) hK hP rfl rfl rfl rfl hl.1 rfl (Nat.le_of_ble_eq_true rfl) dX0_firstBadPort_24 ⟨Nat.zero_le _, Nat.zero_le _⟩ ?_
      refine bb_eq (tgt := 32) hx hb dX0_firstBadPort_27 (by decide) (fun c27 => ?_) (fun c27 => ?_)
      · refine lv_iinc (v := nI (i + 1)) (lv' := [(2, .int (nI (i + 1))), (0, .ref (a 0)), (1, .int (nI r0))]) hx hb dX0_firstBadPort_32 hl (k := 0) rfl (ni_inc _) (by decide) rfl (fun ls hl => ?_)
        refine lv_goto (tgt := 2) hx hb dX0_firstBadPort_35 (by decide) ?_
        exact ih2 k2 ls (by omega) ⟨i + 1, by omega, by omega, (pu_fst_f (P := (fun q0 => lb (xar V) q0 && xPB V r0 q0)) (by simp [c18, c27])).symm.trans hR, (lv_sub hl [0, 1, 2] rfl)⟩
      · refine lv_iload_n hx hb dX0_firstBadPort_30 rfl (lv_at hl 0 rfl) ?_
        exact rd_iret hx hb hr (by rw [← hR, pu_fst_t (P := (fun q0 => lb (xar V) q0 && xPB V r0 q0)) (by simp [c18, c27])]) dX0_firstBadPort_31 hlocks
set_option maxHeartbeats 4000000 in
set_option maxRecDepth 100000 in
theorem cx_isExactScaling (l : Launch) (G : va_G) (cA : Nat → ClassId) (a : Nat → Nat) (V : XV) (p0 q0 : Nat) (hp : p0 ≤ 60) (hq : q0 ≤ 60) : Met l yX0_isExactScaling wsX0_isExactScaling { frames := 0, cells := 0, slots := 0, locals := 0 } (rd_Pc G vwC2 (tT cA) (xW cA a V) [.ref (a 0), .int (nI p0), .int (nI q0)]) (k2_QcV (.int (z1 (xEx V p0 q0)))) 0 0 (fun _ => False) := by
  refine Met.ofW (cc := cX0_isExactScaling) (maxL := 5) (ret := some .boolean) (by decide) rfl ?_
  intro p e s m args below meth c s₁ B hml hv
  obtain ⟨rfl, hP, hK⟩ := hv
  have hx := B.exec
  have hb := B.bytes
  have hr := B.returns
  have hts := atoms_spec (ws := wsX0_isExactScaling) B.pre
  have hown : s.vm.findClass RX0 = some m.cls := findClass_of_methodNamed B.named
  have hlocks := B.notSynchronized
  have hfi : ∀ w ∈ u_ws RX0 TX0 19, w ∈ wsX0_isExactScaling := by decide +kernel
  have hl := lv_entry ([.ref (a 0), .int (nI p0), .int (nI q0)]) (n := 5) (Nat.le_of_ble_eq_true rfl)
  rw [lg_entry_eq]
  generalize (lg_sl ([.ref (a 0), .int (nI p0), .int (nI q0)]) ++ List.replicate (5 - (lg_sl ([.ref (a 0), .int (nI p0), .int (nI q0)])).length) Slot.unset).toArray = ls at hl ⊢
  have hl : lv_has ls 5 [(0, .ref (a 0)), (1, .int (nI p0)), (2, .int (nI q0))] := hl
  refine lv_aload_n hx hb dX0_isExactScaling_0 rfl (lv_at hl 0 rfl) ?_
  refine va_get (D := G) (ci := 0) (v := .ref (a 10)) (C := RX0) (T := TX0) (N := 19) hx hb hts hfi hown hK hP 0 rfl rfl 10 (by decide) (hts (.fieldLink RX0 36 "PortRules" "downOf" "[J") (by decide +kernel)) (fun _ h9 => h9) rfl dX0_isExactScaling_1 ?_
  refine lv_iload_n hx hb dX0_isExactScaling_4 rfl (lv_at hl 1 rfl) ?_
  refine rd_lald hx hb hK hP 9 2 rfl rfl (by omega) (by decide) dX0_isExactScaling_5 ?_
  refine lv_aload_n hx hb dX0_isExactScaling_6 rfl (lv_at hl 0 rfl) ?_
  refine va_get (D := G) (ci := 0) (v := .ref (a 9)) (C := RX0) (T := TX0) (N := 19) hx hb hts hfi hown hK hP 0 rfl rfl 9 (by decide) (hts (.fieldLink RX0 32 "PortRules" "upOf" "[J") (by decide +kernel)) (fun _ h9 => h9) rfl dX0_isExactScaling_7 ?_
  refine lv_iload_n hx hb dX0_isExactScaling_10 rfl (lv_at hl 2 rfl) ?_
  refine rd_lald hx hb hK hP 8 2 rfl rfl (by omega) (by decide) dX0_isExactScaling_11 ?_
  refine lv_lmul hx hb dX0_isExactScaling_12 ?_
  refine lv_lstore_n (lv' := [(3, .long ((xg V 10 p0) * (xg V 9 q0))), (0, .ref (a 0)), (1, .int (nI p0)), (2, .int (nI q0))]) hx hb dX0_isExactScaling_13 rfl hl (by decide) rfl (fun ls hl => ?_)
  refine lv_lload_n hx hb dX0_isExactScaling_14 rfl (lv_at hl 0 rfl) ?_
  refine lv_lconst (v := 0) hx hb dX0_isExactScaling_15 (by decide) ?_
  refine bl_eq (tgt := 44) hx hb dX0_isExactScaling_16 dX0_isExactScaling_17 (by decide) (fun c17 => ?_) (fun c17 => ?_)
  · refine lv_iconst (v := 0) hx hb dX0_isExactScaling_44 (by decide) ?_
    exact rd_zret hx hb hr rfl (z1_f (by unfold xEx lrm; simp [c17])) dX0_isExactScaling_45 hlocks
  · refine lv_aload_n hx hb dX0_isExactScaling_20 rfl (lv_at hl 1 rfl) ?_
    refine va_get (D := G) (ci := 0) (v := .ref (a 9)) (C := RX0) (T := TX0) (N := 19) hx hb hts hfi hown hK hP 0 rfl rfl 9 (by decide) (hts (.fieldLink RX0 32 "PortRules" "upOf" "[J") (by decide +kernel)) (fun _ h9 => h9) rfl dX0_isExactScaling_21 ?_
    refine lv_iload_n hx hb dX0_isExactScaling_24 rfl (lv_at hl 2 rfl) ?_
    refine rd_lald hx hb hK hP 8 2 rfl rfl (by omega) (by decide) dX0_isExactScaling_25 ?_
    refine lv_aload_n hx hb dX0_isExactScaling_26 rfl (lv_at hl 1 rfl) ?_
    refine va_get (D := G) (ci := 0) (v := .ref (a 10)) (C := RX0) (T := TX0) (N := 19) hx hb hts hfi hown hK hP 0 rfl rfl 10 (by decide) (hts (.fieldLink RX0 36 "PortRules" "downOf" "[J") (by decide +kernel)) (fun _ h9 => h9) rfl dX0_isExactScaling_27 ?_
    refine lv_iload_n hx hb dX0_isExactScaling_30 rfl (lv_at hl 3 rfl) ?_
    refine rd_lald hx hb hK hP 9 2 rfl rfl (by omega) (by decide) dX0_isExactScaling_31 ?_
    refine lv_lmul hx hb dX0_isExactScaling_32 ?_
    refine lv_lload_n hx hb dX0_isExactScaling_33 rfl (lv_at hl 0 rfl) ?_
    refine lv_lrem hx hb dX0_isExactScaling_34 (c17) ?_
    refine lv_lconst (v := 0) hx hb dX0_isExactScaling_35 (by decide) ?_
    refine bl_ne (tgt := 44) hx hb dX0_isExactScaling_36 dX0_isExactScaling_37 (by decide) (fun c37 => ?_) (fun c37 => ?_)
    · refine lv_iconst (v := 0) hx hb dX0_isExactScaling_44 (by decide) ?_
      exact rd_zret hx hb hr rfl (z1_f (by unfold xEx lrm; simp [c17, c37])) dX0_isExactScaling_45 hlocks
    · refine lv_iconst (v := 1) hx hb dX0_isExactScaling_40 (by decide) ?_
      refine lv_goto (tgt := 45) hx hb dX0_isExactScaling_41 (by decide) ?_
      exact rd_zret hx hb hr rfl (z1_t (by unfold xEx lrm; simp [c17, c37])) dX0_isExactScaling_45 hlocks
set_option maxHeartbeats 4000000 in
set_option maxRecDepth 100000 in
theorem cx_servesVersion (l : Launch) (G : va_G) (cA : Nat → ClassId) (a : Nat → Nat) (V : XV) (p0 q0 : Nat) (hp : p0 ≤ 60) (hq : q0 ≤ 60) : Met l yX0_servesVersion wsX0_servesVersion { frames := 0, cells := 0, slots := 0, locals := 0 } (rd_Pc G vwC2 (tT cA) (xW cA a V) [.ref (a 0), .int (nI p0), .int (nI q0)]) (k2_QcV (.int (z1 (xSv V p0 q0)))) 0 0 (fun _ => False) := by
  refine Met.ofW (cc := cX0_servesVersion) (maxL := 5) (ret := some .boolean) (by decide) rfl ?_
  intro p e s m args below meth c s₁ B hml hv
  obtain ⟨rfl, hP, hK⟩ := hv
  have hx := B.exec
  have hb := B.bytes
  have hr := B.returns
  have hts := atoms_spec (ws := wsX0_servesVersion) B.pre
  have hown : s.vm.findClass RX0 = some m.cls := findClass_of_methodNamed B.named
  have hlocks := B.notSynchronized
  have hfi : ∀ w ∈ u_ws RX0 TX0 19, w ∈ wsX0_servesVersion := by decide +kernel
  have hl := lv_entry ([.ref (a 0), .int (nI p0), .int (nI q0)]) (n := 5) (Nat.le_of_ble_eq_true rfl)
  rw [lg_entry_eq]
  generalize (lg_sl ([.ref (a 0), .int (nI p0), .int (nI q0)]) ++ List.replicate (5 - (lg_sl ([.ref (a 0), .int (nI p0), .int (nI q0)])).length) Slot.unset).toArray = ls at hl ⊢
  have hl : lv_has ls 5 [(0, .ref (a 0)), (1, .int (nI p0)), (2, .int (nI q0))] := hl
  refine lv_aload_n hx hb dX0_servesVersion_0 rfl (lv_at hl 0 rfl) ?_
  refine va_get (D := G) (ci := 0) (v := .ref (a 11)) (C := RX0) (T := TX0) (N := 19) hx hb hts hfi hown hK hP 0 rfl rfl 11 (by decide) (hts (.fieldLink RX0 39 "PortRules" "versionOf" "[I") (by decide +kernel)) (fun _ h9 => h9) rfl dX0_servesVersion_1 ?_
  refine lv_iload_n hx hb dX0_servesVersion_4 rfl (lv_at hl 1 rfl) ?_
  refine rd_iald hx hb hK hP 10 0 rfl rfl (by omega) (by decide) dX0_servesVersion_5 ?_
  refine lv_istore_n (lv' := [(3, .int (xf V 11 p0)), (0, .ref (a 0)), (1, .int (nI p0)), (2, .int (nI q0))]) hx hb dX0_servesVersion_6 rfl hl (by decide) rfl (fun ls hl => ?_)
  refine lv_aload_n hx hb dX0_servesVersion_7 rfl (lv_at hl 1 rfl) ?_
  refine va_get (D := G) (ci := 0) (v := .ref (a 11)) (C := RX0) (T := TX0) (N := 19) hx hb hts hfi hown hK hP 0 rfl rfl 11 (by decide) (hts (.fieldLink RX0 39 "PortRules" "versionOf" "[I") (by decide +kernel)) (fun _ h9 => h9) rfl dX0_servesVersion_8 ?_
  refine lv_iload_n hx hb dX0_servesVersion_11 rfl (lv_at hl 3 rfl) ?_
  refine rd_iald hx hb hK hP 10 0 rfl rfl (by omega) (by decide) dX0_servesVersion_12 ?_
  refine lv_istore (lv' := [(4, .int (xf V 11 q0)), (3, .int (xf V 11 p0)), (0, .ref (a 0)), (1, .int (nI p0)), (2, .int (nI q0))]) hx hb dX0_servesVersion_13 hl (by decide) rfl (fun ls hl => ?_)
  refine lv_iload_n hx hb dX0_servesVersion_15 rfl (lv_at hl 1 rfl) ?_
  refine lv_iload hx hb dX0_servesVersion_16 (lv_at hl 0 rfl) ?_
  refine bi_lt (a := (xf V 11 p0).toInt) (b := (xf V 11 q0).toInt) (tgt := 37) hx hb dX0_servesVersion_18 (by decide) rfl rfl (fun c18 => ?_) (fun c18 => ?_)
  · refine lv_iconst (v := 0) hx hb dX0_servesVersion_37 (by decide) ?_
    exact rd_zret hx hb hr rfl (z1_f (by unfold xSv; simp [c18] <;> omega)) dX0_servesVersion_38 hlocks
  · refine lv_iload_n hx hb dX0_servesVersion_21 rfl (lv_at hl 1 rfl) ?_
    refine lv_bipush (v := 100) hx hb dX0_servesVersion_22 (by decide) ?_
    refine lv_idiv hx hb dX0_servesVersion_24 (by decide) ?_
    refine lv_iload hx hb dX0_servesVersion_25 (lv_at hl 0 rfl) ?_
    refine lv_bipush (v := 100) hx hb dX0_servesVersion_27 (by decide) ?_
    refine lv_idiv hx hb dX0_servesVersion_29 (by decide) ?_
    refine lv_icmp_ne (tgt := 37) hx hb dX0_servesVersion_30 (by decide) (fun c30 => ?_) (fun c30 => ?_)
    · refine lv_iconst (v := 0) hx hb dX0_servesVersion_37 (by decide) ?_
      exact rd_zret hx hb hr rfl (z1_f (by unfold xSv; simp [c18, c30] <;> omega)) dX0_servesVersion_38 hlocks
    · refine lv_iconst (v := 1) hx hb dX0_servesVersion_33 (by decide) ?_
      refine lv_goto (tgt := 38) hx hb dX0_servesVersion_34 (by decide) ?_
      exact rd_zret hx hb hr rfl (z1_t (by unfold xSv; simp [c18, c30] <;> omega)) dX0_servesVersion_38 hlocks
set_option maxHeartbeats 4000000 in
set_option maxRecDepth 100000 in
theorem cx_managesMode (l : Launch) (G : va_G) (cA : Nat → ClassId) (a : Nat → Nat) (V : XV) (x : Int32)  : Met l yX0_managesMode wsX0_managesMode { frames := 0, cells := 0, slots := 0, locals := 0 } (rd_Pc G vwC2 (tT cA) (xW cA a V) [.ref (a 0), .int x]) (k2_QcV (.int (z1 (xMg V x)))) 0 0 (fun _ => False) := by
  refine Met.ofW (cc := cX0_managesMode) (maxL := 3) (ret := some .boolean) (by decide) rfl ?_
  intro p e s m args below meth c s₁ B hml hv
  obtain ⟨rfl, hP, hK⟩ := hv
  have hx := B.exec
  have hb := B.bytes
  have hr := B.returns
  have hts := atoms_spec (ws := wsX0_managesMode) B.pre
  have hown : s.vm.findClass RX0 = some m.cls := findClass_of_methodNamed B.named
  have hlocks := B.notSynchronized
  have hfi : ∀ w ∈ u_ws RX0 TX0 19, w ∈ wsX0_managesMode := by decide +kernel
  have hl := lv_entry ([.ref (a 0), .int x]) (n := 3) (Nat.le_of_ble_eq_true rfl)
  rw [lg_entry_eq]
  generalize (lg_sl ([.ref (a 0), .int x]) ++ List.replicate (3 - (lg_sl ([.ref (a 0), .int x])).length) Slot.unset).toArray = ls at hl ⊢
  have hl : lv_has ls 3 [(0, .ref (a 0)), (1, .int x)] := hl
  refine lv_iconst (v := nI 0) hx hb dX0_managesMode_0 (by decide) ?_
  refine lv_istore_n (lv' := [(2, .int (nI 0)), (0, .ref (a 0)), (1, .int x)]) hx hb dX0_managesMode_1 rfl hl (by decide) rfl (fun ls hl => ?_)
  refine rd_loop (fun k ls => ∃ i : Nat, i + k = 10 ∧ pu_any (fun k0 => decide (xf V 3 k0 = x)) k i = xMg V x ∧ lv_has ls 3 [(2, .int (nI i)), (0, .ref (a 0)), (1, .int x)]) ?_ 10 ls ⟨0, by omega, rfl, (lv_sub hl [0, 1, 2] rfl)⟩
  intro k2 ls ⟨i, hk, hR, hl⟩ ih2
  refine lv_iload_n hx hb dX0_managesMode_2 rfl (lv_at hl 0 rfl) ?_
  refine lv_bipush (v := nI 10) hx hb dX0_managesMode_3 (by decide) ?_
  refine nb_ge (tgt := 26) hx hb dX0_managesMode_5 (by decide) (by omega) (by omega) (fun c5 => ?_) (fun c5 => ?_)
  · refine lv_iconst (v := 0) hx hb dX0_managesMode_26 (by decide) ?_
    exact rd_zret hx hb hr rfl (z1_f (hR.symm.trans (by rw [show k2 = 0 by omega]; rfl))) dX0_managesMode_27 hlocks
  · obtain ⟨k2, rfl⟩ : ∃ z, k2 = z + 1 := ⟨k2 - 1, by omega⟩
    refine lv_aload_n hx hb dX0_managesMode_8 rfl (lv_at hl 1 rfl) ?_
    refine va_get (D := G) (ci := 0) (v := .ref (a 3)) (C := RX0) (T := TX0) (N := 19) hx hb hts hfi hown hK hP 0 rfl rfl 3 (by decide) (hts (.fieldLink RX0 17 "PortRules" "managerOf" "[I") (by decide +kernel)) (fun _ h9 => h9) rfl dX0_managesMode_9 ?_
    refine lv_iload_n hx hb dX0_managesMode_12 rfl (lv_at hl 0 rfl) ?_
    refine rd_iald hx hb hK hP 3 0 rfl rfl (by omega) (by decide) dX0_managesMode_13 ?_
    refine lv_iload_n hx hb dX0_managesMode_14 rfl (lv_at hl 2 rfl) ?_
    refine lv_icmp_ne (tgt := 20) hx hb dX0_managesMode_15 (by decide) (fun c15 => ?_) (fun c15 => ?_)
    · refine lv_iinc (v := nI (i + 1)) (lv' := [(2, .int (nI (i + 1))), (0, .ref (a 0)), (1, .int x)]) hx hb dX0_managesMode_20 hl (k := 0) rfl (ni_inc _) (by decide) rfl (fun ls hl => ?_)
      refine lv_goto (tgt := 2) hx hb dX0_managesMode_23 (by decide) ?_
      exact ih2 k2 ls (by omega) ⟨i + 1, by omega, (show pu_any (fun k0 => decide (xf V 3 k0 = x)) (k2 + 1) i = _ by simp [pu_any, c15]).symm.trans hR, (lv_sub hl [0, 1, 2] rfl)⟩
    · refine lv_iconst (v := 1) hx hb dX0_managesMode_18 (by decide) ?_
      exact rd_zret hx hb hr rfl (z1_t (hR.symm.trans (by simp [pu_any, c15]))) dX0_managesMode_19 hlocks
set_option maxHeartbeats 4000000 in
set_option maxRecDepth 100000 in
theorem cx_connectorBreaks (l : Launch) (G : va_G) (cA : Nat → ClassId) (a : Nat → Nat) (V : XV) (r0 p0 q0 : Nat) (h60 : xnq V ≤ 60) (hr0 : r0 ≤ 9) (hp : p0 ≤ 60) (hq : q0 ≤ 60) : Met l yX0_connectorBreaks wsX0_connectorBreaks { frames := 1, cells := 0, slots := 0, locals := 24 } (rd_Pc G vwC2 (tT cA) (xW cA a V) [.ref (a 0), .int (nI r0), .int (nI p0), .int (nI q0)]) (k2_QcV (.int (z1 (xCB V r0 p0 q0)))) 0 0 (fun _ => False) := by
  refine Met.ofW (cc := cX0_connectorBreaks) (maxL := 4) (ret := some .boolean) (by decide) rfl ?_
  intro p e s m args below meth c s₁ B hml hv
  obtain ⟨rfl, hP, hK⟩ := hv
  have hx := B.exec
  have hb := B.bytes
  have hr := B.returns
  have hts := atoms_spec (ws := wsX0_connectorBreaks) B.pre
  have hown : s.vm.findClass RX0 = some m.cls := findClass_of_methodNamed B.named
  have hlocks := B.notSynchronized
  have hfi : ∀ w ∈ u_ws RX0 TX0 19, w ∈ wsX0_connectorBreaks := by decide +kernel
  have hl := lv_entry ([.ref (a 0), .int (nI r0), .int (nI p0), .int (nI q0)]) (n := 4) (Nat.le_of_ble_eq_true rfl)
  rw [lg_entry_eq]
  generalize (lg_sl ([.ref (a 0), .int (nI r0), .int (nI p0), .int (nI q0)]) ++ List.replicate (4 - (lg_sl ([.ref (a 0), .int (nI r0), .int (nI p0), .int (nI q0)])).length) Slot.unset).toArray = ls at hl ⊢
  have hl : lv_has ls 4 [(0, .ref (a 0)), (1, .int (nI r0)), (2, .int (nI p0)), (3, .int (nI q0))] := hl
  have hr9 : r0 < 2 ^ 31 := by omega
  refine lv_iload_n hx hb dX0_connectorBreaks_0 rfl (lv_at hl 1 rfl) ?_
  by_cases r1 : r0 = 1
  · subst r1
    refine lv_tableIn (off := 31) (tgt := 32) hx hb dX0_connectorBreaks_1 (by decide) (by decide) (by decide) (by decide) ?_
    refine lv_aload_n hx hb dX0_connectorBreaks_32 rfl (lv_at hl 0 rfl) ?_
    refine va_get (D := G) (ci := 0) (v := .ref (a 8)) (C := RX0) (T := TX0) (N := 19) hx hb hts hfi hown hK hP 0 rfl rfl 8 (by decide) (hts (.fieldLink RX0 29 "PortRules" "unitOf" "[I") (by decide +kernel)) (fun _ h9 => h9) rfl dX0_connectorBreaks_33 ?_
    refine lv_iload_n hx hb dX0_connectorBreaks_36 rfl (lv_at hl 2 rfl) ?_
    refine rd_iald hx hb hK hP 7 0 rfl rfl (by omega) (by decide) dX0_connectorBreaks_37 ?_
    refine lv_iconst (v := -1) hx hb dX0_connectorBreaks_38 (by decide) ?_
    refine lv_icmp_ne (tgt := 46) hx hb dX0_connectorBreaks_39 (by decide) (fun c39 => ?_) (fun c39 => ?_)
    · refine lv_iconst (v := 0) hx hb dX0_connectorBreaks_46 (by decide) ?_
      refine lv_aload_n hx hb dX0_connectorBreaks_47 rfl (lv_at hl 0 rfl) ?_
      refine va_get (D := G) (ci := 0) (v := .ref (a 8)) (C := RX0) (T := TX0) (N := 19) hx hb hts hfi hown hK hP 0 rfl rfl 8 (by decide) (hts (.fieldLink RX0 29 "PortRules" "unitOf" "[I") (by decide +kernel)) (fun _ h9 => h9) rfl dX0_connectorBreaks_48 ?_
      refine lv_iload_n hx hb dX0_connectorBreaks_51 rfl (lv_at hl 3 rfl) ?_
      refine rd_iald hx hb hK hP 7 0 rfl rfl (by omega) (by decide) dX0_connectorBreaks_52 ?_
      refine lv_iconst (v := -1) hx hb dX0_connectorBreaks_53 (by decide) ?_
      refine lv_icmp_ne (tgt := 61) hx hb dX0_connectorBreaks_54 (by decide) (fun c54 => ?_) (fun c54 => ?_)
      · refine lv_iconst (v := 0) hx hb dX0_connectorBreaks_61 (by decide) ?_
        refine lv_icmp_eq (tgt := 69) hx hb dX0_connectorBreaks_62 (by decide) (fun _ => ?_) (fun c62 => absurd c62 (by decide))
        refine lv_iconst (v := 0) hx hb dX0_connectorBreaks_69 (by decide) ?_
        exact rd_zret hx hb hr rfl (z1_f (by unfold xCB; simp [c39, c54])) dX0_connectorBreaks_70 hlocks
      · refine lv_iconst (v := 1) hx hb dX0_connectorBreaks_57 (by decide) ?_
        refine lv_goto (tgt := 62) hx hb dX0_connectorBreaks_58 (by decide) ?_
        refine lv_icmp_eq (tgt := 69) hx hb dX0_connectorBreaks_62 (by decide) (fun c62 => absurd c62 (by decide)) (fun _ => ?_)
        refine lv_iconst (v := 1) hx hb dX0_connectorBreaks_65 (by decide) ?_
        refine lv_goto (tgt := 70) hx hb dX0_connectorBreaks_66 (by decide) ?_
        exact rd_zret hx hb hr rfl (z1_t (by unfold xCB; simp [c39, c54])) dX0_connectorBreaks_70 hlocks
    · refine lv_iconst (v := 1) hx hb dX0_connectorBreaks_42 (by decide) ?_
      refine lv_goto (tgt := 47) hx hb dX0_connectorBreaks_43 (by decide) ?_
      refine lv_aload_n hx hb dX0_connectorBreaks_47 rfl (lv_at hl 0 rfl) ?_
      refine va_get (D := G) (ci := 0) (v := .ref (a 8)) (C := RX0) (T := TX0) (N := 19) hx hb hts hfi hown hK hP 0 rfl rfl 8 (by decide) (hts (.fieldLink RX0 29 "PortRules" "unitOf" "[I") (by decide +kernel)) (fun _ h9 => h9) rfl dX0_connectorBreaks_48 ?_
      refine lv_iload_n hx hb dX0_connectorBreaks_51 rfl (lv_at hl 3 rfl) ?_
      refine rd_iald hx hb hK hP 7 0 rfl rfl (by omega) (by decide) dX0_connectorBreaks_52 ?_
      refine lv_iconst (v := -1) hx hb dX0_connectorBreaks_53 (by decide) ?_
      refine lv_icmp_ne (tgt := 61) hx hb dX0_connectorBreaks_54 (by decide) (fun c54 => ?_) (fun c54 => ?_)
      · refine lv_iconst (v := 0) hx hb dX0_connectorBreaks_61 (by decide) ?_
        refine lv_icmp_eq (tgt := 69) hx hb dX0_connectorBreaks_62 (by decide) (fun c62 => absurd c62 (by decide)) (fun _ => ?_)
        refine lv_iconst (v := 1) hx hb dX0_connectorBreaks_65 (by decide) ?_
        refine lv_goto (tgt := 70) hx hb dX0_connectorBreaks_66 (by decide) ?_
        exact rd_zret hx hb hr rfl (z1_t (by unfold xCB; simp [c39, c54])) dX0_connectorBreaks_70 hlocks
      · refine lv_iconst (v := 1) hx hb dX0_connectorBreaks_57 (by decide) ?_
        refine lv_goto (tgt := 62) hx hb dX0_connectorBreaks_58 (by decide) ?_
        refine lv_icmp_eq (tgt := 69) hx hb dX0_connectorBreaks_62 (by decide) (fun _ => ?_) (fun c62 => absurd c62 (by decide))
        refine lv_iconst (v := 0) hx hb dX0_connectorBreaks_69 (by decide) ?_
        exact rd_zret hx hb hr rfl (z1_f (by unfold xCB; simp [c39, c54])) dX0_connectorBreaks_70 hlocks
  · skip
    by_cases r2 : r0 = 2
    · subst r2
      refine lv_tableIn (off := 70) (tgt := 71) hx hb dX0_connectorBreaks_1 (by decide) (by decide) (by decide) (by decide) ?_
      refine lv_aload_n hx hb dX0_connectorBreaks_71 rfl (lv_at hl 0 rfl) ?_
      refine va_get (D := G) (ci := 0) (v := .ref (a 8)) (C := RX0) (T := TX0) (N := 19) hx hb hts hfi hown hK hP 0 rfl rfl 8 (by decide) (hts (.fieldLink RX0 29 "PortRules" "unitOf" "[I") (by decide +kernel)) (fun _ h9 => h9) rfl dX0_connectorBreaks_72 ?_
      refine lv_iload_n hx hb dX0_connectorBreaks_75 rfl (lv_at hl 2 rfl) ?_
      refine rd_iald hx hb hK hP 7 0 rfl rfl (by omega) (by decide) dX0_connectorBreaks_76 ?_
      refine lv_aload_n hx hb dX0_connectorBreaks_77 rfl (lv_at hl 0 rfl) ?_
      refine va_get (D := G) (ci := 0) (v := .ref (a 8)) (C := RX0) (T := TX0) (N := 19) hx hb hts hfi hown hK hP 0 rfl rfl 8 (by decide) (hts (.fieldLink RX0 29 "PortRules" "unitOf" "[I") (by decide +kernel)) (fun _ h9 => h9) rfl dX0_connectorBreaks_78 ?_
      refine lv_iload_n hx hb dX0_connectorBreaks_81 rfl (lv_at hl 3 rfl) ?_
      refine rd_iald hx hb hK hP 7 0 rfl rfl (by omega) (by decide) dX0_connectorBreaks_82 ?_
      refine lv_icmp_eq (tgt := 90) hx hb dX0_connectorBreaks_83 (by decide) (fun c83 => ?_) (fun c83 => ?_)
      · refine lv_iconst (v := 0) hx hb dX0_connectorBreaks_90 (by decide) ?_
        exact rd_zret hx hb hr rfl (z1_f (by unfold xCB; simp [c83])) dX0_connectorBreaks_91 hlocks
      · refine lv_iconst (v := 1) hx hb dX0_connectorBreaks_86 (by decide) ?_
        refine lv_goto (tgt := 91) hx hb dX0_connectorBreaks_87 (by decide) ?_
        exact rd_zret hx hb hr rfl (z1_t (by unfold xCB; simp [c83])) dX0_connectorBreaks_91 hlocks
    · skip
      by_cases r3 : r0 = 3
      · subst r3
        refine lv_tableIn (off := 91) (tgt := 92) hx hb dX0_connectorBreaks_1 (by decide) (by decide) (by decide) (by decide) ?_
        refine lv_aload_n hx hb dX0_connectorBreaks_92 rfl (lv_at hl 0 rfl) ?_
        refine va_get (D := G) (ci := 0) (v := .ref (a 8)) (C := RX0) (T := TX0) (N := 19) hx hb hts hfi hown hK hP 0 rfl rfl 8 (by decide) (hts (.fieldLink RX0 29 "PortRules" "unitOf" "[I") (by decide +kernel)) (fun _ h9 => h9) rfl dX0_connectorBreaks_93 ?_
        refine lv_iload_n hx hb dX0_connectorBreaks_96 rfl (lv_at hl 2 rfl) ?_
        refine rd_iald hx hb hK hP 7 0 rfl rfl (by omega) (by decide) dX0_connectorBreaks_97 ?_
        refine lv_iconst (v := -1) hx hb dX0_connectorBreaks_98 (by decide) ?_
        refine lv_icmp_eq (tgt := 115) hx hb dX0_connectorBreaks_99 (by decide) (fun c99 => ?_) (fun c99 => ?_)
        · refine lv_iconst (v := 0) hx hb dX0_connectorBreaks_115 (by decide) ?_
          exact rd_zret hx hb hr rfl (z1_f (by unfold xCB; simp [c99])) dX0_connectorBreaks_116 hlocks
        · refine lv_aload_n hx hb dX0_connectorBreaks_102 rfl (lv_at hl 0 rfl) ?_
          refine lv_iload_n hx hb dX0_connectorBreaks_103 rfl (lv_at hl 2 rfl) ?_
          refine lv_iload_n hx hb dX0_connectorBreaks_104 rfl (lv_at hl 3 rfl) ?_
          refine rd_callV (As := [.int (nI p0), .int (nI q0)]) (rest := []) (b := a 0) (q0 := 0) (ci := 0) ⟨hx, hb, hml, hown, hts⟩ (cx_isExactScaling l G cA a V p0 q0 (by omega) (by omega)) (cwV 2 hts gX0_connectorBreaks_X0_isExactScaling rfl rfl rfl (by decide +kernel) ⟨Nat.le_of_ble_eq_true rfl, Nat.le_of_ble_eq_true rfl⟩) hK hP rfl rfl rfl rfl hl.1 rfl (Nat.le_of_ble_eq_true rfl) dX0_connectorBreaks_105 ⟨Nat.zero_le _, Nat.zero_le _⟩ ?_
          refine bb_ne (tgt := 115) hx hb dX0_connectorBreaks_108 (by decide) (fun c108 => ?_) (fun c108 => ?_)
          · refine lv_iconst (v := 0) hx hb dX0_connectorBreaks_115 (by decide) ?_
            exact rd_zret hx hb hr rfl (z1_f (by unfold xCB; simp [c108, c99])) dX0_connectorBreaks_116 hlocks
          · refine lv_iconst (v := 1) hx hb dX0_connectorBreaks_111 (by decide) ?_
            refine lv_goto (tgt := 116) hx hb dX0_connectorBreaks_112 (by decide) ?_
            exact rd_zret hx hb hr rfl (z1_t (by unfold xCB; simp [c108, c99])) dX0_connectorBreaks_116 hlocks
      · skip
        by_cases r4 : r0 = 4
        · subst r4
          refine lv_tableIn (off := 116) (tgt := 117) hx hb dX0_connectorBreaks_1 (by decide) (by decide) (by decide) (by decide) ?_
          refine lv_aload_n hx hb dX0_connectorBreaks_117 rfl (lv_at hl 0 rfl) ?_
          refine va_get (D := G) (ci := 0) (v := .ref (a 11)) (C := RX0) (T := TX0) (N := 19) hx hb hts hfi hown hK hP 0 rfl rfl 11 (by decide) (hts (.fieldLink RX0 39 "PortRules" "versionOf" "[I") (by decide +kernel)) (fun _ h9 => h9) rfl dX0_connectorBreaks_118 ?_
          refine lv_iload_n hx hb dX0_connectorBreaks_121 rfl (lv_at hl 3 rfl) ?_
          refine rd_iald hx hb hK hP 10 0 rfl rfl (by omega) (by decide) dX0_connectorBreaks_122 ?_
          refine lv_iconst (v := -1) hx hb dX0_connectorBreaks_123 (by decide) ?_
          refine lv_icmp_eq (tgt := 140) hx hb dX0_connectorBreaks_124 (by decide) (fun c124 => ?_) (fun c124 => ?_)
          · refine lv_iconst (v := 0) hx hb dX0_connectorBreaks_140 (by decide) ?_
            exact rd_zret hx hb hr rfl (z1_f (by unfold xCB; simp [c124])) dX0_connectorBreaks_141 hlocks
          · refine lv_aload_n hx hb dX0_connectorBreaks_127 rfl (lv_at hl 0 rfl) ?_
            refine lv_iload_n hx hb dX0_connectorBreaks_128 rfl (lv_at hl 2 rfl) ?_
            refine lv_iload_n hx hb dX0_connectorBreaks_129 rfl (lv_at hl 3 rfl) ?_
            refine rd_callV (As := [.int (nI p0), .int (nI q0)]) (rest := []) (b := a 0) (q0 := 0) (ci := 0) ⟨hx, hb, hml, hown, hts⟩ (cx_servesVersion l G cA a V p0 q0 (by omega) (by omega)) (cwV 2 hts gX0_connectorBreaks_X0_servesVersion rfl rfl rfl (by decide +kernel) ⟨Nat.le_of_ble_eq_true rfl, Nat.le_of_ble_eq_true rfl⟩) hK hP rfl rfl rfl rfl hl.1 rfl (Nat.le_of_ble_eq_true rfl) dX0_connectorBreaks_130 ⟨Nat.zero_le _, Nat.zero_le _⟩ ?_
            refine bb_ne (tgt := 140) hx hb dX0_connectorBreaks_133 (by decide) (fun c133 => ?_) (fun c133 => ?_)
            · refine lv_iconst (v := 0) hx hb dX0_connectorBreaks_140 (by decide) ?_
              exact rd_zret hx hb hr rfl (z1_f (by unfold xCB; simp [c124, c133])) dX0_connectorBreaks_141 hlocks
            · refine lv_iconst (v := 1) hx hb dX0_connectorBreaks_136 (by decide) ?_
              refine lv_goto (tgt := 141) hx hb dX0_connectorBreaks_137 (by decide) ?_
              exact rd_zret hx hb hr rfl (z1_t (by unfold xCB; simp [c124, c133])) dX0_connectorBreaks_141 hlocks
        · skip
          refine lv_tableOut (tgt := 142) hx hb dX0_connectorBreaks_1 (by rw [nI_toInt (by omega)]; omega) (by decide) ?_
          refine lv_aload_n hx hb dX0_connectorBreaks_142 rfl (lv_at hl 0 rfl) ?_
          refine va_get (D := G) (ci := 0) (v := .ref (a 6)) (C := RX0) (T := TX0) (N := 19) hx hb hts hfi hown hK hP 0 rfl rfl 6 (by decide) (hts (.fieldLink RX0 23 "PortRules" "kindOf" "[I") (by decide +kernel)) (fun _ h9 => h9) rfl dX0_connectorBreaks_143 ?_
          refine lv_iload_n hx hb dX0_connectorBreaks_146 rfl (lv_at hl 2 rfl) ?_
          refine rd_iald hx hb hK hP 5 0 rfl rfl (by omega) (by decide) dX0_connectorBreaks_147 ?_
          refine lv_iconst (v := 3) hx hb dX0_connectorBreaks_148 (by decide) ?_
          refine lv_icmp_ne (tgt := 169) hx hb dX0_connectorBreaks_149 (by decide) (fun c149 => ?_) (fun c149 => ?_)
          · refine lv_iconst (v := 0) hx hb dX0_connectorBreaks_169 (by decide) ?_
            exact rd_zret hx hb hr rfl (z1_f (by unfold xCB; simp [c149, r1, r2, r3, r4])) dX0_connectorBreaks_170 hlocks
          · refine lv_aload_n hx hb dX0_connectorBreaks_152 rfl (lv_at hl 0 rfl) ?_
            refine lv_aload_n hx hb dX0_connectorBreaks_153 rfl (lv_at hl 0 rfl) ?_
            refine va_get (D := G) (ci := 0) (v := .ref (a 5)) (C := RX0) (T := TX0) (N := 19) hx hb hts hfi hown hK hP 0 rfl rfl 5 (by decide) (hts (.fieldLink RX0 20 "PortRules" "partOf" "[I") (by decide +kernel)) (fun _ h9 => h9) rfl dX0_connectorBreaks_154 ?_
            refine lv_iload_n hx hb dX0_connectorBreaks_157 rfl (lv_at hl 2 rfl) ?_
            refine rd_iald hx hb hK hP 4 0 rfl rfl (by omega) (by decide) dX0_connectorBreaks_158 ?_
            refine rd_callV (As := [.int (xf V 5 p0)]) (rest := []) (b := a 0) (q0 := 0) (ci := 0) ⟨hx, hb, hml, hown, hts⟩ (cx_managesMode l G cA a V (xf V 5 p0)) (cwV 1 hts gX0_connectorBreaks_X0_managesMode rfl rfl rfl (by decide +kernel) ⟨Nat.le_of_ble_eq_true rfl, Nat.le_of_ble_eq_true rfl⟩) hK hP rfl rfl rfl rfl hl.1 rfl (Nat.le_of_ble_eq_true rfl) dX0_connectorBreaks_159 ⟨Nat.zero_le _, Nat.zero_le _⟩ ?_
            refine bb_ne (tgt := 169) hx hb dX0_connectorBreaks_162 (by decide) (fun c162 => ?_) (fun c162 => ?_)
            · refine lv_iconst (v := 0) hx hb dX0_connectorBreaks_169 (by decide) ?_
              exact rd_zret hx hb hr rfl (z1_f (by unfold xCB; simp [c149, c162, r1, r2, r3, r4])) dX0_connectorBreaks_170 hlocks
            · refine lv_iconst (v := 1) hx hb dX0_connectorBreaks_165 (by decide) ?_
              refine lv_goto (tgt := 170) hx hb dX0_connectorBreaks_166 (by decide) ?_
              exact rd_zret hx hb hr rfl (z1_t (by unfold xCB; simp [c149, c162, r1, r2, r3, r4])) dX0_connectorBreaks_170 hlocks
set_option maxHeartbeats 4000000 in
set_option maxRecDepth 100000 in
theorem cx_firstBadConnector (l : Launch) (G : va_G) (cA : Nat → ClassId) (a : Nat → Nat) (V : XV) (r0 : Nat) (h60 : xnq V ≤ 60) (hr0 : r0 ≤ 9) : Met l yX0_firstBadConnector wsX0_firstBadConnector { frames := 3, cells := 0, slots := 0, locals := 63 } (rd_Pc G vwC2 (tT cA) (xW cA a V) [.ref (a 0), .int (nI r0)]) (k2_QcV (.int (nI (xBC V r0)))) 0 0 (fun _ => False) := by
  refine Met.ofW (cc := cX0_firstBadConnector) (maxL := 6) (ret := some .int) (by decide) rfl ?_
  intro p e s m args below meth c s₁ B hml hv
  obtain ⟨rfl, hP, hK⟩ := hv
  have hx := B.exec
  have hb := B.bytes
  have hr := B.returns
  have hts := atoms_spec (ws := wsX0_firstBadConnector) B.pre
  have hown : s.vm.findClass RX0 = some m.cls := findClass_of_methodNamed B.named
  have hlocks := B.notSynchronized
  have hfi : ∀ w ∈ u_ws RX0 TX0 19, w ∈ wsX0_firstBadConnector := by decide +kernel
  have hl := lv_entry ([.ref (a 0), .int (nI r0)]) (n := 6) (Nat.le_of_ble_eq_true rfl)
  rw [lg_entry_eq]
  generalize (lg_sl ([.ref (a 0), .int (nI r0)]) ++ List.replicate (6 - (lg_sl ([.ref (a 0), .int (nI r0)])).length) Slot.unset).toArray = ls at hl ⊢
  have hl : lv_has ls 6 [(0, .ref (a 0)), (1, .int (nI r0))] := hl
  refine lv_iconst (v := nI 1) hx hb dX0_firstBadConnector_0 (by decide) ?_
  refine lv_istore_n (lv' := [(2, .int (nI 1)), (0, .ref (a 0)), (1, .int (nI r0))]) hx hb dX0_firstBadConnector_1 rfl hl (by decide) rfl (fun ls hl => ?_)
  refine rd_loop (fun k ls => ∃ i : Nat, 1 ≤ i ∧ i + k = xnq V + 1 ∧ pu_fst2 (fun p0 q0 => xF V p0 q0 && xCB V r0 p0 q0) (xnq V) k i = xBC V r0 ∧ lv_has ls 6 [(2, .int (nI i)), (0, .ref (a 0)), (1, .int (nI r0))]) ?_ (xnq V) ls ⟨1, by omega, by omega, rfl, (lv_sub hl [0, 1, 2] rfl)⟩
  intro k2 ls ⟨i, hi, hk, hR, hl⟩ ih2
  refine lv_iload_n hx hb dX0_firstBadConnector_2 rfl (lv_at hl 0 rfl) ?_
  refine lv_aload_n hx hb dX0_firstBadConnector_3 rfl (lv_at hl 1 rfl) ?_
  refine va_get (D := G) (ci := 0) (v := .int (nI (xnq V))) (C := RX0) (T := TX0) (N := 19) hx hb hts hfi hown hK hP 0 rfl rfl 4 (by decide) (hts (.fieldLink RX0 75 "PortRules" "portCount" "I") (by decide +kernel)) (fun _ h9 => h9) rfl dX0_firstBadConnector_4 ?_
  refine nb_gt (tgt := 63) hx hb dX0_firstBadConnector_7 (by decide) (by omega) (by omega) (fun c7 => ?_) (fun c7 => ?_)
  · refine lv_iconst (v := nI 0) hx hb dX0_firstBadConnector_63 (by decide) ?_
    exact rd_iret hx hb hr (by rw [← hR, show k2 = 0 by omega]; rfl) dX0_firstBadConnector_64 hlocks
  · obtain ⟨k2, rfl⟩ : ∃ z, k2 = z + 1 := ⟨k2 - 1, by omega⟩
    refine lv_aload_n hx hb dX0_firstBadConnector_10 rfl (lv_at hl 1 rfl) ?_
    refine lv_iload_n hx hb dX0_firstBadConnector_11 rfl (lv_at hl 0 rfl) ?_
    refine rd_callV (As := [.int (nI i)]) (rest := []) (b := a 0) (q0 := 0) (ci := 0) ⟨hx, hb, hml, hown, hts⟩ (cx_flatFrom l G cA a V i (by omega)) (cwV 1 hts gX0_firstBadConnector_X0_flatFrom rfl rfl rfl (by decide +kernel) ⟨Nat.le_of_ble_eq_true rfl, Nat.le_of_ble_eq_true rfl⟩) hK hP rfl rfl rfl rfl hl.1 rfl (Nat.le_of_ble_eq_true rfl) dX0_firstBadConnector_12 ⟨Nat.zero_le _, Nat.zero_le _⟩ ?_
    refine lv_lstore_n (lv' := [(3, .long (xFl V i)), (2, .int (nI i)), (0, .ref (a 0)), (1, .int (nI r0))]) hx hb dX0_firstBadConnector_15 rfl hl (by decide) rfl (fun ls hl => ?_)
    refine lv_iconst (v := nI 1) hx hb dX0_firstBadConnector_16 (by decide) ?_
    refine lv_istore (lv' := [(5, .int (nI 1)), (3, .long (xFl V i)), (2, .int (nI i)), (0, .ref (a 0)), (1, .int (nI r0))]) hx hb dX0_firstBadConnector_17 hl (by decide) rfl (fun ls hl => ?_)
    refine rd_loop (fun k ls => ∃ j : Nat, 1 ≤ j ∧ j + k = xnq V + 1 ∧ pu_fst (fun q0 => xF V i q0 && xCB V r0 i q0) k j = pu_fst (fun q0 => xF V i q0 && xCB V r0 i q0) (xnq V) 1 ∧ lv_has ls 6 [(5, .int (nI j)), (3, .long (xFl V i)), (2, .int (nI i)), (0, .ref (a 0)), (1, .int (nI r0))]) ?_ (xnq V) ls ⟨1, by omega, by omega, rfl, (lv_sub hl [0, 1, 2, 3, 4] rfl)⟩
    intro k19 ls ⟨j, hj, hk19, hS, hl⟩ ih19
    refine lv_iload hx hb dX0_firstBadConnector_19 (lv_at hl 0 rfl) ?_
    refine lv_aload_n hx hb dX0_firstBadConnector_21 rfl (lv_at hl 3 rfl) ?_
    refine va_get (D := G) (ci := 0) (v := .int (nI (xnq V))) (C := RX0) (T := TX0) (N := 19) hx hb hts hfi hown hK hP 0 rfl rfl 4 (by decide) (hts (.fieldLink RX0 75 "PortRules" "portCount" "I") (by decide +kernel)) (fun _ h9 => h9) rfl dX0_firstBadConnector_22 ?_
    refine nb_gt (tgt := 57) hx hb dX0_firstBadConnector_25 (by decide) (by omega) (by omega) (fun c25 => ?_) (fun c25 => ?_)
    · refine lv_iinc (v := nI (i + 1)) (lv' := [(2, .int (nI (i + 1))), (5, .int (nI j)), (3, .long (xFl V i)), (0, .ref (a 0)), (1, .int (nI r0))]) hx hb dX0_firstBadConnector_57 hl (k := 2) rfl (ni_inc _) (by decide) rfl (fun ls hl => ?_)
      refine lv_goto (tgt := 2) hx hb dX0_firstBadConnector_60 (by decide) ?_
      exact ih2 k2 ls (by omega) ⟨i + 1, by omega, by omega, (pu_fst2_n (P := (fun p0 q0 => xF V p0 q0 && xCB V r0 p0 q0)) (hS.symm.trans (by rw [show k19 = 0 by omega]; rfl))).symm.trans hR, (lv_sub hl [0, 3, 4] rfl)⟩
    · obtain ⟨k19, rfl⟩ : ∃ z, k19 = z + 1 := ⟨k19 - 1, by omega⟩
      refine lv_lload_n hx hb dX0_firstBadConnector_28 rfl (lv_at hl 1 rfl) ?_
      refine lv_iload hx hb dX0_firstBadConnector_29 (lv_at hl 0 rfl) ?_
      refine rd_callS (As := [.long (xFl V i), .int (nI j)]) (rest := []) ⟨hx, hb, hml, hown, hts⟩ (cx_holds l (xFl V i) j (by omega)) (va_cwS 2 hts gX0_firstBadConnector_X0_holds rfl rfl rfl (by decide +kernel) ⟨Nat.le_of_ble_eq_true rfl, Nat.le_of_ble_eq_true rfl⟩) rfl hl.1 rfl (Nat.le_of_ble_eq_true rfl) dX0_firstBadConnector_31 ⟨Nat.zero_le _, Nat.zero_le _⟩ ?_
      refine bb_eq (tgt := 51) hx hb dX0_firstBadConnector_34 (by decide) (fun c34 => ?_) (fun c34 => ?_)
      · refine lv_iinc (v := nI (j + 1)) (lv' := [(5, .int (nI (j + 1))), (3, .long (xFl V i)), (2, .int (nI i)), (0, .ref (a 0)), (1, .int (nI r0))]) hx hb dX0_firstBadConnector_51 hl (k := 0) rfl (ni_inc _) (by decide) rfl (fun ls hl => ?_)
        refine lv_goto (tgt := 19) hx hb dX0_firstBadConnector_54 (by decide) ?_
        exact ih19 k19 ls (by omega) ⟨j + 1, by omega, by omega, (pu_fst_f (P := (fun q0 => xF V i q0 && xCB V r0 i q0)) (by simp [xF, c34])).symm.trans hS, (lv_sub hl [0, 1, 2, 3, 4] rfl)⟩
      · refine lv_aload_n hx hb dX0_firstBadConnector_37 rfl (lv_at hl 3 rfl) ?_
        refine lv_iload_n hx hb dX0_firstBadConnector_38 rfl (lv_at hl 4 rfl) ?_
        refine lv_iload_n hx hb dX0_firstBadConnector_39 rfl (lv_at hl 2 rfl) ?_
        refine lv_iload hx hb dX0_firstBadConnector_40 (lv_at hl 0 rfl) ?_
        refine rd_callV (As := [.int (nI r0), .int (nI i), .int (nI j)]) (rest := []) (b := a 0) (q0 := 0) (ci := 0) ⟨hx, hb, hml, hown, hts⟩ (cx_connectorBreaks l G cA a V r0 i j h60 (by omega) (by omega) (by omega)) (cwV 3 hts gX0_firstBadConnector_X0_connectorBreaks rfl rfl rfl (by decide +kernel) ⟨Nat.le_of_ble_eq_true rfl, Nat.le_of_ble_eq_true rfl⟩) hK hP rfl rfl rfl rfl hl.1 rfl (Nat.le_of_ble_eq_true rfl) dX0_firstBadConnector_42 ⟨Nat.zero_le _, Nat.zero_le _⟩ ?_
        refine bb_eq (tgt := 51) hx hb dX0_firstBadConnector_45 (by decide) (fun c45 => ?_) (fun c45 => ?_)
        · refine lv_iinc (v := nI (j + 1)) (lv' := [(5, .int (nI (j + 1))), (3, .long (xFl V i)), (2, .int (nI i)), (0, .ref (a 0)), (1, .int (nI r0))]) hx hb dX0_firstBadConnector_51 hl (k := 0) rfl (ni_inc _) (by decide) rfl (fun ls hl => ?_)
          refine lv_goto (tgt := 19) hx hb dX0_firstBadConnector_54 (by decide) ?_
          exact ih19 k19 ls (by omega) ⟨j + 1, by omega, by omega, (pu_fst_f (P := (fun q0 => xF V i q0 && xCB V r0 i q0)) (by simp [xF, c34, c45])).symm.trans hS, (lv_sub hl [0, 1, 2, 3, 4] rfl)⟩
        · refine lv_iload hx hb dX0_firstBadConnector_48 (lv_at hl 0 rfl) ?_
          exact rd_iret hx hb hr (by rw [← hR, pu_fst2_y (P := (fun p0 q0 => xF V p0 q0 && xCB V r0 p0 q0)) (hS.symm.trans (pu_fst_t (P := (fun q0 => xF V i q0 && xCB V r0 i q0)) (by simp [xF, c34, c45]))) (by omega)]) dX0_firstBadConnector_50 hlocks
set_option maxHeartbeats 4000000 in
set_option maxRecDepth 100000 in
theorem cx_bitCount (l : Launch) (x : Int64)  : Met l yJ13_bitCount_95d88 wsJ13_bitCount_95d88 { frames := 0, cells := 0, slots := 0, locals := 0 } (fun v _ => v = ([.long x] : List Value).toArray) (k2_QcV (.int (nI (pu_cnt (lb x) 64 0)))) 0 0 (fun _ => False) := by
  refine Met.ofW (cc := cJ13_bitCount_95d88) (maxL := 2) (ret := some .int) (by decide) rfl ?_
  intro p e s m args below meth c s₁ B hml hv
  obtain rfl := hv
  have hx := B.exec
  have hb := B.bytes
  have hr := B.returns
  have hts := atoms_spec (ws := wsJ13_bitCount_95d88) B.pre
  have hown : s.vm.findClass RJ13 = some m.cls := findClass_of_methodNamed B.named
  have hlocks := B.notSynchronized
  have hl := lv_entry ([.long x]) (n := 2) (Nat.le_of_ble_eq_true rfl)
  rw [lg_entry_eq]
  generalize (lg_sl ([.long x]) ++ List.replicate (2 - (lg_sl ([.long x])).length) Slot.unset).toArray = ls at hl ⊢
  have hl : lv_has ls 2 [(0, .long x)] := hl
  refine lv_lload_n hx hb dJ13_bitCount_95d88_0 rfl (lv_at hl 0 rfl) ?_
  refine lv_lload_n hx hb dJ13_bitCount_95d88_1 rfl (lv_at hl 0 rfl) ?_
  refine lv_iconst (v := 1) hx hb dJ13_bitCount_95d88_2 (by decide) ?_
  refine lv_lushr (v := lsr x 1) hx hb dJ13_bitCount_95d88_3 (rfl) ?_
  refine lv_ldc2 (v := 6148914691236517205) hx hb hown (hts (.constantLong RJ13 314 6148914691236517205) (by decide +kernel)) dJ13_bitCount_95d88_4 ?_
  refine lv_land hx hb dJ13_bitCount_95d88_7 ?_
  refine lv_lsub hx hb dJ13_bitCount_95d88_8 ?_
  refine rd_topl (y := bc1 x) (rfl) ?_
  refine lv_lstore_n (lv' := [(0, .long (bc1 x))]) hx hb dJ13_bitCount_95d88_9 rfl hl (by decide) rfl (fun ls hl => ?_)
  refine lv_lload_n hx hb dJ13_bitCount_95d88_10 rfl (lv_at hl 0 rfl) ?_
  refine lv_ldc2 (v := 3689348814741910323) hx hb hown (hts (.constantLong RJ13 316 3689348814741910323) (by decide +kernel)) dJ13_bitCount_95d88_11 ?_
  refine lv_land hx hb dJ13_bitCount_95d88_14 ?_
  refine lv_lload_n hx hb dJ13_bitCount_95d88_15 rfl (lv_at hl 0 rfl) ?_
  refine lv_iconst (v := 2) hx hb dJ13_bitCount_95d88_16 (by decide) ?_
  refine lv_lushr (v := lsr (bc1 x) 2) hx hb dJ13_bitCount_95d88_17 (rfl) ?_
  refine lv_ldc2 (v := 3689348814741910323) hx hb hown (hts (.constantLong RJ13 316 3689348814741910323) (by decide +kernel)) dJ13_bitCount_95d88_18 ?_
  refine lv_land hx hb dJ13_bitCount_95d88_21 ?_
  refine lv_ladd hx hb dJ13_bitCount_95d88_22 ?_
  refine rd_topl (y := bc2 (bc1 x)) (rfl) ?_
  refine lv_lstore_n (lv' := [(0, .long (bc2 (bc1 x)))]) hx hb dJ13_bitCount_95d88_23 rfl hl (by decide) rfl (fun ls hl => ?_)
  refine lv_lload_n hx hb dJ13_bitCount_95d88_24 rfl (lv_at hl 0 rfl) ?_
  refine lv_lload_n hx hb dJ13_bitCount_95d88_25 rfl (lv_at hl 0 rfl) ?_
  refine lv_iconst (v := 4) hx hb dJ13_bitCount_95d88_26 (by decide) ?_
  refine lv_lushr (v := lsr (bc2 (bc1 x)) 4) hx hb dJ13_bitCount_95d88_27 (rfl) ?_
  refine lv_ladd hx hb dJ13_bitCount_95d88_28 ?_
  refine lv_ldc2 (v := 1085102592571150095) hx hb hown (hts (.constantLong RJ13 318 1085102592571150095) (by decide +kernel)) dJ13_bitCount_95d88_29 ?_
  refine lv_land hx hb dJ13_bitCount_95d88_32 ?_
  refine rd_topl (y := bc3 (bc2 (bc1 x))) (rfl) ?_
  refine lv_lstore_n (lv' := [(0, .long (bc3 (bc2 (bc1 x))))]) hx hb dJ13_bitCount_95d88_33 rfl hl (by decide) rfl (fun ls hl => ?_)
  refine lv_lload_n hx hb dJ13_bitCount_95d88_34 rfl (lv_at hl 0 rfl) ?_
  refine lv_lload_n hx hb dJ13_bitCount_95d88_35 rfl (lv_at hl 0 rfl) ?_
  refine lv_bipush (v := 8) hx hb dJ13_bitCount_95d88_36 (by decide) ?_
  refine lv_lushr (v := lsr (bc3 (bc2 (bc1 x))) 8) hx hb dJ13_bitCount_95d88_38 (rfl) ?_
  refine lv_ladd hx hb dJ13_bitCount_95d88_39 ?_
  refine rd_topl (y := bc4 (bc3 (bc2 (bc1 x)))) (rfl) ?_
  refine lv_lstore_n (lv' := [(0, .long (bc4 (bc3 (bc2 (bc1 x)))))]) hx hb dJ13_bitCount_95d88_40 rfl hl (by decide) rfl (fun ls hl => ?_)
  refine lv_lload_n hx hb dJ13_bitCount_95d88_41 rfl (lv_at hl 0 rfl) ?_
  refine lv_lload_n hx hb dJ13_bitCount_95d88_42 rfl (lv_at hl 0 rfl) ?_
  refine lv_bipush (v := 16) hx hb dJ13_bitCount_95d88_43 (by decide) ?_
  refine lv_lushr (v := lsr (bc4 (bc3 (bc2 (bc1 x)))) 16) hx hb dJ13_bitCount_95d88_45 (rfl) ?_
  refine lv_ladd hx hb dJ13_bitCount_95d88_46 ?_
  refine rd_topl (y := bc5 (bc4 (bc3 (bc2 (bc1 x))))) (rfl) ?_
  refine lv_lstore_n (lv' := [(0, .long (bc5 (bc4 (bc3 (bc2 (bc1 x))))))]) hx hb dJ13_bitCount_95d88_47 rfl hl (by decide) rfl (fun ls hl => ?_)
  refine lv_lload_n hx hb dJ13_bitCount_95d88_48 rfl (lv_at hl 0 rfl) ?_
  refine lv_lload_n hx hb dJ13_bitCount_95d88_49 rfl (lv_at hl 0 rfl) ?_
  refine lv_bipush (v := 32) hx hb dJ13_bitCount_95d88_50 (by decide) ?_
  refine lv_lushr (v := lsr (bc5 (bc4 (bc3 (bc2 (bc1 x))))) 32) hx hb dJ13_bitCount_95d88_52 (rfl) ?_
  refine lv_ladd hx hb dJ13_bitCount_95d88_53 ?_
  refine rd_topl (y := bc6 (bc5 (bc4 (bc3 (bc2 (bc1 x)))))) (rfl) ?_
  refine lv_lstore_n (lv' := [(0, .long (bc6 (bc5 (bc4 (bc3 (bc2 (bc1 x)))))))]) hx hb dJ13_bitCount_95d88_54 rfl hl (by decide) rfl (fun ls hl => ?_)
  refine lv_lload_n hx hb dJ13_bitCount_95d88_55 rfl (lv_at hl 0 rfl) ?_
  refine lv_l2i (v := (bc6 (bc5 (bc4 (bc3 (bc2 (bc1 x)))))).toInt32) hx hb dJ13_bitCount_95d88_56 rfl ?_
  refine lv_bipush (v := 127) hx hb dJ13_bitCount_95d88_57 (by decide) ?_
  refine lv_iand hx hb dJ13_bitCount_95d88_59 ?_
  exact rd_iret hx hb hr (bcv_ok x) dJ13_bitCount_95d88_60 hlocks
set_option maxHeartbeats 4000000 in
set_option maxRecDepth 100000 in
theorem cx_flatten (l : Launch) (G : va_G) (cA : Nat → ClassId) (a : Nat → Nat) (V : XV)  (h60 : xnq V ≤ 60) : Met l yX0_flatten wsX0_flatten { frames := 3, cells := 0, slots := 0, locals := 63 } (rd_Pc G vwC2 (tT cA) (xW cA a V) [.ref (a 0)]) (k2_QcV (.int (nI (xAll V)))) 0 0 (fun _ => False) := by
  refine Met.ofW (cc := cX0_flatten) (maxL := 3) (ret := some .int) (by decide) rfl ?_
  intro p e s m args below meth c s₁ B hml hv
  obtain ⟨rfl, hP, hK⟩ := hv
  have hx := B.exec
  have hb := B.bytes
  have hr := B.returns
  have hts := atoms_spec (ws := wsX0_flatten) B.pre
  have hown : s.vm.findClass RX0 = some m.cls := findClass_of_methodNamed B.named
  have hlocks := B.notSynchronized
  have hfi : ∀ w ∈ u_ws RX0 TX0 19, w ∈ wsX0_flatten := by decide +kernel
  have hl := lv_entry ([.ref (a 0)]) (n := 3) (Nat.le_of_ble_eq_true rfl)
  rw [lg_entry_eq]
  generalize (lg_sl ([.ref (a 0)]) ++ List.replicate (3 - (lg_sl ([.ref (a 0)])).length) Slot.unset).toArray = ls at hl ⊢
  have hl : lv_has ls 3 [(0, .ref (a 0))] := hl
  refine lv_iconst (v := nI 0) hx hb dX0_flatten_0 (by decide) ?_
  refine lv_istore_n (lv' := [(1, .int (nI 0)), (0, .ref (a 0))]) hx hb dX0_flatten_1 rfl hl (by decide) rfl (fun ls hl => ?_)
  refine lv_iconst (v := nI 1) hx hb dX0_flatten_2 (by decide) ?_
  refine lv_istore_n (lv' := [(2, .int (nI 1)), (1, .int (nI 0)), (0, .ref (a 0))]) hx hb dX0_flatten_3 rfl hl (by decide) rfl (fun ls hl => ?_)
  refine rd_loop (fun k ls => ∃ i n : Nat, 1 ≤ i ∧ i + k = xnq V + 1 ∧ n + pu_sum (fun p0 => pu_cnt (lb (xFl V p0)) 64 0) k i = xAll V ∧ lv_has ls 3 [(2, .int (nI i)), (1, .int (nI n)), (0, .ref (a 0))]) ?_ (xnq V) ls ⟨1, 0, by omega, by omega, Nat.zero_add _, (lv_sub hl [0, 1, 2] rfl)⟩
  intro k4 ls ⟨i, n, hi, hk, hR, hl⟩ ih4
  refine lv_iload_n hx hb dX0_flatten_4 rfl (lv_at hl 0 rfl) ?_
  refine lv_aload_n hx hb dX0_flatten_5 rfl (lv_at hl 2 rfl) ?_
  refine va_get (D := G) (ci := 0) (v := .int (nI (xnq V))) (C := RX0) (T := TX0) (N := 19) hx hb hts hfi hown hK hP 0 rfl rfl 4 (by decide) (hts (.fieldLink RX0 75 "PortRules" "portCount" "I") (by decide +kernel)) (fun _ h9 => h9) rfl dX0_flatten_6 ?_
  refine nb_gt (tgt := 29) hx hb dX0_flatten_9 (by decide) (by omega) (by omega) (fun c9 => ?_) (fun c9 => ?_)
  · refine lv_iload_n hx hb dX0_flatten_29 rfl (lv_at hl 1 rfl) ?_
    exact rd_iret hx hb hr (by rw [← hR, show k4 = 0 by omega]; rfl) dX0_flatten_30 hlocks
  · obtain ⟨k4, rfl⟩ : ∃ z, k4 = z + 1 := ⟨k4 - 1, by omega⟩
    refine lv_iload_n hx hb dX0_flatten_12 rfl (lv_at hl 1 rfl) ?_
    refine lv_aload_n hx hb dX0_flatten_13 rfl (lv_at hl 2 rfl) ?_
    refine lv_iload_n hx hb dX0_flatten_14 rfl (lv_at hl 0 rfl) ?_
    refine rd_callV (As := [.int (nI i)]) (rest := [.int (nI n)]) (b := a 0) (q0 := 0) (ci := 0) ⟨hx, hb, hml, hown, hts⟩ (cx_flatFrom l G cA a V i (by omega)) (cwV 1 hts gX0_flatten_X0_flatFrom rfl rfl rfl (by decide +kernel) ⟨Nat.le_of_ble_eq_true rfl, Nat.le_of_ble_eq_true rfl⟩) hK hP rfl rfl rfl rfl hl.1 rfl (Nat.le_of_ble_eq_true rfl) dX0_flatten_15 ⟨Nat.zero_le _, Nat.zero_le _⟩ ?_
    refine rd_callS (As := [.long (xFl V i)]) (rest := [.int (nI n)]) ⟨hx, hb, hml, hown, hts⟩ (cx_bitCount l (xFl V i)) (va_cwS 1 hts gX0_flatten_J13_bitCount_95d88 rfl rfl rfl (by decide +kernel) ⟨Nat.le_of_ble_eq_true rfl, Nat.le_of_ble_eq_true rfl⟩) rfl hl.1 rfl (Nat.le_of_ble_eq_true rfl) dX0_flatten_18 ⟨Nat.zero_le _, Nat.zero_le _⟩ ?_
    refine lv_iadd hx hb dX0_flatten_21 ?_
    refine rd_topi (y := nI (n + pu_cnt (lb (xFl V i)) 64 0)) (nI_add _ _) ?_
    refine lv_istore_n (lv' := [(1, .int (nI (n + pu_cnt (lb (xFl V i)) 64 0))), (2, .int (nI i)), (0, .ref (a 0))]) hx hb dX0_flatten_22 rfl hl (by decide) rfl (fun ls hl => ?_)
    refine lv_iinc (v := nI (i + 1)) (lv' := [(2, .int (nI (i + 1))), (1, .int (nI (n + pu_cnt (lb (xFl V i)) 64 0))), (0, .ref (a 0))]) hx hb dX0_flatten_23 hl (k := 1) rfl (ni_inc _) (by decide) rfl (fun ls hl => ?_)
    refine lv_goto (tgt := 4) hx hb dX0_flatten_26 (by decide) ?_
    exact ih4 k4 ls (by omega) ⟨i + 1, n + pu_cnt (lb (xFl V i)) 64 0, by omega, by omega, by simp only [pu_sum] at hR; omega, (lv_sub hl [0, 1, 2] rfl)⟩
set_option maxHeartbeats 4000000 in
set_option maxRecDepth 100000 in
theorem cx_check (l : Launch) (G : va_G) (cA : Nat → ClassId) (a : Nat → Nat) (V : XV)  (h60 : xnq V ≤ 60) : Met l yX0_check wsX0_check { frames := 6, cells := 0, slots := 0, locals := 131 } (rd_Pc G vwC2 (tT cA) (xW cA a V) [.ref (a 0)]) (k2_QcV (.int (nI (xChk V)))) 0 0 (fun _ => False) := by
  refine Met.ofW (cc := cX0_check) (maxL := 3) (ret := some .int) (by decide) rfl ?_
  intro p e s m args below meth c s₁ B hml hv
  obtain ⟨rfl, hP, hK⟩ := hv
  have hx := B.exec
  have hb := B.bytes
  have hr := B.returns
  have hts := atoms_spec (ws := wsX0_check) B.pre
  have hown : s.vm.findClass RX0 = some m.cls := findClass_of_methodNamed B.named
  have hlocks := B.notSynchronized
  have hl := lv_entry ([.ref (a 0)]) (n := 3) (Nat.le_of_ble_eq_true rfl)
  rw [lg_entry_eq]
  generalize (lg_sl ([.ref (a 0)]) ++ List.replicate (3 - (lg_sl ([.ref (a 0)])).length) Slot.unset).toArray = ls at hl ⊢
  have hl : lv_has ls 3 [(0, .ref (a 0))] := hl
  refine lv_iconst (v := nI 1) hx hb dX0_check_0 (by decide) ?_
  refine lv_istore_n (lv' := [(1, .int (nI 1)), (0, .ref (a 0))]) hx hb dX0_check_1 rfl hl (by decide) rfl (fun ls hl => ?_)
  refine rd_loop (fun k ls => ∃ r0 : Nat, 1 ≤ r0 ∧ r0 + k = 10 ∧ pu_chk (fun r0 => if 5 ≤ r0 ∧ r0 ≤ 8 then xBP V r0 else xBC V r0) k r0 = xChk V ∧ lv_has ls 3 [(1, .int (nI r0)), (0, .ref (a 0))]) ?_ 9 ls ⟨1, by omega, by omega, rfl, (lv_sub hl [0, 1] rfl)⟩
  intro k2 ls ⟨r0, hr1, hk, hR, hl⟩ ih2
  refine lv_iload_n hx hb dX0_check_2 rfl (lv_at hl 0 rfl) ?_
  refine lv_bipush (v := nI 9) hx hb dX0_check_3 (by decide) ?_
  refine nb_gt (tgt := 47) hx hb dX0_check_5 (by decide) (by omega) (by omega) (fun c5 => ?_) (fun c5 => ?_)
  · refine lv_iconst (v := nI 0) hx hb dX0_check_47 (by decide) ?_
    exact rd_iret hx hb hr (by rw [← hR, show k2 = 0 by omega]; rfl) dX0_check_48 hlocks
  · obtain ⟨k2, rfl⟩ : ∃ z, k2 = z + 1 := ⟨k2 - 1, by omega⟩
    refine lv_iload_n hx hb dX0_check_8 rfl (lv_at hl 0 rfl) ?_
    refine rd_callS (As := [.int (nI r0)]) (rest := []) ⟨hx, hb, hml, hown, hts⟩ (cx_isPortRule l r0 (by omega)) (va_cwS 1 hts gX0_check_X0_isPortRule rfl rfl rfl (by decide +kernel) ⟨Nat.le_of_ble_eq_true rfl, Nat.le_of_ble_eq_true rfl⟩) rfl hl.1 rfl (Nat.le_of_ble_eq_true rfl) dX0_check_9 ⟨Nat.zero_le _, Nat.zero_le _⟩ ?_
    refine bb_eq (tgt := 23) hx hb dX0_check_12 (by decide) (fun c12 => ?_) (fun c12 => ?_)
    · refine lv_aload_n hx hb dX0_check_23 rfl (lv_at hl 1 rfl) ?_
      refine lv_iload_n hx hb dX0_check_24 rfl (lv_at hl 0 rfl) ?_
      refine rd_callV (As := [.int (nI r0)]) (rest := []) (b := a 0) (q0 := 0) (ci := 0) ⟨hx, hb, hml, hown, hts⟩ (cx_firstBadConnector l G cA a V r0 h60 (by omega)) (cwV 1 hts gX0_check_X0_firstBadConnector rfl rfl rfl (by decide +kernel) ⟨Nat.le_of_ble_eq_true rfl, Nat.le_of_ble_eq_true rfl⟩) hK hP rfl rfl rfl rfl hl.1 rfl (Nat.le_of_ble_eq_true rfl) dX0_check_25 ⟨Nat.zero_le _, Nat.zero_le _⟩ ?_
      refine lv_istore_n (lv' := [(2, .int (nI (xBC V r0))), (1, .int (nI r0)), (0, .ref (a 0))]) hx hb dX0_check_28 rfl hl (by decide) rfl (fun ls hl => ?_)
      refine lv_iload_n hx hb dX0_check_29 rfl (lv_at hl 0 rfl) ?_
      refine bn_eq (tgt := 41) hx hb dX0_check_30 (by decide) (by have h1 := xBP_le V r0; have h2 := xBC_le V r0; omega) (fun c30 => ?_) (fun c30 => ?_)
      · refine lv_iinc (v := nI (r0 + 1)) (lv' := [(1, .int (nI (r0 + 1))), (2, .int (nI (xBC V r0))), (0, .ref (a 0))]) hx hb dX0_check_41 hl (k := 1) rfl (ni_inc _) (by decide) rfl (fun ls hl => ?_)
        refine lv_goto (tgt := 2) hx hb dX0_check_44 (by decide) ?_
        exact ih2 k2 ls (by omega) ⟨r0 + 1, by omega, by omega, (pu_chk_n (b := (fun r0 => if 5 ≤ r0 ∧ r0 ≤ 8 then xBP V r0 else xBC V r0)) (Eq.trans (if_neg (by simpa using c12)) c30)).symm.trans hR, (lv_sub hl [0, 2] rfl)⟩
      · refine lv_sipush (v := nI 1000) hx hb dX0_check_33 (by decide) ?_
        refine lv_iload_n hx hb dX0_check_36 rfl (lv_at hl 1 rfl) ?_
        refine lv_imul hx hb dX0_check_37 ?_
        refine rd_topi (y := nI (1000 * r0)) (pk_mul _ _) ?_
        refine lv_iload_n hx hb dX0_check_38 rfl (lv_at hl 0 rfl) ?_
        refine lv_iadd hx hb dX0_check_39 ?_
        refine rd_topi (y := nI (1000 * r0 + xBC V r0)) (nI_add _ _) ?_
        exact rd_iret hx hb hr (by rw [← hR, pu_chk_y (b := (fun r0 => if 5 ≤ r0 ∧ r0 ≤ 8 then xBP V r0 else xBC V r0)) (z := xBC V r0) (if_neg (by simpa using c12)) c30]) dX0_check_40 hlocks
    · refine lv_aload_n hx hb dX0_check_15 rfl (lv_at hl 1 rfl) ?_
      refine lv_iload_n hx hb dX0_check_16 rfl (lv_at hl 0 rfl) ?_
      refine rd_callV (As := [.int (nI r0)]) (rest := []) (b := a 0) (q0 := 0) (ci := 0) ⟨hx, hb, hml, hown, hts⟩ (cx_firstBadPort l G cA a V r0 h60 (by omega)) (cwV 1 hts gX0_check_X0_firstBadPort rfl rfl rfl (by decide +kernel) ⟨Nat.le_of_ble_eq_true rfl, Nat.le_of_ble_eq_true rfl⟩) hK hP rfl rfl rfl rfl hl.1 rfl (Nat.le_of_ble_eq_true rfl) dX0_check_17 ⟨Nat.zero_le _, Nat.zero_le _⟩ ?_
      refine lv_goto (tgt := 28) hx hb dX0_check_20 (by decide) ?_
      refine lv_istore_n (lv' := [(2, .int (nI (xBP V r0))), (1, .int (nI r0)), (0, .ref (a 0))]) hx hb dX0_check_28 rfl hl (by decide) rfl (fun ls hl => ?_)
      refine lv_iload_n hx hb dX0_check_29 rfl (lv_at hl 0 rfl) ?_
      refine bn_eq (tgt := 41) hx hb dX0_check_30 (by decide) (by have h1 := xBP_le V r0; have h2 := xBC_le V r0; omega) (fun c30 => ?_) (fun c30 => ?_)
      · refine lv_iinc (v := nI (r0 + 1)) (lv' := [(1, .int (nI (r0 + 1))), (2, .int (nI (xBP V r0))), (0, .ref (a 0))]) hx hb dX0_check_41 hl (k := 1) rfl (ni_inc _) (by decide) rfl (fun ls hl => ?_)
        refine lv_goto (tgt := 2) hx hb dX0_check_44 (by decide) ?_
        exact ih2 k2 ls (by omega) ⟨r0 + 1, by omega, by omega, (pu_chk_n (b := (fun r0 => if 5 ≤ r0 ∧ r0 ≤ 8 then xBP V r0 else xBC V r0)) (Eq.trans (if_pos (by simpa using c12)) c30)).symm.trans hR, (lv_sub hl [0, 2] rfl)⟩
      · refine lv_sipush (v := nI 1000) hx hb dX0_check_33 (by decide) ?_
        refine lv_iload_n hx hb dX0_check_36 rfl (lv_at hl 1 rfl) ?_
        refine lv_imul hx hb dX0_check_37 ?_
        refine rd_topi (y := nI (1000 * r0)) (pk_mul _ _) ?_
        refine lv_iload_n hx hb dX0_check_38 rfl (lv_at hl 0 rfl) ?_
        refine lv_iadd hx hb dX0_check_39 ?_
        refine rd_topi (y := nI (1000 * r0 + xBP V r0)) (nI_add _ _) ?_
        exact rd_iret hx hb hr (by rw [← hR, pu_chk_y (b := (fun r0 => if 5 ≤ r0 ∧ r0 ≤ 8 then xBP V r0 else xBC V r0)) (z := xBP V r0) (if_pos (by simpa using c12)) c30]) dX0_check_40 hlocks
set_option maxHeartbeats 4000000 in
set_option maxRecDepth 100000 in
theorem cx_open (l : Launch) (G : va_G) (cA : Nat → ClassId) (a : Nat → Nat) (V : XV) (x : Int32) (h60 : xnq V ≤ 60) : Met l yX0_open wsX0_open { frames := 4, cells := 0, slots := 0, locals := 86 } (rd_Pc G vwC2 (tT cA) (xW cA a V) [.ref (a 0), .int x]) (k2_QcV (.int (if x.toInt < 0 then 0 else nI (xOp V x.toNatClampNeg)))) 0 0 (fun _ => False) := by
  refine Met.ofW (cc := cX0_open) (maxL := 2) (ret := some .int) (by decide) rfl ?_
  intro p e s m args below meth c s₁ B hml hv
  obtain ⟨rfl, hP, hK⟩ := hv
  have hx := B.exec
  have hb := B.bytes
  have hr := B.returns
  have hts := atoms_spec (ws := wsX0_open) B.pre
  have hown : s.vm.findClass RX0 = some m.cls := findClass_of_methodNamed B.named
  have hlocks := B.notSynchronized
  have hfi : ∀ w ∈ u_ws RX0 TX0 19, w ∈ wsX0_open := by decide +kernel
  have hl := lv_entry ([.ref (a 0), .int x]) (n := 2) (Nat.le_of_ble_eq_true rfl)
  rw [lg_entry_eq]
  generalize (lg_sl ([.ref (a 0), .int x]) ++ List.replicate (2 - (lg_sl ([.ref (a 0), .int x])).length) Slot.unset).toArray = ls at hl ⊢
  have hl : lv_has ls 2 [(0, .ref (a 0)), (1, .int x)] := hl
  refine lv_iload_n hx hb dX0_open_0 rfl (lv_at hl 1 rfl) ?_
  refine bz_ge (a := x.toInt) (tgt := 8) hx hb dX0_open_1 (by decide) rfl (fun c1 => ?_) (fun c1 => ?_)
  · obtain ⟨t, ht, rfl⟩ := ni_pos c1
    refine lv_aload_n hx hb dX0_open_8 rfl (lv_at hl 0 rfl) ?_
    refine lv_aload_n hx hb dX0_open_9 rfl (lv_at hl 0 rfl) ?_
    refine va_get (D := G) (ci := 0) (v := .long (xar V)) (C := RX0) (T := TX0) (N := 19) hx hb hts hfi hown hK hP 0 rfl rfl 18 (by decide) (hts (.fieldLink RX0 134 "PortRules" "atomicRequired" "J") (by decide +kernel)) (fun _ h9 => h9) rfl dX0_open_10 ?_
    refine lv_aload_n hx hb dX0_open_13 rfl (lv_at hl 0 rfl) ?_
    refine rd_callV (As := []) (rest := [.long (xar V), .ref (a 0)]) (b := a 0) (q0 := 0) (ci := 0) ⟨hx, hb, hml, hown, hts⟩ (cx_flatSeconds l G cA a V h60) (cwV 0 hts gX0_open_X0_flatSeconds rfl rfl rfl (by decide +kernel) ⟨Nat.le_of_ble_eq_true rfl, Nat.le_of_ble_eq_true rfl⟩) hK hP rfl rfl rfl rfl hl.1 rfl (Nat.le_of_ble_eq_true rfl) dX0_open_14 ⟨Nat.zero_le _, Nat.zero_le _⟩ ?_
    refine lv_ldc2 (v := -1) hx hb hown (hts (.constantLong RX0 142 (-1)) (by decide +kernel)) dX0_open_17 ?_
    refine lv_lxor hx hb dX0_open_20 ?_
    refine lv_land hx hb dX0_open_21 ?_
    refine lv_iload_n hx hb dX0_open_22 rfl (lv_at hl 1 rfl) ?_
    refine rd_callV (As := [.long ((xar V) &&& ((xSec V) ^^^ (-1))), .int (nI t)]) (rest := []) (b := a 0) (q0 := 0) (ci := 0) ⟨hx, hb, hml, hown, hts⟩ (cx_nthPort l G cA a V ((xar V) &&& ((xSec V) ^^^ (-1))) t h60 (by omega)) (cwV 2 hts gX0_open_X0_nthPort rfl rfl rfl (by decide +kernel) ⟨Nat.le_of_ble_eq_true rfl, Nat.le_of_ble_eq_true rfl⟩) hK hP rfl rfl rfl rfl hl.1 rfl (Nat.le_of_ble_eq_true rfl) dX0_open_23 ⟨Nat.zero_le _, Nat.zero_le _⟩ ?_
    exact rd_iret hx hb hr (by rw [if_neg (by rw [nI_toInt ht]; omega), nI_clamp ht]; rfl) dX0_open_26 hlocks
  · refine lv_iconst (v := 0) hx hb dX0_open_4 (by decide) ?_
    refine lv_goto (tgt := 26) hx hb dX0_open_5 (by decide) ?_
    exact rd_iret hx hb hr ((if_pos c1).symm) dX0_open_26 hlocks
end
section
/-! NAMES of M (PortRulesModel): methods, words, decode rows: by program out of the tables and the listing -/
abbrev cM_init : ByteArray := prog_3_method_1_code
def yM_init : MethodName := ⟨RX1, "<init>", "()V"⟩
abbrev cM_thrown : ByteArray := prog_3_method_2_code
def yM_thrown : MethodName := ⟨RX1, "thrown", "()I"⟩
abbrev cM_part : ByteArray := prog_3_method_4_code
def yM_part : MethodName := ⟨RX1, "part", "(I)I"⟩
abbrev cM_isIn : ByteArray := prog_3_method_3_code
def yM_isIn : MethodName := ⟨RX1, "isIn", "(JJJ)Z"⟩
abbrev cM_port : ByteArray := prog_3_method_5_code
def yM_port : MethodName := ⟨RX1, "port", "(IIZ)I"⟩
abbrev cM_unit : ByteArray := prog_3_method_7_code
def yM_unit : MethodName := ⟨RX1, "unit", "(IIJJ)I"⟩
abbrev cM_isPort : ByteArray := prog_3_method_6_code
def yM_isPort : MethodName := ⟨RX1, "isPort", "(I)Z"⟩
abbrev cM_connect : ByteArray := prog_3_method_9_code
def yM_connect : MethodName := ⟨RX1, "connect", "(II)I"⟩
abbrev cM_isWay : ByteArray := prog_3_method_8_code
def yM_isWay : MethodName := ⟨RX1, "isWay", "(II)Z"⟩
abbrev cM_flatten : ByteArray := prog_3_method_14_code
def yM_flatten : MethodName := ⟨RX1, "flatten", "()I"⟩
abbrev cM_flat : ByteArray := prog_3_method_13_code
def yM_flat : MethodName := ⟨RX1, "flat", "(I)I"⟩
abbrev cM_know : ByteArray := prog_3_method_10_code
def yM_know : MethodName := ⟨RX1, "know", "()V"⟩
abbrev cM_isFlat : ByteArray := prog_3_method_12_code
def yM_isFlat : MethodName := ⟨RX1, "isFlat", "(II)Z"⟩
abbrev cM_isAtomic : ByteArray := prog_3_method_11_code
def yM_isAtomic : MethodName := ⟨RX1, "isAtomic", "(I)Z"⟩
abbrev cM_at : ByteArray := prog_3_method_15_code
def yM_at : MethodName := ⟨RX1, "at", "(II)I"⟩
abbrev cM_check : ByteArray := prog_3_method_21_code
def yM_check : MethodName := ⟨RX1, "check", "()I"⟩
abbrev cM_isReading : ByteArray := prog_3_method_20_code
def yM_isReading : MethodName := ⟨RX1, "isReading", "(I)Z"⟩
abbrev cM_isBrokenAt : ByteArray := prog_3_method_19_code
def yM_isBrokenAt : MethodName := ⟨RX1, "isBrokenAt", "(II)Z"⟩
abbrev cM_leadTo : ByteArray := prog_3_method_18_code
def yM_leadTo : MethodName := ⟨RX1, "leadTo", "(I)I"⟩
abbrev cM_isBroken : ByteArray := prog_3_method_17_code
def yM_isBroken : MethodName := ⟨RX1, "isBroken", "(III)Z"⟩
abbrev cM_isManaging : ByteArray := prog_3_method_16_code
def yM_isManaging : MethodName := ⟨RX1, "isManaging", "(I)Z"⟩
abbrev cM_manager : ByteArray := prog_3_method_22_code
def yM_manager : MethodName := ⟨RX1, "manager", "(II)I"⟩
abbrev cM_fallback : ByteArray := prog_3_method_23_code
def yM_fallback : MethodName := ⟨RX1, "fallback", "(II)I"⟩
abbrev cM_queue : ByteArray := prog_3_method_24_code
def yM_queue : MethodName := ⟨RX1, "queue", "(II)I"⟩
abbrev cM_version : ByteArray := prog_3_method_25_code
def yM_version : MethodName := ⟨RX1, "version", "(II)I"⟩
abbrev cM_open : ByteArray := prog_3_method_26_code
def yM_open : MethodName := ⟨RX1, "open", "(I)I"⟩
def wMA : List Cond := [Cond.initialized RX1, Cond.methodLink RX1 1 objectInit, Cond.instanceMethod objectInit, Cond.code objectInit ⟨#[0xb1]⟩ 1 none, Cond.arrayClass .int, Cond.arrayClass .boolean, Cond.arrayClass .long, Cond.methodLink RX1 61 yM_isIn, Cond.methodLink RX1 74 yM_isPort, Cond.methodLink RX1 82 yM_isWay, Cond.methodLink RX1 95 yM_flat, Cond.methodLink RX1 89 yM_know, Cond.methodLink RX1 92 yM_isFlat, Cond.methodLink RX1 86 yM_isAtomic, Cond.methodLink RX1 105 yM_isReading, Cond.methodLink RX1 108 yM_isBrokenAt, Cond.methodLink RX1 102 yM_leadTo, Cond.methodLink RX1 111 yM_isBroken, Cond.methodLink RX1 99 yM_isManaging, Cond.instanceMethod yM_init, Cond.code yM_init cM_init 1 none, Cond.instanceMethod yM_thrown, Cond.selects RX1 yM_thrown yM_thrown, Cond.code yM_thrown cM_thrown 1 (some .int), Cond.instanceMethod yM_part, Cond.selects RX1 yM_part yM_part, Cond.code yM_part cM_part 2 (some .int), Cond.static yM_isIn, Cond.code yM_isIn cM_isIn 6 (some .boolean), Cond.instanceMethod yM_port, Cond.selects RX1 yM_port yM_port, Cond.code yM_port cM_port 4 (some .int), Cond.instanceMethod yM_unit, Cond.selects RX1 yM_unit yM_unit, Cond.code yM_unit cM_unit 7 (some .int), Cond.instanceMethod yM_isPort, Cond.selects RX1 yM_isPort yM_isPort, Cond.code yM_isPort cM_isPort 2 (some .boolean), Cond.instanceMethod yM_connect, Cond.selects RX1 yM_connect yM_connect, Cond.code yM_connect cM_connect 3 (some .int), Cond.instanceMethod yM_isWay, Cond.selects RX1 yM_isWay yM_isWay, Cond.code yM_isWay cM_isWay 5 (some .boolean), Cond.instanceMethod yM_flatten, Cond.selects RX1 yM_flatten yM_flatten, Cond.code yM_flatten cM_flatten 1 (some .int), Cond.instanceMethod yM_flat, Cond.selects RX1 yM_flat yM_flat, Cond.code yM_flat cM_flat 5 (some .int), Cond.instanceMethod yM_know, Cond.selects RX1 yM_know yM_know, Cond.code yM_know cM_know 4 none, Cond.instanceMethod yM_isFlat, Cond.selects RX1 yM_isFlat yM_isFlat, Cond.code yM_isFlat cM_isFlat 3 (some .boolean), Cond.instanceMethod yM_isAtomic, Cond.selects RX1 yM_isAtomic yM_isAtomic, Cond.code yM_isAtomic cM_isAtomic 4 (some .boolean), Cond.instanceMethod yM_at, Cond.selects RX1 yM_at yM_at, Cond.code yM_at cM_at 4 (some .int), Cond.instanceMethod yM_check, Cond.selects RX1 yM_check yM_check, Cond.code yM_check cM_check 4 (some .int), Cond.instanceMethod yM_isReading, Cond.selects RX1 yM_isReading yM_isReading, Cond.code yM_isReading cM_isReading 2 (some .boolean), Cond.instanceMethod yM_isBrokenAt, Cond.selects RX1 yM_isBrokenAt yM_isBrokenAt, Cond.code yM_isBrokenAt cM_isBrokenAt 4 (some .boolean), Cond.instanceMethod yM_leadTo, Cond.selects RX1 yM_leadTo yM_leadTo, Cond.code yM_leadTo cM_leadTo 4 (some .int), Cond.instanceMethod yM_isBroken, Cond.selects RX1 yM_isBroken yM_isBroken, Cond.code yM_isBroken cM_isBroken 5 (some .boolean), Cond.instanceMethod yM_isManaging, Cond.selects RX1 yM_isManaging yM_isManaging, Cond.code yM_isManaging cM_isManaging 4 (some .boolean), Cond.instanceMethod yM_manager, Cond.selects RX1 yM_manager yM_manager, Cond.code yM_manager cM_manager 3 (some .int), Cond.instanceMethod yM_fallback, Cond.selects RX1 yM_fallback yM_fallback, Cond.code yM_fallback cM_fallback 4 (some .int), Cond.instanceMethod yM_queue, Cond.selects RX1 yM_queue yM_queue, Cond.code yM_queue cM_queue 3 (some .int), Cond.instanceMethod yM_version, Cond.selects RX1 yM_version yM_version, Cond.code yM_version cM_version 3 (some .int), Cond.instanceMethod yM_open, Cond.selects RX1 yM_open yM_open, Cond.code yM_open cM_open 4 (some .int), Cond.fieldLink RX1 54 "PortRulesModel" "code" "I", Cond.fieldLink RX1 58 "PortRulesModel" "parts" "I", Cond.fieldLink RX1 7 "PortRulesModel" "in" "[I", Cond.fieldLink RX1 71 "PortRulesModel" "ports" "I", Cond.fieldLink RX1 13 "PortRulesModel" "partOf" "[I", Cond.fieldLink RX1 16 "PortRulesModel" "kindOf" "[I", Cond.fieldLink RX1 19 "PortRulesModel" "provides" "[Z", Cond.fieldLink RX1 23 "PortRulesModel" "unit" "[I", Cond.fieldLink RX1 26 "PortRulesModel" "up" "[J", Cond.fieldLink RX1 30 "PortRulesModel" "down" "[J", Cond.fieldLink RX1 33 "PortRulesModel" "version" "[I", Cond.fieldLink RX1 36 "PortRulesModel" "hasFallback" "[Z", Cond.fieldLink RX1 39 "PortRulesModel" "fallback" "[I", Cond.fieldLink RX1 42 "PortRulesModel" "queue" "[I", Cond.fieldLink RX1 45 "PortRulesModel" "manager" "[I", Cond.fieldLink RX1 48 "PortRulesModel" "leads" "[Z", Cond.fieldLink RX1 51 "PortRulesModel" "reaches" "[Z", Cond.fieldLink RX1 65 "PortRulesModel" "known" "Z", Cond.constantLong RX1 69 (3), Cond.constantLong RX1 78 (20), Cond.constantLong RX1 80 (1000), Cond.constantLong RX1 115 (9), Cond.constantLong RX1 117 (100), Cond.constantLong RX1 119 (9999)] ++ u_ws RX1 TM 18
def wsM_init : List Cond := .code yM_init cM_init 1 none :: wMA
def wsM_thrown : List Cond := .code yM_thrown cM_thrown 1 (some .int) :: wMA
def wsM_part : List Cond := .code yM_part cM_part 2 (some .int) :: wMA
def wsM_isIn : List Cond := .code yM_isIn cM_isIn 6 (some .boolean) :: wMA
def wsM_port : List Cond := .code yM_port cM_port 4 (some .int) :: wMA
def wsM_unit : List Cond := .code yM_unit cM_unit 7 (some .int) :: wMA
def wsM_isPort : List Cond := .code yM_isPort cM_isPort 2 (some .boolean) :: wMA
def wsM_connect : List Cond := .code yM_connect cM_connect 3 (some .int) :: wMA
def wsM_isWay : List Cond := .code yM_isWay cM_isWay 5 (some .boolean) :: wMA
def wsM_flatten : List Cond := .code yM_flatten cM_flatten 1 (some .int) :: wMA
def wsM_flat : List Cond := .code yM_flat cM_flat 5 (some .int) :: wMA
def wsM_know : List Cond := .code yM_know cM_know 4 none :: wMA
def wsM_isFlat : List Cond := .code yM_isFlat cM_isFlat 3 (some .boolean) :: wMA
def wsM_isAtomic : List Cond := .code yM_isAtomic cM_isAtomic 4 (some .boolean) :: wMA
def wsM_at : List Cond := .code yM_at cM_at 4 (some .int) :: wMA
def wsM_check : List Cond := .code yM_check cM_check 4 (some .int) :: wMA
def wsM_isReading : List Cond := .code yM_isReading cM_isReading 2 (some .boolean) :: wMA
def wsM_isBrokenAt : List Cond := .code yM_isBrokenAt cM_isBrokenAt 4 (some .boolean) :: wMA
def wsM_leadTo : List Cond := .code yM_leadTo cM_leadTo 4 (some .int) :: wMA
def wsM_isBroken : List Cond := .code yM_isBroken cM_isBroken 5 (some .boolean) :: wMA
def wsM_isManaging : List Cond := .code yM_isManaging cM_isManaging 4 (some .boolean) :: wMA
def wsM_manager : List Cond := .code yM_manager cM_manager 3 (some .int) :: wMA
def wsM_fallback : List Cond := .code yM_fallback cM_fallback 4 (some .int) :: wMA
def wsM_queue : List Cond := .code yM_queue cM_queue 3 (some .int) :: wMA
def wsM_version : List Cond := .code yM_version cM_version 3 (some .int) :: wMA
def wsM_open : List Cond := .code yM_open cM_open 4 (some .int) :: wMA
set_option maxRecDepth 20000 in
theorem goodLA1 : GoodIn lw_tbl [Cond.initialized RX1, Cond.methodLink RX1 1 objectInit, Cond.instanceMethod objectInit, Cond.code objectInit ⟨#[0xb1]⟩ 1 none, Cond.arrayClass .int, Cond.arrayClass .boolean, Cond.arrayClass .long, Cond.methodLink RX1 61 yM_isIn, Cond.methodLink RX1 74 yM_isPort, Cond.methodLink RX1 82 yM_isWay, Cond.methodLink RX1 95 yM_flat, Cond.methodLink RX1 89 yM_know, Cond.methodLink RX1 92 yM_isFlat, Cond.methodLink RX1 86 yM_isAtomic, Cond.methodLink RX1 105 yM_isReading, Cond.methodLink RX1 108 yM_isBrokenAt, Cond.methodLink RX1 102 yM_leadTo, Cond.methodLink RX1 111 yM_isBroken, Cond.methodLink RX1 99 yM_isManaging, Cond.instanceMethod yM_init, Cond.code yM_init cM_init 1 none, Cond.instanceMethod yM_thrown, Cond.selects RX1 yM_thrown yM_thrown, Cond.code yM_thrown cM_thrown 1 (some .int), Cond.instanceMethod yM_part, Cond.selects RX1 yM_part yM_part, Cond.code yM_part cM_part 2 (some .int), Cond.static yM_isIn, Cond.code yM_isIn cM_isIn 6 (some .boolean), Cond.instanceMethod yM_port, Cond.selects RX1 yM_port yM_port, Cond.code yM_port cM_port 4 (some .int), Cond.instanceMethod yM_unit, Cond.selects RX1 yM_unit yM_unit, Cond.code yM_unit cM_unit 7 (some .int), Cond.instanceMethod yM_isPort, Cond.selects RX1 yM_isPort yM_isPort, Cond.code yM_isPort cM_isPort 2 (some .boolean), Cond.instanceMethod yM_connect, Cond.selects RX1 yM_connect yM_connect, Cond.code yM_connect cM_connect 3 (some .int), Cond.instanceMethod yM_isWay, Cond.selects RX1 yM_isWay yM_isWay, Cond.code yM_isWay cM_isWay 5 (some .boolean), Cond.instanceMethod yM_flatten, Cond.selects RX1 yM_flatten yM_flatten, Cond.code yM_flatten cM_flatten 1 (some .int), Cond.instanceMethod yM_flat, Cond.selects RX1 yM_flat yM_flat, Cond.code yM_flat cM_flat 5 (some .int), Cond.instanceMethod yM_know, Cond.selects RX1 yM_know yM_know, Cond.code yM_know cM_know 4 none, Cond.instanceMethod yM_isFlat, Cond.selects RX1 yM_isFlat yM_isFlat, Cond.code yM_isFlat cM_isFlat 3 (some .boolean), Cond.instanceMethod yM_isAtomic, Cond.selects RX1 yM_isAtomic yM_isAtomic, Cond.code yM_isAtomic cM_isAtomic 4 (some .boolean), Cond.instanceMethod yM_at, Cond.selects RX1 yM_at yM_at, Cond.code yM_at cM_at 4 (some .int), Cond.instanceMethod yM_check, Cond.selects RX1 yM_check yM_check, Cond.code yM_check cM_check 4 (some .int), Cond.instanceMethod yM_isReading, Cond.selects RX1 yM_isReading yM_isReading, Cond.code yM_isReading cM_isReading 2 (some .boolean), Cond.instanceMethod yM_isBrokenAt, Cond.selects RX1 yM_isBrokenAt yM_isBrokenAt, Cond.code yM_isBrokenAt cM_isBrokenAt 4 (some .boolean), Cond.instanceMethod yM_leadTo, Cond.selects RX1 yM_leadTo yM_leadTo, Cond.code yM_leadTo cM_leadTo 4 (some .int), Cond.instanceMethod yM_isBroken, Cond.selects RX1 yM_isBroken yM_isBroken, Cond.code yM_isBroken cM_isBroken 5 (some .boolean), Cond.instanceMethod yM_isManaging, Cond.selects RX1 yM_isManaging yM_isManaging, Cond.code yM_isManaging cM_isManaging 4 (some .boolean), Cond.instanceMethod yM_manager, Cond.selects RX1 yM_manager yM_manager, Cond.code yM_manager cM_manager 3 (some .int), Cond.instanceMethod yM_fallback, Cond.selects RX1 yM_fallback yM_fallback, Cond.code yM_fallback cM_fallback 4 (some .int), Cond.instanceMethod yM_queue, Cond.selects RX1 yM_queue yM_queue, Cond.code yM_queue cM_queue 3 (some .int), Cond.instanceMethod yM_version, Cond.selects RX1 yM_version yM_version, Cond.code yM_version cM_version 3 (some .int), Cond.instanceMethod yM_open, Cond.selects RX1 yM_open yM_open, Cond.code yM_open cM_open 4 (some .int), Cond.fieldLink RX1 54 "PortRulesModel" "code" "I", Cond.fieldLink RX1 58 "PortRulesModel" "parts" "I", Cond.fieldLink RX1 7 "PortRulesModel" "in" "[I", Cond.fieldLink RX1 71 "PortRulesModel" "ports" "I", Cond.fieldLink RX1 13 "PortRulesModel" "partOf" "[I", Cond.fieldLink RX1 16 "PortRulesModel" "kindOf" "[I", Cond.fieldLink RX1 19 "PortRulesModel" "provides" "[Z", Cond.fieldLink RX1 23 "PortRulesModel" "unit" "[I", Cond.fieldLink RX1 26 "PortRulesModel" "up" "[J", Cond.fieldLink RX1 30 "PortRulesModel" "down" "[J", Cond.fieldLink RX1 33 "PortRulesModel" "version" "[I", Cond.fieldLink RX1 36 "PortRulesModel" "hasFallback" "[Z", Cond.fieldLink RX1 39 "PortRulesModel" "fallback" "[I", Cond.fieldLink RX1 42 "PortRulesModel" "queue" "[I", Cond.fieldLink RX1 45 "PortRulesModel" "manager" "[I", Cond.fieldLink RX1 48 "PortRulesModel" "leads" "[Z", Cond.fieldLink RX1 51 "PortRulesModel" "reaches" "[Z", Cond.fieldLink RX1 65 "PortRulesModel" "known" "Z", Cond.constantLong RX1 69 (3), Cond.constantLong RX1 78 (20), Cond.constantLong RX1 80 (1000), Cond.constantLong RX1 115 (9), Cond.constantLong RX1 117 (100), Cond.constantLong RX1 119 (9999)] := goodIn_r _ [32, 321, 44, 45, 107, 108, 109, 385, 397, 407, 415, 419, 423, 427, 439, 443, 447, 451, 455, 319, 320, 378, 379, 380, 382, 383, 384, 386, 387, 389, 390, 391, 394, 395, 396, 399, 18, 400, 404, 405, 406, 409, 19, 410, 412, 413, 414, 417, 20, 418, 421, 21, 422, 425, 22, 426, 429, 23, 430, 432, 433, 434, 436, 437, 438, 441, 24, 442, 445, 25, 446, 449, 26, 450, 453, 27, 454, 457, 28, 458, 460, 461, 462, 465, 466, 467, 469, 470, 471, 474, 475, 476, 479, 480, 481, 322, 323, 324, 325, 326, 327, 328, 329, 330, 331, 332, 333, 334, 335, 336, 337, 338, 339, 392, 401, 402, 463, 472, 477] (by decide +kernel) (by decide +kernel)
set_option maxRecDepth 20000 in
theorem goodLA2 : GoodIn lw_tbl (u_ws RX1 TM 18) := goodIn_of _ (by decide +kernel)
theorem wMA_f : ∀ w ∈ u_ws RX1 TM 18, w ∈ wMA := fun w h => List.mem_append_right _ h
theorem goodLA : GoodIn lw_tbl wMA := goodIn_app goodLA1 goodLA2
theorem wMA_good : wMA.all goodWord = true := by decide +kernel
theorem goodMA (c : Cond) : GoodIn (c :: wMA) wMA := goodIn_sub (fun w h => List.mem_cons_of_mem _ h) wMA_good
theorem goodMy (c d : Cond) (hd : d ∈ wMA) : GoodIn (c :: wMA) (d :: wMA) := fun w h => (List.mem_cons.mp h).elim (fun e => by rw [e]; exact goodMA c d hd) (goodMA c w)
theorem goodLy (d : Cond) (hd : d ∈ wMA) : GoodIn lw_tbl (d :: wMA) := fun w h => (List.mem_cons.mp h).elim (fun e => by rw [e]; exact goodLA d hd) (goodLA w)
theorem gM_part_M_isIn : GoodIn wsM_part (va_wsS RX1 61 yM_isIn wsM_isIn) := goodIn_app (goodIn_of _ (by decide +kernel)) (goodMy _ _ (by decide +kernel))
theorem gM_port_M_isIn : GoodIn wsM_port (va_wsS RX1 61 yM_isIn wsM_isIn) := goodIn_app (goodIn_of _ (by decide +kernel)) (goodMy _ _ (by decide +kernel))
theorem gM_isPort_M_isIn : GoodIn wsM_isPort (va_wsS RX1 61 yM_isIn wsM_isIn) := goodIn_app (goodIn_of _ (by decide +kernel)) (goodMy _ _ (by decide +kernel))
theorem gM_unit_M_isPort : GoodIn wsM_unit (wsV RX1 74 RX1 yM_isPort wsM_isPort) := goodIn_app (goodIn_of _ (by decide +kernel)) (goodMy _ _ (by decide +kernel))
theorem gM_unit_M_isIn : GoodIn wsM_unit (va_wsS RX1 61 yM_isIn wsM_isIn) := goodIn_app (goodIn_of _ (by decide +kernel)) (goodMy _ _ (by decide +kernel))
theorem gM_connect_M_isPort : GoodIn wsM_connect (wsV RX1 74 RX1 yM_isPort wsM_isPort) := goodIn_app (goodIn_of _ (by decide +kernel)) (goodMy _ _ (by decide +kernel))
theorem gM_connect_M_isWay : GoodIn wsM_connect (wsV RX1 82 RX1 yM_isWay wsM_isWay) := goodIn_app (goodIn_of _ (by decide +kernel)) (goodMy _ _ (by decide +kernel))
theorem gM_isFlat_M_isAtomic : GoodIn wsM_isFlat (wsV RX1 86 RX1 yM_isAtomic wsM_isAtomic) := goodIn_app (goodIn_of _ (by decide +kernel)) (goodMy _ _ (by decide +kernel))
theorem gM_flat_M_know : GoodIn wsM_flat (wsV RX1 89 RX1 yM_know wsM_know) := goodIn_app (goodIn_of _ (by decide +kernel)) (goodMy _ _ (by decide +kernel))
theorem gM_flat_M_isFlat : GoodIn wsM_flat (wsV RX1 92 RX1 yM_isFlat wsM_isFlat) := goodIn_app (goodIn_of _ (by decide +kernel)) (goodMy _ _ (by decide +kernel))
theorem gM_flatten_M_flat : GoodIn wsM_flatten (wsV RX1 95 RX1 yM_flat wsM_flat) := goodIn_app (goodIn_of _ (by decide +kernel)) (goodMy _ _ (by decide +kernel))
theorem gM_at_M_flat : GoodIn wsM_at (wsV RX1 95 RX1 yM_flat wsM_flat) := goodIn_app (goodIn_of _ (by decide +kernel)) (goodMy _ _ (by decide +kernel))
theorem gM_isBroken_M_isManaging : GoodIn wsM_isBroken (wsV RX1 99 RX1 yM_isManaging wsM_isManaging) := goodIn_app (goodIn_of _ (by decide +kernel)) (goodMy _ _ (by decide +kernel))
theorem gM_leadTo_M_know : GoodIn wsM_leadTo (wsV RX1 89 RX1 yM_know wsM_know) := goodIn_app (goodIn_of _ (by decide +kernel)) (goodMy _ _ (by decide +kernel))
theorem gM_leadTo_M_isFlat : GoodIn wsM_leadTo (wsV RX1 92 RX1 yM_isFlat wsM_isFlat) := goodIn_app (goodIn_of _ (by decide +kernel)) (goodMy _ _ (by decide +kernel))
theorem gM_isBrokenAt_M_leadTo : GoodIn wsM_isBrokenAt (wsV RX1 102 RX1 yM_leadTo wsM_leadTo) := goodIn_app (goodIn_of _ (by decide +kernel)) (goodMy _ _ (by decide +kernel))
theorem gM_isReading_M_isAtomic : GoodIn wsM_isReading (wsV RX1 86 RX1 yM_isAtomic wsM_isAtomic) := goodIn_app (goodIn_of _ (by decide +kernel)) (goodMy _ _ (by decide +kernel))
theorem gM_check_M_know : GoodIn wsM_check (wsV RX1 89 RX1 yM_know wsM_know) := goodIn_app (goodIn_of _ (by decide +kernel)) (goodMy _ _ (by decide +kernel))
theorem gM_check_M_isReading : GoodIn wsM_check (wsV RX1 105 RX1 yM_isReading wsM_isReading) := goodIn_app (goodIn_of _ (by decide +kernel)) (goodMy _ _ (by decide +kernel))
theorem gM_check_M_isBrokenAt : GoodIn wsM_check (wsV RX1 108 RX1 yM_isBrokenAt wsM_isBrokenAt) := goodIn_app (goodIn_of _ (by decide +kernel)) (goodMy _ _ (by decide +kernel))
theorem gM_check_M_isFlat : GoodIn wsM_check (wsV RX1 92 RX1 yM_isFlat wsM_isFlat) := goodIn_app (goodIn_of _ (by decide +kernel)) (goodMy _ _ (by decide +kernel))
theorem gM_check_M_isBroken : GoodIn wsM_check (wsV RX1 111 RX1 yM_isBroken wsM_isBroken) := goodIn_app (goodIn_of _ (by decide +kernel)) (goodMy _ _ (by decide +kernel))
theorem gM_manager_M_isIn : GoodIn wsM_manager (va_wsS RX1 61 yM_isIn wsM_isIn) := goodIn_app (goodIn_of _ (by decide +kernel)) (goodMy _ _ (by decide +kernel))
theorem gM_fallback_M_isPort : GoodIn wsM_fallback (wsV RX1 74 RX1 yM_isPort wsM_isPort) := goodIn_app (goodIn_of _ (by decide +kernel)) (goodMy _ _ (by decide +kernel))
theorem gM_queue_M_isPort : GoodIn wsM_queue (wsV RX1 74 RX1 yM_isPort wsM_isPort) := goodIn_app (goodIn_of _ (by decide +kernel)) (goodMy _ _ (by decide +kernel))
theorem gM_queue_M_isIn : GoodIn wsM_queue (va_wsS RX1 61 yM_isIn wsM_isIn) := goodIn_app (goodIn_of _ (by decide +kernel)) (goodMy _ _ (by decide +kernel))
theorem gM_version_M_isPort : GoodIn wsM_version (wsV RX1 74 RX1 yM_isPort wsM_isPort) := goodIn_app (goodIn_of _ (by decide +kernel)) (goodMy _ _ (by decide +kernel))
theorem gM_version_M_isIn : GoodIn wsM_version (va_wsS RX1 61 yM_isIn wsM_isIn) := goodIn_app (goodIn_of _ (by decide +kernel)) (goodMy _ _ (by decide +kernel))
theorem gM_open_M_isReading : GoodIn wsM_open (wsV RX1 105 RX1 yM_isReading wsM_isReading) := goodIn_app (goodIn_of _ (by decide +kernel)) (goodMy _ _ (by decide +kernel))
theorem gM_open_M_leadTo : GoodIn wsM_open (wsV RX1 102 RX1 yM_leadTo wsM_leadTo) := goodIn_app (goodIn_of _ (by decide +kernel)) (goodMy _ _ (by decide +kernel))
theorem gL_law_M_init : GoodIn lw_tbl wsM_init := goodLy _ (by decide +kernel)
theorem gL_law_M_thrown : GoodIn lw_tbl (wsV RL 51 RX1 yM_thrown wsM_thrown) := goodIn_app (goodIn_of _ (by decide +kernel)) (goodLy _ (by decide +kernel))
theorem gL_law_M_part : GoodIn lw_tbl (wsV RL 23 RX1 yM_part wsM_part) := goodIn_app (goodIn_of _ (by decide +kernel)) (goodLy _ (by decide +kernel))
theorem gL_law_M_port : GoodIn lw_tbl (wsV RL 28 RX1 yM_port wsM_port) := goodIn_app (goodIn_of _ (by decide +kernel)) (goodLy _ (by decide +kernel))
theorem gL_law_M_unit : GoodIn lw_tbl (wsV RL 35 RX1 yM_unit wsM_unit) := goodIn_app (goodIn_of _ (by decide +kernel)) (goodLy _ (by decide +kernel))
theorem gL_law_M_connect : GoodIn lw_tbl (wsV RL 39 RX1 yM_connect wsM_connect) := goodIn_app (goodIn_of _ (by decide +kernel)) (goodLy _ (by decide +kernel))
theorem gL_law_M_flatten : GoodIn lw_tbl (wsV RL 44 RX1 yM_flatten wsM_flatten) := goodIn_app (goodIn_of _ (by decide +kernel)) (goodLy _ (by decide +kernel))
theorem gL_law_M_at : GoodIn lw_tbl (wsV RL 50 RX1 yM_at wsM_at) := goodIn_app (goodIn_of _ (by decide +kernel)) (goodLy _ (by decide +kernel))
theorem gL_law_M_check : GoodIn lw_tbl (wsV RL 57 RX1 yM_check wsM_check) := goodIn_app (goodIn_of _ (by decide +kernel)) (goodLy _ (by decide +kernel))
theorem gL_law_M_manager : GoodIn lw_tbl (wsV RL 61 RX1 yM_manager wsM_manager) := goodIn_app (goodIn_of _ (by decide +kernel)) (goodLy _ (by decide +kernel))
theorem gL_law_M_fallback : GoodIn lw_tbl (wsV RL 65 RX1 yM_fallback wsM_fallback) := goodIn_app (goodIn_of _ (by decide +kernel)) (goodLy _ (by decide +kernel))
theorem gL_law_M_queue : GoodIn lw_tbl (wsV RL 69 RX1 yM_queue wsM_queue) := goodIn_app (goodIn_of _ (by decide +kernel)) (goodLy _ (by decide +kernel))
theorem gL_law_M_version : GoodIn lw_tbl (wsV RL 73 RX1 yM_version wsM_version) := goodIn_app (goodIn_of _ (by decide +kernel)) (goodLy _ (by decide +kernel))
theorem gL_law_M_open : GoodIn lw_tbl (wsV RL 77 RX1 yM_open wsM_open) := goodIn_app (goodIn_of _ (by decide +kernel)) (goodLy _ (by decide +kernel))
theorem dM_init_0 : decode cM_init 0 = .ok (.aload_n 0, 1) := by decide +kernel
theorem dM_init_1 : decode cM_init 1 = .ok (.invokespecial 1, 3) := by decide +kernel
theorem dM_init_4 : decode cM_init 4 = .ok (.aload_n 0, 1) := by decide +kernel
theorem dM_init_5 : decode cM_init 5 = .ok (.bipush 31, 2) := by decide +kernel
theorem dM_init_7 : decode cM_init 7 = .ok (.newarray .int, 2) := by decide +kernel
theorem dM_init_9 : decode cM_init 9 = .ok (.putfield 7, 3) := by decide +kernel
theorem dM_init_12 : decode cM_init 12 = .ok (.aload_n 0, 1) := by decide +kernel
theorem dM_init_13 : decode cM_init 13 = .ok (.bipush 61, 2) := by decide +kernel
theorem dM_init_15 : decode cM_init 15 = .ok (.newarray .int, 2) := by decide +kernel
theorem dM_init_17 : decode cM_init 17 = .ok (.putfield 13, 3) := by decide +kernel
theorem dM_init_20 : decode cM_init 20 = .ok (.aload_n 0, 1) := by decide +kernel
theorem dM_init_21 : decode cM_init 21 = .ok (.bipush 61, 2) := by decide +kernel
theorem dM_init_23 : decode cM_init 23 = .ok (.newarray .int, 2) := by decide +kernel
theorem dM_init_25 : decode cM_init 25 = .ok (.putfield 16, 3) := by decide +kernel
theorem dM_init_28 : decode cM_init 28 = .ok (.aload_n 0, 1) := by decide +kernel
theorem dM_init_29 : decode cM_init 29 = .ok (.bipush 61, 2) := by decide +kernel
theorem dM_init_31 : decode cM_init 31 = .ok (.newarray .boolean, 2) := by decide +kernel
theorem dM_init_33 : decode cM_init 33 = .ok (.putfield 19, 3) := by decide +kernel
theorem dM_init_36 : decode cM_init 36 = .ok (.aload_n 0, 1) := by decide +kernel
theorem dM_init_37 : decode cM_init 37 = .ok (.bipush 61, 2) := by decide +kernel
theorem dM_init_39 : decode cM_init 39 = .ok (.newarray .int, 2) := by decide +kernel
theorem dM_init_41 : decode cM_init 41 = .ok (.putfield 23, 3) := by decide +kernel
theorem dM_init_44 : decode cM_init 44 = .ok (.aload_n 0, 1) := by decide +kernel
theorem dM_init_45 : decode cM_init 45 = .ok (.bipush 61, 2) := by decide +kernel
theorem dM_init_47 : decode cM_init 47 = .ok (.newarray .long, 2) := by decide +kernel
theorem dM_init_49 : decode cM_init 49 = .ok (.putfield 26, 3) := by decide +kernel
theorem dM_init_52 : decode cM_init 52 = .ok (.aload_n 0, 1) := by decide +kernel
theorem dM_init_53 : decode cM_init 53 = .ok (.bipush 61, 2) := by decide +kernel
theorem dM_init_55 : decode cM_init 55 = .ok (.newarray .long, 2) := by decide +kernel
theorem dM_init_57 : decode cM_init 57 = .ok (.putfield 30, 3) := by decide +kernel
theorem dM_init_60 : decode cM_init 60 = .ok (.aload_n 0, 1) := by decide +kernel
theorem dM_init_61 : decode cM_init 61 = .ok (.bipush 61, 2) := by decide +kernel
theorem dM_init_63 : decode cM_init 63 = .ok (.newarray .int, 2) := by decide +kernel
theorem dM_init_65 : decode cM_init 65 = .ok (.putfield 33, 3) := by decide +kernel
theorem dM_init_68 : decode cM_init 68 = .ok (.aload_n 0, 1) := by decide +kernel
theorem dM_init_69 : decode cM_init 69 = .ok (.bipush 61, 2) := by decide +kernel
theorem dM_init_71 : decode cM_init 71 = .ok (.newarray .boolean, 2) := by decide +kernel
theorem dM_init_73 : decode cM_init 73 = .ok (.putfield 36, 3) := by decide +kernel
theorem dM_init_76 : decode cM_init 76 = .ok (.aload_n 0, 1) := by decide +kernel
theorem dM_init_77 : decode cM_init 77 = .ok (.bipush 61, 2) := by decide +kernel
theorem dM_init_79 : decode cM_init 79 = .ok (.newarray .int, 2) := by decide +kernel
theorem dM_init_81 : decode cM_init 81 = .ok (.putfield 39, 3) := by decide +kernel
theorem dM_init_84 : decode cM_init 84 = .ok (.aload_n 0, 1) := by decide +kernel
theorem dM_init_85 : decode cM_init 85 = .ok (.bipush 61, 2) := by decide +kernel
theorem dM_init_87 : decode cM_init 87 = .ok (.newarray .int, 2) := by decide +kernel
theorem dM_init_89 : decode cM_init 89 = .ok (.putfield 42, 3) := by decide +kernel
theorem dM_init_92 : decode cM_init 92 = .ok (.aload_n 0, 1) := by decide +kernel
theorem dM_init_93 : decode cM_init 93 = .ok (.bipush 10, 2) := by decide +kernel
theorem dM_init_95 : decode cM_init 95 = .ok (.newarray .int, 2) := by decide +kernel
theorem dM_init_97 : decode cM_init 97 = .ok (.putfield 45, 3) := by decide +kernel
theorem dM_init_100 : decode cM_init 100 = .ok (.aload_n 0, 1) := by decide +kernel
theorem dM_init_101 : decode cM_init 101 = .ok (.sipush 3721, 3) := by decide +kernel
theorem dM_init_104 : decode cM_init 104 = .ok (.newarray .boolean, 2) := by decide +kernel
theorem dM_init_106 : decode cM_init 106 = .ok (.putfield 48, 3) := by decide +kernel
theorem dM_init_109 : decode cM_init 109 = .ok (.aload_n 0, 1) := by decide +kernel
theorem dM_init_110 : decode cM_init 110 = .ok (.sipush 3721, 3) := by decide +kernel
theorem dM_init_113 : decode cM_init 113 = .ok (.newarray .boolean, 2) := by decide +kernel
theorem dM_init_115 : decode cM_init 115 = .ok (.putfield 51, 3) := by decide +kernel
theorem dM_init_118 : decode cM_init 118 = .ok (.return_, 1) := by decide +kernel
theorem dM_thrown_0 : decode cM_thrown 0 = .ok (.aload_n 0, 1) := by decide +kernel
theorem dM_thrown_1 : decode cM_thrown 1 = .ok (.getfield 54, 3) := by decide +kernel
theorem dM_thrown_4 : decode cM_thrown 4 = .ok (.ireturn, 1) := by decide +kernel
theorem dM_isIn_0 : decode cM_isIn 0 = .ok (.lload_n 0, 1) := by decide +kernel
theorem dM_isIn_1 : decode cM_isIn 1 = .ok (.lload_n 2, 1) := by decide +kernel
theorem dM_isIn_2 : decode cM_isIn 2 = .ok (.lcmp, 1) := by decide +kernel
theorem dM_isIn_3 : decode cM_isIn 3 = .ok (.ifCond .lt 14, 3) := by decide +kernel
theorem dM_isIn_6 : decode cM_isIn 6 = .ok (.lload_n 0, 1) := by decide +kernel
theorem dM_isIn_7 : decode cM_isIn 7 = .ok (.lload 4, 2) := by decide +kernel
theorem dM_isIn_9 : decode cM_isIn 9 = .ok (.lcmp, 1) := by decide +kernel
theorem dM_isIn_10 : decode cM_isIn 10 = .ok (.ifCond .gt 7, 3) := by decide +kernel
theorem dM_isIn_13 : decode cM_isIn 13 = .ok (.iconst 1, 1) := by decide +kernel
theorem dM_isIn_14 : decode cM_isIn 14 = .ok (.goto 4, 3) := by decide +kernel
theorem dM_isIn_17 : decode cM_isIn 17 = .ok (.iconst 0, 1) := by decide +kernel
theorem dM_isIn_18 : decode cM_isIn 18 = .ok (.ireturn, 1) := by decide +kernel
theorem dM_part_0 : decode cM_part 0 = .ok (.aload_n 0, 1) := by decide +kernel
theorem dM_part_1 : decode cM_part 1 = .ok (.iconst 0, 1) := by decide +kernel
theorem dM_part_2 : decode cM_part 2 = .ok (.putfield 54, 3) := by decide +kernel
theorem dM_part_5 : decode cM_part 5 = .ok (.iload_n 1, 1) := by decide +kernel
theorem dM_part_6 : decode cM_part 6 = .ok (.i2l, 1) := by decide +kernel
theorem dM_part_7 : decode cM_part 7 = .ok (.lconst 0, 1) := by decide +kernel
theorem dM_part_8 : decode cM_part 8 = .ok (.aload_n 0, 1) := by decide +kernel
theorem dM_part_9 : decode cM_part 9 = .ok (.getfield 58, 3) := by decide +kernel
theorem dM_part_12 : decode cM_part 12 = .ok (.i2l, 1) := by decide +kernel
theorem dM_part_13 : decode cM_part 13 = .ok (.invokestatic 61, 3) := by decide +kernel
theorem dM_part_16 : decode cM_part 16 = .ok (.ifCond .ne 5, 3) := by decide +kernel
theorem dM_part_19 : decode cM_part 19 = .ok (.iconst (-1), 1) := by decide +kernel
theorem dM_part_20 : decode cM_part 20 = .ok (.ireturn, 1) := by decide +kernel
theorem dM_part_21 : decode cM_part 21 = .ok (.aload_n 0, 1) := by decide +kernel
theorem dM_part_22 : decode cM_part 22 = .ok (.getfield 58, 3) := by decide +kernel
theorem dM_part_25 : decode cM_part 25 = .ok (.bipush 30, 2) := by decide +kernel
theorem dM_part_27 : decode cM_part 27 = .ok (.if_icmp .ne 6, 3) := by decide +kernel
theorem dM_part_30 : decode cM_part 30 = .ok (.bipush (-4), 2) := by decide +kernel
theorem dM_part_32 : decode cM_part 32 = .ok (.ireturn, 1) := by decide +kernel
theorem dM_part_33 : decode cM_part 33 = .ok (.aload_n 0, 1) := by decide +kernel
theorem dM_part_34 : decode cM_part 34 = .ok (.dup, 1) := by decide +kernel
theorem dM_part_35 : decode cM_part 35 = .ok (.getfield 58, 3) := by decide +kernel
theorem dM_part_38 : decode cM_part 38 = .ok (.iconst 1, 1) := by decide +kernel
theorem dM_part_39 : decode cM_part 39 = .ok (.iadd, 1) := by decide +kernel
theorem dM_part_40 : decode cM_part 40 = .ok (.putfield 58, 3) := by decide +kernel
theorem dM_part_43 : decode cM_part 43 = .ok (.aload_n 0, 1) := by decide +kernel
theorem dM_part_44 : decode cM_part 44 = .ok (.getfield 7, 3) := by decide +kernel
theorem dM_part_47 : decode cM_part 47 = .ok (.aload_n 0, 1) := by decide +kernel
theorem dM_part_48 : decode cM_part 48 = .ok (.getfield 58, 3) := by decide +kernel
theorem dM_part_51 : decode cM_part 51 = .ok (.iload_n 1, 1) := by decide +kernel
theorem dM_part_52 : decode cM_part 52 = .ok (.iastore, 1) := by decide +kernel
theorem dM_part_53 : decode cM_part 53 = .ok (.aload_n 0, 1) := by decide +kernel
theorem dM_part_54 : decode cM_part 54 = .ok (.iconst 0, 1) := by decide +kernel
theorem dM_part_55 : decode cM_part 55 = .ok (.putfield 65, 3) := by decide +kernel
theorem dM_part_58 : decode cM_part 58 = .ok (.aload_n 0, 1) := by decide +kernel
theorem dM_part_59 : decode cM_part 59 = .ok (.getfield 58, 3) := by decide +kernel
theorem dM_part_62 : decode cM_part 62 = .ok (.ireturn, 1) := by decide +kernel
theorem dM_port_0 : decode cM_port 0 = .ok (.aload_n 0, 1) := by decide +kernel
theorem dM_port_1 : decode cM_port 1 = .ok (.iconst 0, 1) := by decide +kernel
theorem dM_port_2 : decode cM_port 2 = .ok (.putfield 54, 3) := by decide +kernel
theorem dM_port_5 : decode cM_port 5 = .ok (.iload_n 1, 1) := by decide +kernel
theorem dM_port_6 : decode cM_port 6 = .ok (.i2l, 1) := by decide +kernel
theorem dM_port_7 : decode cM_port 7 = .ok (.lconst 1, 1) := by decide +kernel
theorem dM_port_8 : decode cM_port 8 = .ok (.aload_n 0, 1) := by decide +kernel
theorem dM_port_9 : decode cM_port 9 = .ok (.getfield 58, 3) := by decide +kernel
theorem dM_port_12 : decode cM_port 12 = .ok (.i2l, 1) := by decide +kernel
theorem dM_port_13 : decode cM_port 13 = .ok (.invokestatic 61, 3) := by decide +kernel
theorem dM_port_16 : decode cM_port 16 = .ok (.ifCond .ne 5, 3) := by decide +kernel
theorem dM_port_19 : decode cM_port 19 = .ok (.iconst (-1), 1) := by decide +kernel
theorem dM_port_20 : decode cM_port 20 = .ok (.ireturn, 1) := by decide +kernel
theorem dM_port_21 : decode cM_port 21 = .ok (.iload_n 2, 1) := by decide +kernel
theorem dM_port_22 : decode cM_port 22 = .ok (.i2l, 1) := by decide +kernel
theorem dM_port_23 : decode cM_port 23 = .ok (.lconst 0, 1) := by decide +kernel
theorem dM_port_24 : decode cM_port 24 = .ok (.ldc2_w 69, 3) := by decide +kernel
theorem dM_port_27 : decode cM_port 27 = .ok (.invokestatic 61, 3) := by decide +kernel
theorem dM_port_30 : decode cM_port 30 = .ok (.ifCond .ne 6, 3) := by decide +kernel
theorem dM_port_33 : decode cM_port 33 = .ok (.bipush (-2), 2) := by decide +kernel
theorem dM_port_35 : decode cM_port 35 = .ok (.ireturn, 1) := by decide +kernel
theorem dM_port_36 : decode cM_port 36 = .ok (.aload_n 0, 1) := by decide +kernel
theorem dM_port_37 : decode cM_port 37 = .ok (.getfield 71, 3) := by decide +kernel
theorem dM_port_40 : decode cM_port 40 = .ok (.bipush 60, 2) := by decide +kernel
theorem dM_port_42 : decode cM_port 42 = .ok (.if_icmp .ne 6, 3) := by decide +kernel
theorem dM_port_45 : decode cM_port 45 = .ok (.bipush (-4), 2) := by decide +kernel
theorem dM_port_47 : decode cM_port 47 = .ok (.ireturn, 1) := by decide +kernel
theorem dM_port_48 : decode cM_port 48 = .ok (.aload_n 0, 1) := by decide +kernel
theorem dM_port_49 : decode cM_port 49 = .ok (.dup, 1) := by decide +kernel
theorem dM_port_50 : decode cM_port 50 = .ok (.getfield 71, 3) := by decide +kernel
theorem dM_port_53 : decode cM_port 53 = .ok (.iconst 1, 1) := by decide +kernel
theorem dM_port_54 : decode cM_port 54 = .ok (.iadd, 1) := by decide +kernel
theorem dM_port_55 : decode cM_port 55 = .ok (.putfield 71, 3) := by decide +kernel
theorem dM_port_58 : decode cM_port 58 = .ok (.aload_n 0, 1) := by decide +kernel
theorem dM_port_59 : decode cM_port 59 = .ok (.getfield 13, 3) := by decide +kernel
theorem dM_port_62 : decode cM_port 62 = .ok (.aload_n 0, 1) := by decide +kernel
theorem dM_port_63 : decode cM_port 63 = .ok (.getfield 71, 3) := by decide +kernel
theorem dM_port_66 : decode cM_port 66 = .ok (.iload_n 1, 1) := by decide +kernel
theorem dM_port_67 : decode cM_port 67 = .ok (.iastore, 1) := by decide +kernel
theorem dM_port_68 : decode cM_port 68 = .ok (.aload_n 0, 1) := by decide +kernel
theorem dM_port_69 : decode cM_port 69 = .ok (.getfield 16, 3) := by decide +kernel
theorem dM_port_72 : decode cM_port 72 = .ok (.aload_n 0, 1) := by decide +kernel
theorem dM_port_73 : decode cM_port 73 = .ok (.getfield 71, 3) := by decide +kernel
theorem dM_port_76 : decode cM_port 76 = .ok (.iload_n 2, 1) := by decide +kernel
theorem dM_port_77 : decode cM_port 77 = .ok (.iastore, 1) := by decide +kernel
theorem dM_port_78 : decode cM_port 78 = .ok (.aload_n 0, 1) := by decide +kernel
theorem dM_port_79 : decode cM_port 79 = .ok (.getfield 19, 3) := by decide +kernel
theorem dM_port_82 : decode cM_port 82 = .ok (.aload_n 0, 1) := by decide +kernel
theorem dM_port_83 : decode cM_port 83 = .ok (.getfield 71, 3) := by decide +kernel
theorem dM_port_86 : decode cM_port 86 = .ok (.iload_n 3, 1) := by decide +kernel
theorem dM_port_87 : decode cM_port 87 = .ok (.bastore, 1) := by decide +kernel
theorem dM_port_88 : decode cM_port 88 = .ok (.aload_n 0, 1) := by decide +kernel
theorem dM_port_89 : decode cM_port 89 = .ok (.getfield 23, 3) := by decide +kernel
theorem dM_port_92 : decode cM_port 92 = .ok (.aload_n 0, 1) := by decide +kernel
theorem dM_port_93 : decode cM_port 93 = .ok (.getfield 71, 3) := by decide +kernel
theorem dM_port_96 : decode cM_port 96 = .ok (.iconst (-1), 1) := by decide +kernel
theorem dM_port_97 : decode cM_port 97 = .ok (.iastore, 1) := by decide +kernel
theorem dM_port_98 : decode cM_port 98 = .ok (.aload_n 0, 1) := by decide +kernel
theorem dM_port_99 : decode cM_port 99 = .ok (.getfield 33, 3) := by decide +kernel
theorem dM_port_102 : decode cM_port 102 = .ok (.aload_n 0, 1) := by decide +kernel
theorem dM_port_103 : decode cM_port 103 = .ok (.getfield 71, 3) := by decide +kernel
theorem dM_port_106 : decode cM_port 106 = .ok (.iconst (-1), 1) := by decide +kernel
theorem dM_port_107 : decode cM_port 107 = .ok (.iastore, 1) := by decide +kernel
theorem dM_port_108 : decode cM_port 108 = .ok (.aload_n 0, 1) := by decide +kernel
theorem dM_port_109 : decode cM_port 109 = .ok (.iconst 0, 1) := by decide +kernel
theorem dM_port_110 : decode cM_port 110 = .ok (.putfield 65, 3) := by decide +kernel
theorem dM_port_113 : decode cM_port 113 = .ok (.aload_n 0, 1) := by decide +kernel
theorem dM_port_114 : decode cM_port 114 = .ok (.getfield 71, 3) := by decide +kernel
theorem dM_port_117 : decode cM_port 117 = .ok (.ireturn, 1) := by decide +kernel
theorem dM_isPort_0 : decode cM_isPort 0 = .ok (.iload_n 1, 1) := by decide +kernel
theorem dM_isPort_1 : decode cM_isPort 1 = .ok (.i2l, 1) := by decide +kernel
theorem dM_isPort_2 : decode cM_isPort 2 = .ok (.lconst 1, 1) := by decide +kernel
theorem dM_isPort_3 : decode cM_isPort 3 = .ok (.aload_n 0, 1) := by decide +kernel
theorem dM_isPort_4 : decode cM_isPort 4 = .ok (.getfield 71, 3) := by decide +kernel
theorem dM_isPort_7 : decode cM_isPort 7 = .ok (.i2l, 1) := by decide +kernel
theorem dM_isPort_8 : decode cM_isPort 8 = .ok (.invokestatic 61, 3) := by decide +kernel
theorem dM_isPort_11 : decode cM_isPort 11 = .ok (.ireturn, 1) := by decide +kernel
theorem dM_unit_0 : decode cM_unit 0 = .ok (.aload_n 0, 1) := by decide +kernel
theorem dM_unit_1 : decode cM_unit 1 = .ok (.iconst 0, 1) := by decide +kernel
theorem dM_unit_2 : decode cM_unit 2 = .ok (.putfield 54, 3) := by decide +kernel
theorem dM_unit_5 : decode cM_unit 5 = .ok (.aload_n 0, 1) := by decide +kernel
theorem dM_unit_6 : decode cM_unit 6 = .ok (.iload_n 1, 1) := by decide +kernel
theorem dM_unit_7 : decode cM_unit 7 = .ok (.invokevirtual 74, 3) := by decide +kernel
theorem dM_unit_10 : decode cM_unit 10 = .ok (.ifCond .ne 5, 3) := by decide +kernel
theorem dM_unit_13 : decode cM_unit 13 = .ok (.iconst (-1), 1) := by decide +kernel
theorem dM_unit_14 : decode cM_unit 14 = .ok (.ireturn, 1) := by decide +kernel
theorem dM_unit_15 : decode cM_unit 15 = .ok (.iload_n 2, 1) := by decide +kernel
theorem dM_unit_16 : decode cM_unit 16 = .ok (.i2l, 1) := by decide +kernel
theorem dM_unit_17 : decode cM_unit 17 = .ok (.lconst 0, 1) := by decide +kernel
theorem dM_unit_18 : decode cM_unit 18 = .ok (.ldc2_w 78, 3) := by decide +kernel
theorem dM_unit_21 : decode cM_unit 21 = .ok (.invokestatic 61, 3) := by decide +kernel
theorem dM_unit_24 : decode cM_unit 24 = .ok (.ifCond .eq 26, 3) := by decide +kernel
theorem dM_unit_27 : decode cM_unit 27 = .ok (.lload_n 3, 1) := by decide +kernel
theorem dM_unit_28 : decode cM_unit 28 = .ok (.lconst 1, 1) := by decide +kernel
theorem dM_unit_29 : decode cM_unit 29 = .ok (.ldc2_w 80, 3) := by decide +kernel
theorem dM_unit_32 : decode cM_unit 32 = .ok (.invokestatic 61, 3) := by decide +kernel
theorem dM_unit_35 : decode cM_unit 35 = .ok (.ifCond .eq 15, 3) := by decide +kernel
theorem dM_unit_38 : decode cM_unit 38 = .ok (.lload 5, 2) := by decide +kernel
theorem dM_unit_40 : decode cM_unit 40 = .ok (.lconst 1, 1) := by decide +kernel
theorem dM_unit_41 : decode cM_unit 41 = .ok (.ldc2_w 80, 3) := by decide +kernel
theorem dM_unit_44 : decode cM_unit 44 = .ok (.invokestatic 61, 3) := by decide +kernel
theorem dM_unit_47 : decode cM_unit 47 = .ok (.ifCond .ne 6, 3) := by decide +kernel
theorem dM_unit_50 : decode cM_unit 50 = .ok (.bipush (-2), 2) := by decide +kernel
theorem dM_unit_52 : decode cM_unit 52 = .ok (.ireturn, 1) := by decide +kernel
theorem dM_unit_53 : decode cM_unit 53 = .ok (.aload_n 0, 1) := by decide +kernel
theorem dM_unit_54 : decode cM_unit 54 = .ok (.getfield 23, 3) := by decide +kernel
theorem dM_unit_57 : decode cM_unit 57 = .ok (.iload_n 1, 1) := by decide +kernel
theorem dM_unit_58 : decode cM_unit 58 = .ok (.iload_n 2, 1) := by decide +kernel
theorem dM_unit_59 : decode cM_unit 59 = .ok (.iastore, 1) := by decide +kernel
theorem dM_unit_60 : decode cM_unit 60 = .ok (.aload_n 0, 1) := by decide +kernel
theorem dM_unit_61 : decode cM_unit 61 = .ok (.getfield 26, 3) := by decide +kernel
theorem dM_unit_64 : decode cM_unit 64 = .ok (.iload_n 1, 1) := by decide +kernel
theorem dM_unit_65 : decode cM_unit 65 = .ok (.lload_n 3, 1) := by decide +kernel
theorem dM_unit_66 : decode cM_unit 66 = .ok (.lastore, 1) := by decide +kernel
theorem dM_unit_67 : decode cM_unit 67 = .ok (.aload_n 0, 1) := by decide +kernel
theorem dM_unit_68 : decode cM_unit 68 = .ok (.getfield 30, 3) := by decide +kernel
theorem dM_unit_71 : decode cM_unit 71 = .ok (.iload_n 1, 1) := by decide +kernel
theorem dM_unit_72 : decode cM_unit 72 = .ok (.lload 5, 2) := by decide +kernel
theorem dM_unit_74 : decode cM_unit 74 = .ok (.lastore, 1) := by decide +kernel
theorem dM_unit_75 : decode cM_unit 75 = .ok (.iconst 1, 1) := by decide +kernel
theorem dM_unit_76 : decode cM_unit 76 = .ok (.ireturn, 1) := by decide +kernel
theorem dM_isWay_0 : decode cM_isWay 0 = .ok (.aload_n 0, 1) := by decide +kernel
theorem dM_isWay_1 : decode cM_isWay 1 = .ok (.getfield 13, 3) := by decide +kernel
theorem dM_isWay_4 : decode cM_isWay 4 = .ok (.iload_n 1, 1) := by decide +kernel
theorem dM_isWay_5 : decode cM_isWay 5 = .ok (.iaload, 1) := by decide +kernel
theorem dM_isWay_6 : decode cM_isWay 6 = .ok (.istore_n 3, 1) := by decide +kernel
theorem dM_isWay_7 : decode cM_isWay 7 = .ok (.aload_n 0, 1) := by decide +kernel
theorem dM_isWay_8 : decode cM_isWay 8 = .ok (.getfield 13, 3) := by decide +kernel
theorem dM_isWay_11 : decode cM_isWay 11 = .ok (.iload_n 2, 1) := by decide +kernel
theorem dM_isWay_12 : decode cM_isWay 12 = .ok (.iaload, 1) := by decide +kernel
theorem dM_isWay_13 : decode cM_isWay 13 = .ok (.istore 4, 2) := by decide +kernel
theorem dM_isWay_15 : decode cM_isWay 15 = .ok (.aload_n 0, 1) := by decide +kernel
theorem dM_isWay_16 : decode cM_isWay 16 = .ok (.getfield 19, 3) := by decide +kernel
theorem dM_isWay_19 : decode cM_isWay 19 = .ok (.iload_n 1, 1) := by decide +kernel
theorem dM_isWay_20 : decode cM_isWay 20 = .ok (.baload, 1) := by decide +kernel
theorem dM_isWay_21 : decode cM_isWay 21 = .ok (.ifCond .eq 40, 3) := by decide +kernel
theorem dM_isWay_24 : decode cM_isWay 24 = .ok (.aload_n 0, 1) := by decide +kernel
theorem dM_isWay_25 : decode cM_isWay 25 = .ok (.getfield 19, 3) := by decide +kernel
theorem dM_isWay_28 : decode cM_isWay 28 = .ok (.iload_n 2, 1) := by decide +kernel
theorem dM_isWay_29 : decode cM_isWay 29 = .ok (.baload, 1) := by decide +kernel
theorem dM_isWay_30 : decode cM_isWay 30 = .ok (.ifCond .ne 31, 3) := by decide +kernel
theorem dM_isWay_33 : decode cM_isWay 33 = .ok (.iload_n 3, 1) := by decide +kernel
theorem dM_isWay_34 : decode cM_isWay 34 = .ok (.iload 4, 2) := by decide +kernel
theorem dM_isWay_36 : decode cM_isWay 36 = .ok (.if_icmp .eq 23, 3) := by decide +kernel
theorem dM_isWay_39 : decode cM_isWay 39 = .ok (.aload_n 0, 1) := by decide +kernel
theorem dM_isWay_40 : decode cM_isWay 40 = .ok (.getfield 7, 3) := by decide +kernel
theorem dM_isWay_43 : decode cM_isWay 43 = .ok (.iload_n 3, 1) := by decide +kernel
theorem dM_isWay_44 : decode cM_isWay 44 = .ok (.iaload, 1) := by decide +kernel
theorem dM_isWay_45 : decode cM_isWay 45 = .ok (.aload_n 0, 1) := by decide +kernel
theorem dM_isWay_46 : decode cM_isWay 46 = .ok (.getfield 7, 3) := by decide +kernel
theorem dM_isWay_49 : decode cM_isWay 49 = .ok (.iload 4, 2) := by decide +kernel
theorem dM_isWay_51 : decode cM_isWay 51 = .ok (.iaload, 1) := by decide +kernel
theorem dM_isWay_52 : decode cM_isWay 52 = .ok (.if_icmp .ne 7, 3) := by decide +kernel
theorem dM_isWay_55 : decode cM_isWay 55 = .ok (.iconst 1, 1) := by decide +kernel
theorem dM_isWay_56 : decode cM_isWay 56 = .ok (.goto 4, 3) := by decide +kernel
theorem dM_isWay_59 : decode cM_isWay 59 = .ok (.iconst 0, 1) := by decide +kernel
theorem dM_isWay_60 : decode cM_isWay 60 = .ok (.ireturn, 1) := by decide +kernel
theorem dM_isWay_61 : decode cM_isWay 61 = .ok (.aload_n 0, 1) := by decide +kernel
theorem dM_isWay_62 : decode cM_isWay 62 = .ok (.getfield 19, 3) := by decide +kernel
theorem dM_isWay_65 : decode cM_isWay 65 = .ok (.iload_n 1, 1) := by decide +kernel
theorem dM_isWay_66 : decode cM_isWay 66 = .ok (.baload, 1) := by decide +kernel
theorem dM_isWay_67 : decode cM_isWay 67 = .ok (.ifCond .eq 20, 3) := by decide +kernel
theorem dM_isWay_70 : decode cM_isWay 70 = .ok (.aload_n 0, 1) := by decide +kernel
theorem dM_isWay_71 : decode cM_isWay 71 = .ok (.getfield 7, 3) := by decide +kernel
theorem dM_isWay_74 : decode cM_isWay 74 = .ok (.iload_n 3, 1) := by decide +kernel
theorem dM_isWay_75 : decode cM_isWay 75 = .ok (.iaload, 1) := by decide +kernel
theorem dM_isWay_76 : decode cM_isWay 76 = .ok (.iload 4, 2) := by decide +kernel
theorem dM_isWay_78 : decode cM_isWay 78 = .ok (.if_icmp .ne 7, 3) := by decide +kernel
theorem dM_isWay_81 : decode cM_isWay 81 = .ok (.iconst 1, 1) := by decide +kernel
theorem dM_isWay_82 : decode cM_isWay 82 = .ok (.goto 4, 3) := by decide +kernel
theorem dM_isWay_85 : decode cM_isWay 85 = .ok (.iconst 0, 1) := by decide +kernel
theorem dM_isWay_86 : decode cM_isWay 86 = .ok (.ireturn, 1) := by decide +kernel
theorem dM_isWay_87 : decode cM_isWay 87 = .ok (.aload_n 0, 1) := by decide +kernel
theorem dM_isWay_88 : decode cM_isWay 88 = .ok (.getfield 19, 3) := by decide +kernel
theorem dM_isWay_91 : decode cM_isWay 91 = .ok (.iload_n 2, 1) := by decide +kernel
theorem dM_isWay_92 : decode cM_isWay 92 = .ok (.baload, 1) := by decide +kernel
theorem dM_isWay_93 : decode cM_isWay 93 = .ok (.ifCond .ne 18, 3) := by decide +kernel
theorem dM_isWay_96 : decode cM_isWay 96 = .ok (.aload_n 0, 1) := by decide +kernel
theorem dM_isWay_97 : decode cM_isWay 97 = .ok (.getfield 7, 3) := by decide +kernel
theorem dM_isWay_100 : decode cM_isWay 100 = .ok (.iload 4, 2) := by decide +kernel
theorem dM_isWay_102 : decode cM_isWay 102 = .ok (.iaload, 1) := by decide +kernel
theorem dM_isWay_103 : decode cM_isWay 103 = .ok (.iload_n 3, 1) := by decide +kernel
theorem dM_isWay_104 : decode cM_isWay 104 = .ok (.if_icmp .ne 7, 3) := by decide +kernel
theorem dM_isWay_107 : decode cM_isWay 107 = .ok (.iconst 1, 1) := by decide +kernel
theorem dM_isWay_108 : decode cM_isWay 108 = .ok (.goto 4, 3) := by decide +kernel
theorem dM_isWay_111 : decode cM_isWay 111 = .ok (.iconst 0, 1) := by decide +kernel
theorem dM_isWay_112 : decode cM_isWay 112 = .ok (.ireturn, 1) := by decide +kernel
theorem dM_connect_0 : decode cM_connect 0 = .ok (.aload_n 0, 1) := by decide +kernel
theorem dM_connect_1 : decode cM_connect 1 = .ok (.iconst 0, 1) := by decide +kernel
theorem dM_connect_2 : decode cM_connect 2 = .ok (.putfield 54, 3) := by decide +kernel
theorem dM_connect_5 : decode cM_connect 5 = .ok (.aload_n 0, 1) := by decide +kernel
theorem dM_connect_6 : decode cM_connect 6 = .ok (.iload_n 1, 1) := by decide +kernel
theorem dM_connect_7 : decode cM_connect 7 = .ok (.invokevirtual 74, 3) := by decide +kernel
theorem dM_connect_10 : decode cM_connect 10 = .ok (.ifCond .eq 11, 3) := by decide +kernel
theorem dM_connect_13 : decode cM_connect 13 = .ok (.aload_n 0, 1) := by decide +kernel
theorem dM_connect_14 : decode cM_connect 14 = .ok (.iload_n 2, 1) := by decide +kernel
theorem dM_connect_15 : decode cM_connect 15 = .ok (.invokevirtual 74, 3) := by decide +kernel
theorem dM_connect_18 : decode cM_connect 18 = .ok (.ifCond .ne 5, 3) := by decide +kernel
theorem dM_connect_21 : decode cM_connect 21 = .ok (.iconst (-1), 1) := by decide +kernel
theorem dM_connect_22 : decode cM_connect 22 = .ok (.ireturn, 1) := by decide +kernel
theorem dM_connect_23 : decode cM_connect 23 = .ok (.aload_n 0, 1) := by decide +kernel
theorem dM_connect_24 : decode cM_connect 24 = .ok (.getfield 16, 3) := by decide +kernel
theorem dM_connect_27 : decode cM_connect 27 = .ok (.iload_n 1, 1) := by decide +kernel
theorem dM_connect_28 : decode cM_connect 28 = .ok (.iaload, 1) := by decide +kernel
theorem dM_connect_29 : decode cM_connect 29 = .ok (.aload_n 0, 1) := by decide +kernel
theorem dM_connect_30 : decode cM_connect 30 = .ok (.getfield 16, 3) := by decide +kernel
theorem dM_connect_33 : decode cM_connect 33 = .ok (.iload_n 2, 1) := by decide +kernel
theorem dM_connect_34 : decode cM_connect 34 = .ok (.iaload, 1) := by decide +kernel
theorem dM_connect_35 : decode cM_connect 35 = .ok (.if_icmp .ne 12, 3) := by decide +kernel
theorem dM_connect_38 : decode cM_connect 38 = .ok (.aload_n 0, 1) := by decide +kernel
theorem dM_connect_39 : decode cM_connect 39 = .ok (.iload_n 1, 1) := by decide +kernel
theorem dM_connect_40 : decode cM_connect 40 = .ok (.iload_n 2, 1) := by decide +kernel
theorem dM_connect_41 : decode cM_connect 41 = .ok (.invokevirtual 82, 3) := by decide +kernel
theorem dM_connect_44 : decode cM_connect 44 = .ok (.ifCond .ne 6, 3) := by decide +kernel
theorem dM_connect_47 : decode cM_connect 47 = .ok (.bipush (-2), 2) := by decide +kernel
theorem dM_connect_49 : decode cM_connect 49 = .ok (.ireturn, 1) := by decide +kernel
theorem dM_connect_50 : decode cM_connect 50 = .ok (.aload_n 0, 1) := by decide +kernel
theorem dM_connect_51 : decode cM_connect 51 = .ok (.getfield 48, 3) := by decide +kernel
theorem dM_connect_54 : decode cM_connect 54 = .ok (.bipush 61, 2) := by decide +kernel
theorem dM_connect_56 : decode cM_connect 56 = .ok (.iload_n 1, 1) := by decide +kernel
theorem dM_connect_57 : decode cM_connect 57 = .ok (.imul, 1) := by decide +kernel
theorem dM_connect_58 : decode cM_connect 58 = .ok (.iload_n 2, 1) := by decide +kernel
theorem dM_connect_59 : decode cM_connect 59 = .ok (.iadd, 1) := by decide +kernel
theorem dM_connect_60 : decode cM_connect 60 = .ok (.baload, 1) := by decide +kernel
theorem dM_connect_61 : decode cM_connect 61 = .ok (.ifCond .eq 5, 3) := by decide +kernel
theorem dM_connect_64 : decode cM_connect 64 = .ok (.iconst 0, 1) := by decide +kernel
theorem dM_connect_65 : decode cM_connect 65 = .ok (.ireturn, 1) := by decide +kernel
theorem dM_connect_66 : decode cM_connect 66 = .ok (.aload_n 0, 1) := by decide +kernel
theorem dM_connect_67 : decode cM_connect 67 = .ok (.getfield 48, 3) := by decide +kernel
theorem dM_connect_70 : decode cM_connect 70 = .ok (.bipush 61, 2) := by decide +kernel
theorem dM_connect_72 : decode cM_connect 72 = .ok (.iload_n 1, 1) := by decide +kernel
theorem dM_connect_73 : decode cM_connect 73 = .ok (.imul, 1) := by decide +kernel
theorem dM_connect_74 : decode cM_connect 74 = .ok (.iload_n 2, 1) := by decide +kernel
theorem dM_connect_75 : decode cM_connect 75 = .ok (.iadd, 1) := by decide +kernel
theorem dM_connect_76 : decode cM_connect 76 = .ok (.iconst 1, 1) := by decide +kernel
theorem dM_connect_77 : decode cM_connect 77 = .ok (.bastore, 1) := by decide +kernel
theorem dM_connect_78 : decode cM_connect 78 = .ok (.aload_n 0, 1) := by decide +kernel
theorem dM_connect_79 : decode cM_connect 79 = .ok (.iconst 0, 1) := by decide +kernel
theorem dM_connect_80 : decode cM_connect 80 = .ok (.putfield 65, 3) := by decide +kernel
theorem dM_connect_83 : decode cM_connect 83 = .ok (.iconst 1, 1) := by decide +kernel
theorem dM_connect_84 : decode cM_connect 84 = .ok (.ireturn, 1) := by decide +kernel
theorem dM_know_0 : decode cM_know 0 = .ok (.aload_n 0, 1) := by decide +kernel
theorem dM_know_1 : decode cM_know 1 = .ok (.getfield 65, 3) := by decide +kernel
theorem dM_know_4 : decode cM_know 4 = .ok (.ifCond .eq 4, 3) := by decide +kernel
theorem dM_know_7 : decode cM_know 7 = .ok (.return_, 1) := by decide +kernel
theorem dM_know_8 : decode cM_know 8 = .ok (.aload_n 0, 1) := by decide +kernel
theorem dM_know_9 : decode cM_know 9 = .ok (.iconst 1, 1) := by decide +kernel
theorem dM_know_10 : decode cM_know 10 = .ok (.putfield 65, 3) := by decide +kernel
theorem dM_know_13 : decode cM_know 13 = .ok (.iconst 0, 1) := by decide +kernel
theorem dM_know_14 : decode cM_know 14 = .ok (.istore_n 1, 1) := by decide +kernel
theorem dM_know_15 : decode cM_know 15 = .ok (.iload_n 1, 1) := by decide +kernel
theorem dM_know_16 : decode cM_know 16 = .ok (.sipush 3721, 3) := by decide +kernel
theorem dM_know_19 : decode cM_know 19 = .ok (.if_icmp .ge 21, 3) := by decide +kernel
theorem dM_know_22 : decode cM_know 22 = .ok (.aload_n 0, 1) := by decide +kernel
theorem dM_know_23 : decode cM_know 23 = .ok (.getfield 51, 3) := by decide +kernel
theorem dM_know_26 : decode cM_know 26 = .ok (.iload_n 1, 1) := by decide +kernel
theorem dM_know_27 : decode cM_know 27 = .ok (.aload_n 0, 1) := by decide +kernel
theorem dM_know_28 : decode cM_know 28 = .ok (.getfield 48, 3) := by decide +kernel
theorem dM_know_31 : decode cM_know 31 = .ok (.iload_n 1, 1) := by decide +kernel
theorem dM_know_32 : decode cM_know 32 = .ok (.baload, 1) := by decide +kernel
theorem dM_know_33 : decode cM_know 33 = .ok (.bastore, 1) := by decide +kernel
theorem dM_know_34 : decode cM_know 34 = .ok (.iinc 1 1, 3) := by decide +kernel
theorem dM_know_37 : decode cM_know 37 = .ok (.goto (-22), 3) := by decide +kernel
theorem dM_know_40 : decode cM_know 40 = .ok (.iconst 1, 1) := by decide +kernel
theorem dM_know_41 : decode cM_know 41 = .ok (.istore_n 1, 1) := by decide +kernel
theorem dM_know_42 : decode cM_know 42 = .ok (.iload_n 1, 1) := by decide +kernel
theorem dM_know_43 : decode cM_know 43 = .ok (.aload_n 0, 1) := by decide +kernel
theorem dM_know_44 : decode cM_know 44 = .ok (.getfield 71, 3) := by decide +kernel
theorem dM_know_47 : decode cM_know 47 = .ok (.if_icmp .gt 99, 3) := by decide +kernel
theorem dM_know_50 : decode cM_know 50 = .ok (.iconst 1, 1) := by decide +kernel
theorem dM_know_51 : decode cM_know 51 = .ok (.istore_n 2, 1) := by decide +kernel
theorem dM_know_52 : decode cM_know 52 = .ok (.iload_n 2, 1) := by decide +kernel
theorem dM_know_53 : decode cM_know 53 = .ok (.aload_n 0, 1) := by decide +kernel
theorem dM_know_54 : decode cM_know 54 = .ok (.getfield 71, 3) := by decide +kernel
theorem dM_know_57 : decode cM_know 57 = .ok (.if_icmp .gt 83, 3) := by decide +kernel
theorem dM_know_60 : decode cM_know 60 = .ok (.iconst 1, 1) := by decide +kernel
theorem dM_know_61 : decode cM_know 61 = .ok (.istore_n 3, 1) := by decide +kernel
theorem dM_know_62 : decode cM_know 62 = .ok (.iload_n 3, 1) := by decide +kernel
theorem dM_know_63 : decode cM_know 63 = .ok (.aload_n 0, 1) := by decide +kernel
theorem dM_know_64 : decode cM_know 64 = .ok (.getfield 71, 3) := by decide +kernel
theorem dM_know_67 : decode cM_know 67 = .ok (.if_icmp .gt 67, 3) := by decide +kernel
theorem dM_know_70 : decode cM_know 70 = .ok (.aload_n 0, 1) := by decide +kernel
theorem dM_know_71 : decode cM_know 71 = .ok (.getfield 51, 3) := by decide +kernel
theorem dM_know_74 : decode cM_know 74 = .ok (.bipush 61, 2) := by decide +kernel
theorem dM_know_76 : decode cM_know 76 = .ok (.iload_n 2, 1) := by decide +kernel
theorem dM_know_77 : decode cM_know 77 = .ok (.imul, 1) := by decide +kernel
theorem dM_know_78 : decode cM_know 78 = .ok (.iload_n 1, 1) := by decide +kernel
theorem dM_know_79 : decode cM_know 79 = .ok (.iadd, 1) := by decide +kernel
theorem dM_know_80 : decode cM_know 80 = .ok (.baload, 1) := by decide +kernel
theorem dM_know_81 : decode cM_know 81 = .ok (.ifCond .eq 53, 3) := by decide +kernel
theorem dM_know_84 : decode cM_know 84 = .ok (.aload_n 0, 1) := by decide +kernel
theorem dM_know_85 : decode cM_know 85 = .ok (.getfield 51, 3) := by decide +kernel
theorem dM_know_88 : decode cM_know 88 = .ok (.bipush 61, 2) := by decide +kernel
theorem dM_know_90 : decode cM_know 90 = .ok (.iload_n 2, 1) := by decide +kernel
theorem dM_know_91 : decode cM_know 91 = .ok (.imul, 1) := by decide +kernel
theorem dM_know_92 : decode cM_know 92 = .ok (.iload_n 3, 1) := by decide +kernel
theorem dM_know_93 : decode cM_know 93 = .ok (.iadd, 1) := by decide +kernel
theorem dM_know_94 : decode cM_know 94 = .ok (.aload_n 0, 1) := by decide +kernel
theorem dM_know_95 : decode cM_know 95 = .ok (.getfield 51, 3) := by decide +kernel
theorem dM_know_98 : decode cM_know 98 = .ok (.bipush 61, 2) := by decide +kernel
theorem dM_know_100 : decode cM_know 100 = .ok (.iload_n 2, 1) := by decide +kernel
theorem dM_know_101 : decode cM_know 101 = .ok (.imul, 1) := by decide +kernel
theorem dM_know_102 : decode cM_know 102 = .ok (.iload_n 3, 1) := by decide +kernel
theorem dM_know_103 : decode cM_know 103 = .ok (.iadd, 1) := by decide +kernel
theorem dM_know_104 : decode cM_know 104 = .ok (.baload, 1) := by decide +kernel
theorem dM_know_105 : decode cM_know 105 = .ok (.ifCond .ne 17, 3) := by decide +kernel
theorem dM_know_108 : decode cM_know 108 = .ok (.aload_n 0, 1) := by decide +kernel
theorem dM_know_109 : decode cM_know 109 = .ok (.getfield 51, 3) := by decide +kernel
theorem dM_know_112 : decode cM_know 112 = .ok (.bipush 61, 2) := by decide +kernel
theorem dM_know_114 : decode cM_know 114 = .ok (.iload_n 1, 1) := by decide +kernel
theorem dM_know_115 : decode cM_know 115 = .ok (.imul, 1) := by decide +kernel
theorem dM_know_116 : decode cM_know 116 = .ok (.iload_n 3, 1) := by decide +kernel
theorem dM_know_117 : decode cM_know 117 = .ok (.iadd, 1) := by decide +kernel
theorem dM_know_118 : decode cM_know 118 = .ok (.baload, 1) := by decide +kernel
theorem dM_know_119 : decode cM_know 119 = .ok (.ifCond .eq 7, 3) := by decide +kernel
theorem dM_know_122 : decode cM_know 122 = .ok (.iconst 1, 1) := by decide +kernel
theorem dM_know_123 : decode cM_know 123 = .ok (.goto 4, 3) := by decide +kernel
theorem dM_know_126 : decode cM_know 126 = .ok (.iconst 0, 1) := by decide +kernel
theorem dM_know_127 : decode cM_know 127 = .ok (.bastore, 1) := by decide +kernel
theorem dM_know_128 : decode cM_know 128 = .ok (.iinc 3 1, 3) := by decide +kernel
theorem dM_know_131 : decode cM_know 131 = .ok (.goto (-69), 3) := by decide +kernel
theorem dM_know_134 : decode cM_know 134 = .ok (.iinc 2 1, 3) := by decide +kernel
theorem dM_know_137 : decode cM_know 137 = .ok (.goto (-85), 3) := by decide +kernel
theorem dM_know_140 : decode cM_know 140 = .ok (.iinc 1 1, 3) := by decide +kernel
theorem dM_know_143 : decode cM_know 143 = .ok (.goto (-101), 3) := by decide +kernel
theorem dM_know_146 : decode cM_know 146 = .ok (.return_, 1) := by decide +kernel
theorem dM_isAtomic_0 : decode cM_isAtomic 0 = .ok (.iconst 1, 1) := by decide +kernel
theorem dM_isAtomic_1 : decode cM_isAtomic 1 = .ok (.istore_n 2, 1) := by decide +kernel
theorem dM_isAtomic_2 : decode cM_isAtomic 2 = .ok (.iconst 1, 1) := by decide +kernel
theorem dM_isAtomic_3 : decode cM_isAtomic 3 = .ok (.istore_n 3, 1) := by decide +kernel
theorem dM_isAtomic_4 : decode cM_isAtomic 4 = .ok (.iload_n 3, 1) := by decide +kernel
theorem dM_isAtomic_5 : decode cM_isAtomic 5 = .ok (.aload_n 0, 1) := by decide +kernel
theorem dM_isAtomic_6 : decode cM_isAtomic 6 = .ok (.getfield 58, 3) := by decide +kernel
theorem dM_isAtomic_9 : decode cM_isAtomic 9 = .ok (.if_icmp .gt 29, 3) := by decide +kernel
theorem dM_isAtomic_12 : decode cM_isAtomic 12 = .ok (.iload_n 2, 1) := by decide +kernel
theorem dM_isAtomic_13 : decode cM_isAtomic 13 = .ok (.ifCond .eq 17, 3) := by decide +kernel
theorem dM_isAtomic_16 : decode cM_isAtomic 16 = .ok (.aload_n 0, 1) := by decide +kernel
theorem dM_isAtomic_17 : decode cM_isAtomic 17 = .ok (.getfield 7, 3) := by decide +kernel
theorem dM_isAtomic_20 : decode cM_isAtomic 20 = .ok (.iload_n 3, 1) := by decide +kernel
theorem dM_isAtomic_21 : decode cM_isAtomic 21 = .ok (.iaload, 1) := by decide +kernel
theorem dM_isAtomic_22 : decode cM_isAtomic 22 = .ok (.iload_n 1, 1) := by decide +kernel
theorem dM_isAtomic_23 : decode cM_isAtomic 23 = .ok (.if_icmp .eq 7, 3) := by decide +kernel
theorem dM_isAtomic_26 : decode cM_isAtomic 26 = .ok (.iconst 1, 1) := by decide +kernel
theorem dM_isAtomic_27 : decode cM_isAtomic 27 = .ok (.goto 4, 3) := by decide +kernel
theorem dM_isAtomic_30 : decode cM_isAtomic 30 = .ok (.iconst 0, 1) := by decide +kernel
theorem dM_isAtomic_31 : decode cM_isAtomic 31 = .ok (.istore_n 2, 1) := by decide +kernel
theorem dM_isAtomic_32 : decode cM_isAtomic 32 = .ok (.iinc 3 1, 3) := by decide +kernel
theorem dM_isAtomic_35 : decode cM_isAtomic 35 = .ok (.goto (-31), 3) := by decide +kernel
theorem dM_isAtomic_38 : decode cM_isAtomic 38 = .ok (.iload_n 2, 1) := by decide +kernel
theorem dM_isAtomic_39 : decode cM_isAtomic 39 = .ok (.ireturn, 1) := by decide +kernel
theorem dM_isFlat_0 : decode cM_isFlat 0 = .ok (.aload_n 0, 1) := by decide +kernel
theorem dM_isFlat_1 : decode cM_isFlat 1 = .ok (.getfield 19, 3) := by decide +kernel
theorem dM_isFlat_4 : decode cM_isFlat 4 = .ok (.iload_n 1, 1) := by decide +kernel
theorem dM_isFlat_5 : decode cM_isFlat 5 = .ok (.baload, 1) := by decide +kernel
theorem dM_isFlat_6 : decode cM_isFlat 6 = .ok (.ifCond .eq 56, 3) := by decide +kernel
theorem dM_isFlat_9 : decode cM_isFlat 9 = .ok (.aload_n 0, 1) := by decide +kernel
theorem dM_isFlat_10 : decode cM_isFlat 10 = .ok (.getfield 19, 3) := by decide +kernel
theorem dM_isFlat_13 : decode cM_isFlat 13 = .ok (.iload_n 2, 1) := by decide +kernel
theorem dM_isFlat_14 : decode cM_isFlat 14 = .ok (.baload, 1) := by decide +kernel
theorem dM_isFlat_15 : decode cM_isFlat 15 = .ok (.ifCond .ne 47, 3) := by decide +kernel
theorem dM_isFlat_18 : decode cM_isFlat 18 = .ok (.aload_n 0, 1) := by decide +kernel
theorem dM_isFlat_19 : decode cM_isFlat 19 = .ok (.getfield 51, 3) := by decide +kernel
theorem dM_isFlat_22 : decode cM_isFlat 22 = .ok (.bipush 61, 2) := by decide +kernel
theorem dM_isFlat_24 : decode cM_isFlat 24 = .ok (.iload_n 1, 1) := by decide +kernel
theorem dM_isFlat_25 : decode cM_isFlat 25 = .ok (.imul, 1) := by decide +kernel
theorem dM_isFlat_26 : decode cM_isFlat 26 = .ok (.iload_n 2, 1) := by decide +kernel
theorem dM_isFlat_27 : decode cM_isFlat 27 = .ok (.iadd, 1) := by decide +kernel
theorem dM_isFlat_28 : decode cM_isFlat 28 = .ok (.baload, 1) := by decide +kernel
theorem dM_isFlat_29 : decode cM_isFlat 29 = .ok (.ifCond .eq 33, 3) := by decide +kernel
theorem dM_isFlat_32 : decode cM_isFlat 32 = .ok (.aload_n 0, 1) := by decide +kernel
theorem dM_isFlat_33 : decode cM_isFlat 33 = .ok (.aload_n 0, 1) := by decide +kernel
theorem dM_isFlat_34 : decode cM_isFlat 34 = .ok (.getfield 13, 3) := by decide +kernel
theorem dM_isFlat_37 : decode cM_isFlat 37 = .ok (.iload_n 1, 1) := by decide +kernel
theorem dM_isFlat_38 : decode cM_isFlat 38 = .ok (.iaload, 1) := by decide +kernel
theorem dM_isFlat_39 : decode cM_isFlat 39 = .ok (.invokevirtual 86, 3) := by decide +kernel
theorem dM_isFlat_42 : decode cM_isFlat 42 = .ok (.ifCond .eq 20, 3) := by decide +kernel
theorem dM_isFlat_45 : decode cM_isFlat 45 = .ok (.aload_n 0, 1) := by decide +kernel
theorem dM_isFlat_46 : decode cM_isFlat 46 = .ok (.aload_n 0, 1) := by decide +kernel
theorem dM_isFlat_47 : decode cM_isFlat 47 = .ok (.getfield 13, 3) := by decide +kernel
theorem dM_isFlat_50 : decode cM_isFlat 50 = .ok (.iload_n 2, 1) := by decide +kernel
theorem dM_isFlat_51 : decode cM_isFlat 51 = .ok (.iaload, 1) := by decide +kernel
theorem dM_isFlat_52 : decode cM_isFlat 52 = .ok (.invokevirtual 86, 3) := by decide +kernel
theorem dM_isFlat_55 : decode cM_isFlat 55 = .ok (.ifCond .eq 7, 3) := by decide +kernel
theorem dM_isFlat_58 : decode cM_isFlat 58 = .ok (.iconst 1, 1) := by decide +kernel
theorem dM_isFlat_59 : decode cM_isFlat 59 = .ok (.goto 4, 3) := by decide +kernel
theorem dM_isFlat_62 : decode cM_isFlat 62 = .ok (.iconst 0, 1) := by decide +kernel
theorem dM_isFlat_63 : decode cM_isFlat 63 = .ok (.ireturn, 1) := by decide +kernel
theorem dM_flat_0 : decode cM_flat 0 = .ok (.aload_n 0, 1) := by decide +kernel
theorem dM_flat_1 : decode cM_flat 1 = .ok (.invokevirtual 89, 3) := by decide +kernel
theorem dM_flat_4 : decode cM_flat 4 = .ok (.iconst 0, 1) := by decide +kernel
theorem dM_flat_5 : decode cM_flat 5 = .ok (.istore_n 2, 1) := by decide +kernel
theorem dM_flat_6 : decode cM_flat 6 = .ok (.iconst 1, 1) := by decide +kernel
theorem dM_flat_7 : decode cM_flat 7 = .ok (.istore_n 3, 1) := by decide +kernel
theorem dM_flat_8 : decode cM_flat 8 = .ok (.iload_n 3, 1) := by decide +kernel
theorem dM_flat_9 : decode cM_flat 9 = .ok (.aload_n 0, 1) := by decide +kernel
theorem dM_flat_10 : decode cM_flat 10 = .ok (.getfield 71, 3) := by decide +kernel
theorem dM_flat_13 : decode cM_flat 13 = .ok (.if_icmp .gt 53, 3) := by decide +kernel
theorem dM_flat_16 : decode cM_flat 16 = .ok (.iconst 1, 1) := by decide +kernel
theorem dM_flat_17 : decode cM_flat 17 = .ok (.istore 4, 2) := by decide +kernel
theorem dM_flat_19 : decode cM_flat 19 = .ok (.iload 4, 2) := by decide +kernel
theorem dM_flat_21 : decode cM_flat 21 = .ok (.aload_n 0, 1) := by decide +kernel
theorem dM_flat_22 : decode cM_flat 22 = .ok (.getfield 71, 3) := by decide +kernel
theorem dM_flat_25 : decode cM_flat 25 = .ok (.if_icmp .gt 35, 3) := by decide +kernel
theorem dM_flat_28 : decode cM_flat 28 = .ok (.aload_n 0, 1) := by decide +kernel
theorem dM_flat_29 : decode cM_flat 29 = .ok (.iload_n 3, 1) := by decide +kernel
theorem dM_flat_30 : decode cM_flat 30 = .ok (.iload 4, 2) := by decide +kernel
theorem dM_flat_32 : decode cM_flat 32 = .ok (.invokevirtual 92, 3) := by decide +kernel
theorem dM_flat_35 : decode cM_flat 35 = .ok (.ifCond .eq 19, 3) := by decide +kernel
theorem dM_flat_38 : decode cM_flat 38 = .ok (.iload_n 2, 1) := by decide +kernel
theorem dM_flat_39 : decode cM_flat 39 = .ok (.iload_n 1, 1) := by decide +kernel
theorem dM_flat_40 : decode cM_flat 40 = .ok (.if_icmp .ne 11, 3) := by decide +kernel
theorem dM_flat_43 : decode cM_flat 43 = .ok (.bipush 61, 2) := by decide +kernel
theorem dM_flat_45 : decode cM_flat 45 = .ok (.iload_n 3, 1) := by decide +kernel
theorem dM_flat_46 : decode cM_flat 46 = .ok (.imul, 1) := by decide +kernel
theorem dM_flat_47 : decode cM_flat 47 = .ok (.iload 4, 2) := by decide +kernel
theorem dM_flat_49 : decode cM_flat 49 = .ok (.iadd, 1) := by decide +kernel
theorem dM_flat_50 : decode cM_flat 50 = .ok (.ireturn, 1) := by decide +kernel
theorem dM_flat_51 : decode cM_flat 51 = .ok (.iinc 2 1, 3) := by decide +kernel
theorem dM_flat_54 : decode cM_flat 54 = .ok (.iinc 4 1, 3) := by decide +kernel
theorem dM_flat_57 : decode cM_flat 57 = .ok (.goto (-38), 3) := by decide +kernel
theorem dM_flat_60 : decode cM_flat 60 = .ok (.iinc 3 1, 3) := by decide +kernel
theorem dM_flat_63 : decode cM_flat 63 = .ok (.goto (-55), 3) := by decide +kernel
theorem dM_flat_66 : decode cM_flat 66 = .ok (.iload_n 2, 1) := by decide +kernel
theorem dM_flat_67 : decode cM_flat 67 = .ok (.sipush 10000, 3) := by decide +kernel
theorem dM_flat_70 : decode cM_flat 70 = .ok (.isub, 1) := by decide +kernel
theorem dM_flat_71 : decode cM_flat 71 = .ok (.ireturn, 1) := by decide +kernel
theorem dM_flatten_0 : decode cM_flatten 0 = .ok (.aload_n 0, 1) := by decide +kernel
theorem dM_flatten_1 : decode cM_flatten 1 = .ok (.iconst 0, 1) := by decide +kernel
theorem dM_flatten_2 : decode cM_flatten 2 = .ok (.putfield 54, 3) := by decide +kernel
theorem dM_flatten_5 : decode cM_flatten 5 = .ok (.aload_n 0, 1) := by decide +kernel
theorem dM_flatten_6 : decode cM_flatten 6 = .ok (.iconst (-1), 1) := by decide +kernel
theorem dM_flatten_7 : decode cM_flatten 7 = .ok (.invokevirtual 95, 3) := by decide +kernel
theorem dM_flatten_10 : decode cM_flatten 10 = .ok (.sipush 10000, 3) := by decide +kernel
theorem dM_flatten_13 : decode cM_flatten 13 = .ok (.iadd, 1) := by decide +kernel
theorem dM_flatten_14 : decode cM_flatten 14 = .ok (.ireturn, 1) := by decide +kernel
theorem dM_at_0 : decode cM_at 0 = .ok (.iload_n 1, 1) := by decide +kernel
theorem dM_at_1 : decode cM_at 1 = .ok (.ifCond .ge 7, 3) := by decide +kernel
theorem dM_at_4 : decode cM_at 4 = .ok (.iconst (-1), 1) := by decide +kernel
theorem dM_at_5 : decode cM_at 5 = .ok (.goto 8, 3) := by decide +kernel
theorem dM_at_8 : decode cM_at 8 = .ok (.aload_n 0, 1) := by decide +kernel
theorem dM_at_9 : decode cM_at 9 = .ok (.iload_n 1, 1) := by decide +kernel
theorem dM_at_10 : decode cM_at 10 = .ok (.invokevirtual 95, 3) := by decide +kernel
theorem dM_at_13 : decode cM_at 13 = .ok (.istore_n 3, 1) := by decide +kernel
theorem dM_at_14 : decode cM_at 14 = .ok (.aload_n 0, 1) := by decide +kernel
theorem dM_at_15 : decode cM_at 15 = .ok (.iload_n 3, 1) := by decide +kernel
theorem dM_at_16 : decode cM_at 16 = .ok (.ifCond .ge 7, 3) := by decide +kernel
theorem dM_at_19 : decode cM_at 19 = .ok (.iconst 1, 1) := by decide +kernel
theorem dM_at_20 : decode cM_at 20 = .ok (.goto 4, 3) := by decide +kernel
theorem dM_at_23 : decode cM_at 23 = .ok (.iconst 0, 1) := by decide +kernel
theorem dM_at_24 : decode cM_at 24 = .ok (.putfield 54, 3) := by decide +kernel
theorem dM_at_27 : decode cM_at 27 = .ok (.aload_n 0, 1) := by decide +kernel
theorem dM_at_28 : decode cM_at 28 = .ok (.getfield 54, 3) := by decide +kernel
theorem dM_at_31 : decode cM_at 31 = .ok (.ifCond .le 7, 3) := by decide +kernel
theorem dM_at_34 : decode cM_at 34 = .ok (.iconst 0, 1) := by decide +kernel
theorem dM_at_35 : decode cM_at 35 = .ok (.goto 18, 3) := by decide +kernel
theorem dM_at_38 : decode cM_at 38 = .ok (.iload_n 2, 1) := by decide +kernel
theorem dM_at_39 : decode cM_at 39 = .ok (.ifCond .ne 10, 3) := by decide +kernel
theorem dM_at_42 : decode cM_at 42 = .ok (.iload_n 3, 1) := by decide +kernel
theorem dM_at_43 : decode cM_at 43 = .ok (.bipush 61, 2) := by decide +kernel
theorem dM_at_45 : decode cM_at 45 = .ok (.idiv, 1) := by decide +kernel
theorem dM_at_46 : decode cM_at 46 = .ok (.goto 7, 3) := by decide +kernel
theorem dM_at_49 : decode cM_at 49 = .ok (.iload_n 3, 1) := by decide +kernel
theorem dM_at_50 : decode cM_at 50 = .ok (.bipush 61, 2) := by decide +kernel
theorem dM_at_52 : decode cM_at 52 = .ok (.irem, 1) := by decide +kernel
theorem dM_at_53 : decode cM_at 53 = .ok (.ireturn, 1) := by decide +kernel
theorem dM_isManaging_0 : decode cM_isManaging 0 = .ok (.iconst 0, 1) := by decide +kernel
theorem dM_isManaging_1 : decode cM_isManaging 1 = .ok (.istore_n 2, 1) := by decide +kernel
theorem dM_isManaging_2 : decode cM_isManaging 2 = .ok (.iconst 0, 1) := by decide +kernel
theorem dM_isManaging_3 : decode cM_isManaging 3 = .ok (.istore_n 3, 1) := by decide +kernel
theorem dM_isManaging_4 : decode cM_isManaging 4 = .ok (.iload_n 3, 1) := by decide +kernel
theorem dM_isManaging_5 : decode cM_isManaging 5 = .ok (.bipush 10, 2) := by decide +kernel
theorem dM_isManaging_7 : decode cM_isManaging 7 = .ok (.if_icmp .ge 29, 3) := by decide +kernel
theorem dM_isManaging_10 : decode cM_isManaging 10 = .ok (.iload_n 2, 1) := by decide +kernel
theorem dM_isManaging_11 : decode cM_isManaging 11 = .ok (.ifCond .ne 13, 3) := by decide +kernel
theorem dM_isManaging_14 : decode cM_isManaging 14 = .ok (.aload_n 0, 1) := by decide +kernel
theorem dM_isManaging_15 : decode cM_isManaging 15 = .ok (.getfield 45, 3) := by decide +kernel
theorem dM_isManaging_18 : decode cM_isManaging 18 = .ok (.iload_n 3, 1) := by decide +kernel
theorem dM_isManaging_19 : decode cM_isManaging 19 = .ok (.iaload, 1) := by decide +kernel
theorem dM_isManaging_20 : decode cM_isManaging 20 = .ok (.iload_n 1, 1) := by decide +kernel
theorem dM_isManaging_21 : decode cM_isManaging 21 = .ok (.if_icmp .ne 7, 3) := by decide +kernel
theorem dM_isManaging_24 : decode cM_isManaging 24 = .ok (.iconst 1, 1) := by decide +kernel
theorem dM_isManaging_25 : decode cM_isManaging 25 = .ok (.goto 4, 3) := by decide +kernel
theorem dM_isManaging_28 : decode cM_isManaging 28 = .ok (.iconst 0, 1) := by decide +kernel
theorem dM_isManaging_29 : decode cM_isManaging 29 = .ok (.istore_n 2, 1) := by decide +kernel
theorem dM_isManaging_30 : decode cM_isManaging 30 = .ok (.iinc 3 1, 3) := by decide +kernel
theorem dM_isManaging_33 : decode cM_isManaging 33 = .ok (.goto (-29), 3) := by decide +kernel
theorem dM_isManaging_36 : decode cM_isManaging 36 = .ok (.iload_n 2, 1) := by decide +kernel
theorem dM_isManaging_37 : decode cM_isManaging 37 = .ok (.ireturn, 1) := by decide +kernel
theorem dM_isBroken_0 : decode cM_isBroken 0 = .ok (.aload_n 0, 1) := by decide +kernel
theorem dM_isBroken_1 : decode cM_isBroken 1 = .ok (.getfield 23, 3) := by decide +kernel
theorem dM_isBroken_4 : decode cM_isBroken 4 = .ok (.iload_n 2, 1) := by decide +kernel
theorem dM_isBroken_5 : decode cM_isBroken 5 = .ok (.iaload, 1) := by decide +kernel
theorem dM_isBroken_6 : decode cM_isBroken 6 = .ok (.ifCond .lt 16, 3) := by decide +kernel
theorem dM_isBroken_9 : decode cM_isBroken 9 = .ok (.aload_n 0, 1) := by decide +kernel
theorem dM_isBroken_10 : decode cM_isBroken 10 = .ok (.getfield 23, 3) := by decide +kernel
theorem dM_isBroken_13 : decode cM_isBroken 13 = .ok (.iload_n 3, 1) := by decide +kernel
theorem dM_isBroken_14 : decode cM_isBroken 14 = .ok (.iaload, 1) := by decide +kernel
theorem dM_isBroken_15 : decode cM_isBroken 15 = .ok (.ifCond .lt 7, 3) := by decide +kernel
theorem dM_isBroken_18 : decode cM_isBroken 18 = .ok (.iconst 1, 1) := by decide +kernel
theorem dM_isBroken_19 : decode cM_isBroken 19 = .ok (.goto 4, 3) := by decide +kernel
theorem dM_isBroken_22 : decode cM_isBroken 22 = .ok (.iconst 0, 1) := by decide +kernel
theorem dM_isBroken_23 : decode cM_isBroken 23 = .ok (.istore 4, 2) := by decide +kernel
theorem dM_isBroken_25 : decode cM_isBroken 25 = .ok (.iload_n 1, 1) := by decide +kernel
theorem dM_isBroken_26 : decode cM_isBroken 26 = .ok (.tableswitch 187 1 4 #[30, 67, 93, 136], 30) := by decide +kernel
theorem dM_isBroken_56 : decode cM_isBroken 56 = .ok (.aload_n 0, 1) := by decide +kernel
theorem dM_isBroken_57 : decode cM_isBroken 57 = .ok (.getfield 23, 3) := by decide +kernel
theorem dM_isBroken_60 : decode cM_isBroken 60 = .ok (.iload_n 2, 1) := by decide +kernel
theorem dM_isBroken_61 : decode cM_isBroken 61 = .ok (.iaload, 1) := by decide +kernel
theorem dM_isBroken_62 : decode cM_isBroken 62 = .ok (.ifCond .lt 7, 3) := by decide +kernel
theorem dM_isBroken_65 : decode cM_isBroken 65 = .ok (.iconst 1, 1) := by decide +kernel
theorem dM_isBroken_66 : decode cM_isBroken 66 = .ok (.goto 4, 3) := by decide +kernel
theorem dM_isBroken_69 : decode cM_isBroken 69 = .ok (.iconst 0, 1) := by decide +kernel
theorem dM_isBroken_70 : decode cM_isBroken 70 = .ok (.aload_n 0, 1) := by decide +kernel
theorem dM_isBroken_71 : decode cM_isBroken 71 = .ok (.getfield 23, 3) := by decide +kernel
theorem dM_isBroken_74 : decode cM_isBroken 74 = .ok (.iload_n 3, 1) := by decide +kernel
theorem dM_isBroken_75 : decode cM_isBroken 75 = .ok (.iaload, 1) := by decide +kernel
theorem dM_isBroken_76 : decode cM_isBroken 76 = .ok (.ifCond .lt 7, 3) := by decide +kernel
theorem dM_isBroken_79 : decode cM_isBroken 79 = .ok (.iconst 1, 1) := by decide +kernel
theorem dM_isBroken_80 : decode cM_isBroken 80 = .ok (.goto 4, 3) := by decide +kernel
theorem dM_isBroken_83 : decode cM_isBroken 83 = .ok (.iconst 0, 1) := by decide +kernel
theorem dM_isBroken_84 : decode cM_isBroken 84 = .ok (.if_icmp .eq 7, 3) := by decide +kernel
theorem dM_isBroken_87 : decode cM_isBroken 87 = .ok (.iconst 1, 1) := by decide +kernel
theorem dM_isBroken_88 : decode cM_isBroken 88 = .ok (.goto 4, 3) := by decide +kernel
theorem dM_isBroken_91 : decode cM_isBroken 91 = .ok (.iconst 0, 1) := by decide +kernel
theorem dM_isBroken_92 : decode cM_isBroken 92 = .ok (.ireturn, 1) := by decide +kernel
theorem dM_isBroken_93 : decode cM_isBroken 93 = .ok (.iload 4, 2) := by decide +kernel
theorem dM_isBroken_95 : decode cM_isBroken 95 = .ok (.ifCond .eq 22, 3) := by decide +kernel
theorem dM_isBroken_98 : decode cM_isBroken 98 = .ok (.aload_n 0, 1) := by decide +kernel
theorem dM_isBroken_99 : decode cM_isBroken 99 = .ok (.getfield 23, 3) := by decide +kernel
theorem dM_isBroken_102 : decode cM_isBroken 102 = .ok (.iload_n 2, 1) := by decide +kernel
theorem dM_isBroken_103 : decode cM_isBroken 103 = .ok (.iaload, 1) := by decide +kernel
theorem dM_isBroken_104 : decode cM_isBroken 104 = .ok (.aload_n 0, 1) := by decide +kernel
theorem dM_isBroken_105 : decode cM_isBroken 105 = .ok (.getfield 23, 3) := by decide +kernel
theorem dM_isBroken_108 : decode cM_isBroken 108 = .ok (.iload_n 3, 1) := by decide +kernel
theorem dM_isBroken_109 : decode cM_isBroken 109 = .ok (.iaload, 1) := by decide +kernel
theorem dM_isBroken_110 : decode cM_isBroken 110 = .ok (.if_icmp .eq 7, 3) := by decide +kernel
theorem dM_isBroken_113 : decode cM_isBroken 113 = .ok (.iconst 1, 1) := by decide +kernel
theorem dM_isBroken_114 : decode cM_isBroken 114 = .ok (.goto 4, 3) := by decide +kernel
theorem dM_isBroken_117 : decode cM_isBroken 117 = .ok (.iconst 0, 1) := by decide +kernel
theorem dM_isBroken_118 : decode cM_isBroken 118 = .ok (.ireturn, 1) := by decide +kernel
theorem dM_isBroken_119 : decode cM_isBroken 119 = .ok (.iload 4, 2) := by decide +kernel
theorem dM_isBroken_121 : decode cM_isBroken 121 = .ok (.ifCond .eq 39, 3) := by decide +kernel
theorem dM_isBroken_124 : decode cM_isBroken 124 = .ok (.aload_n 0, 1) := by decide +kernel
theorem dM_isBroken_125 : decode cM_isBroken 125 = .ok (.getfield 26, 3) := by decide +kernel
theorem dM_isBroken_128 : decode cM_isBroken 128 = .ok (.iload_n 2, 1) := by decide +kernel
theorem dM_isBroken_129 : decode cM_isBroken 129 = .ok (.laload, 1) := by decide +kernel
theorem dM_isBroken_130 : decode cM_isBroken 130 = .ok (.aload_n 0, 1) := by decide +kernel
theorem dM_isBroken_131 : decode cM_isBroken 131 = .ok (.getfield 30, 3) := by decide +kernel
theorem dM_isBroken_134 : decode cM_isBroken 134 = .ok (.iload_n 3, 1) := by decide +kernel
theorem dM_isBroken_135 : decode cM_isBroken 135 = .ok (.laload, 1) := by decide +kernel
theorem dM_isBroken_136 : decode cM_isBroken 136 = .ok (.lmul, 1) := by decide +kernel
theorem dM_isBroken_137 : decode cM_isBroken 137 = .ok (.aload_n 0, 1) := by decide +kernel
theorem dM_isBroken_138 : decode cM_isBroken 138 = .ok (.getfield 30, 3) := by decide +kernel
theorem dM_isBroken_141 : decode cM_isBroken 141 = .ok (.iload_n 2, 1) := by decide +kernel
theorem dM_isBroken_142 : decode cM_isBroken 142 = .ok (.laload, 1) := by decide +kernel
theorem dM_isBroken_143 : decode cM_isBroken 143 = .ok (.aload_n 0, 1) := by decide +kernel
theorem dM_isBroken_144 : decode cM_isBroken 144 = .ok (.getfield 26, 3) := by decide +kernel
theorem dM_isBroken_147 : decode cM_isBroken 147 = .ok (.iload_n 3, 1) := by decide +kernel
theorem dM_isBroken_148 : decode cM_isBroken 148 = .ok (.laload, 1) := by decide +kernel
theorem dM_isBroken_149 : decode cM_isBroken 149 = .ok (.lmul, 1) := by decide +kernel
theorem dM_isBroken_150 : decode cM_isBroken 150 = .ok (.lrem, 1) := by decide +kernel
theorem dM_isBroken_151 : decode cM_isBroken 151 = .ok (.lconst 0, 1) := by decide +kernel
theorem dM_isBroken_152 : decode cM_isBroken 152 = .ok (.lcmp, 1) := by decide +kernel
theorem dM_isBroken_153 : decode cM_isBroken 153 = .ok (.ifCond .eq 7, 3) := by decide +kernel
theorem dM_isBroken_156 : decode cM_isBroken 156 = .ok (.iconst 1, 1) := by decide +kernel
theorem dM_isBroken_157 : decode cM_isBroken 157 = .ok (.goto 4, 3) := by decide +kernel
theorem dM_isBroken_160 : decode cM_isBroken 160 = .ok (.iconst 0, 1) := by decide +kernel
theorem dM_isBroken_161 : decode cM_isBroken 161 = .ok (.ireturn, 1) := by decide +kernel
theorem dM_isBroken_162 : decode cM_isBroken 162 = .ok (.aload_n 0, 1) := by decide +kernel
theorem dM_isBroken_163 : decode cM_isBroken 163 = .ok (.getfield 33, 3) := by decide +kernel
theorem dM_isBroken_166 : decode cM_isBroken 166 = .ok (.iload_n 3, 1) := by decide +kernel
theorem dM_isBroken_167 : decode cM_isBroken 167 = .ok (.iaload, 1) := by decide +kernel
theorem dM_isBroken_168 : decode cM_isBroken 168 = .ok (.ifCond .lt 43, 3) := by decide +kernel
theorem dM_isBroken_171 : decode cM_isBroken 171 = .ok (.aload_n 0, 1) := by decide +kernel
theorem dM_isBroken_172 : decode cM_isBroken 172 = .ok (.getfield 33, 3) := by decide +kernel
theorem dM_isBroken_175 : decode cM_isBroken 175 = .ok (.iload_n 2, 1) := by decide +kernel
theorem dM_isBroken_176 : decode cM_isBroken 176 = .ok (.iaload, 1) := by decide +kernel
theorem dM_isBroken_177 : decode cM_isBroken 177 = .ok (.aload_n 0, 1) := by decide +kernel
theorem dM_isBroken_178 : decode cM_isBroken 178 = .ok (.getfield 33, 3) := by decide +kernel
theorem dM_isBroken_181 : decode cM_isBroken 181 = .ok (.iload_n 3, 1) := by decide +kernel
theorem dM_isBroken_182 : decode cM_isBroken 182 = .ok (.iaload, 1) := by decide +kernel
theorem dM_isBroken_183 : decode cM_isBroken 183 = .ok (.if_icmp .lt 24, 3) := by decide +kernel
theorem dM_isBroken_186 : decode cM_isBroken 186 = .ok (.aload_n 0, 1) := by decide +kernel
theorem dM_isBroken_187 : decode cM_isBroken 187 = .ok (.getfield 33, 3) := by decide +kernel
theorem dM_isBroken_190 : decode cM_isBroken 190 = .ok (.iload_n 2, 1) := by decide +kernel
theorem dM_isBroken_191 : decode cM_isBroken 191 = .ok (.iaload, 1) := by decide +kernel
theorem dM_isBroken_192 : decode cM_isBroken 192 = .ok (.bipush 100, 2) := by decide +kernel
theorem dM_isBroken_194 : decode cM_isBroken 194 = .ok (.idiv, 1) := by decide +kernel
theorem dM_isBroken_195 : decode cM_isBroken 195 = .ok (.aload_n 0, 1) := by decide +kernel
theorem dM_isBroken_196 : decode cM_isBroken 196 = .ok (.getfield 33, 3) := by decide +kernel
theorem dM_isBroken_199 : decode cM_isBroken 199 = .ok (.iload_n 3, 1) := by decide +kernel
theorem dM_isBroken_200 : decode cM_isBroken 200 = .ok (.iaload, 1) := by decide +kernel
theorem dM_isBroken_201 : decode cM_isBroken 201 = .ok (.bipush 100, 2) := by decide +kernel
theorem dM_isBroken_203 : decode cM_isBroken 203 = .ok (.idiv, 1) := by decide +kernel
theorem dM_isBroken_204 : decode cM_isBroken 204 = .ok (.if_icmp .eq 7, 3) := by decide +kernel
theorem dM_isBroken_207 : decode cM_isBroken 207 = .ok (.iconst 1, 1) := by decide +kernel
theorem dM_isBroken_208 : decode cM_isBroken 208 = .ok (.goto 4, 3) := by decide +kernel
theorem dM_isBroken_211 : decode cM_isBroken 211 = .ok (.iconst 0, 1) := by decide +kernel
theorem dM_isBroken_212 : decode cM_isBroken 212 = .ok (.ireturn, 1) := by decide +kernel
theorem dM_isBroken_213 : decode cM_isBroken 213 = .ok (.aload_n 0, 1) := by decide +kernel
theorem dM_isBroken_214 : decode cM_isBroken 214 = .ok (.getfield 16, 3) := by decide +kernel
theorem dM_isBroken_217 : decode cM_isBroken 217 = .ok (.iload_n 2, 1) := by decide +kernel
theorem dM_isBroken_218 : decode cM_isBroken 218 = .ok (.iaload, 1) := by decide +kernel
theorem dM_isBroken_219 : decode cM_isBroken 219 = .ok (.iconst 3, 1) := by decide +kernel
theorem dM_isBroken_220 : decode cM_isBroken 220 = .ok (.if_icmp .ne 20, 3) := by decide +kernel
theorem dM_isBroken_223 : decode cM_isBroken 223 = .ok (.aload_n 0, 1) := by decide +kernel
theorem dM_isBroken_224 : decode cM_isBroken 224 = .ok (.aload_n 0, 1) := by decide +kernel
theorem dM_isBroken_225 : decode cM_isBroken 225 = .ok (.getfield 13, 3) := by decide +kernel
theorem dM_isBroken_228 : decode cM_isBroken 228 = .ok (.iload_n 2, 1) := by decide +kernel
theorem dM_isBroken_229 : decode cM_isBroken 229 = .ok (.iaload, 1) := by decide +kernel
theorem dM_isBroken_230 : decode cM_isBroken 230 = .ok (.invokevirtual 99, 3) := by decide +kernel
theorem dM_isBroken_233 : decode cM_isBroken 233 = .ok (.ifCond .ne 7, 3) := by decide +kernel
theorem dM_isBroken_236 : decode cM_isBroken 236 = .ok (.iconst 1, 1) := by decide +kernel
theorem dM_isBroken_237 : decode cM_isBroken 237 = .ok (.goto 4, 3) := by decide +kernel
theorem dM_isBroken_240 : decode cM_isBroken 240 = .ok (.iconst 0, 1) := by decide +kernel
theorem dM_isBroken_241 : decode cM_isBroken 241 = .ok (.ireturn, 1) := by decide +kernel
theorem dM_leadTo_0 : decode cM_leadTo 0 = .ok (.aload_n 0, 1) := by decide +kernel
theorem dM_leadTo_1 : decode cM_leadTo 1 = .ok (.invokevirtual 89, 3) := by decide +kernel
theorem dM_leadTo_4 : decode cM_leadTo 4 = .ok (.iconst 0, 1) := by decide +kernel
theorem dM_leadTo_5 : decode cM_leadTo 5 = .ok (.istore_n 2, 1) := by decide +kernel
theorem dM_leadTo_6 : decode cM_leadTo 6 = .ok (.iconst 1, 1) := by decide +kernel
theorem dM_leadTo_7 : decode cM_leadTo 7 = .ok (.istore_n 3, 1) := by decide +kernel
theorem dM_leadTo_8 : decode cM_leadTo 8 = .ok (.iload_n 3, 1) := by decide +kernel
theorem dM_leadTo_9 : decode cM_leadTo 9 = .ok (.aload_n 0, 1) := by decide +kernel
theorem dM_leadTo_10 : decode cM_leadTo 10 = .ok (.getfield 71, 3) := by decide +kernel
theorem dM_leadTo_13 : decode cM_leadTo 13 = .ok (.if_icmp .gt 26, 3) := by decide +kernel
theorem dM_leadTo_16 : decode cM_leadTo 16 = .ok (.iload_n 2, 1) := by decide +kernel
theorem dM_leadTo_17 : decode cM_leadTo 17 = .ok (.aload_n 0, 1) := by decide +kernel
theorem dM_leadTo_18 : decode cM_leadTo 18 = .ok (.iload_n 3, 1) := by decide +kernel
theorem dM_leadTo_19 : decode cM_leadTo 19 = .ok (.iload_n 1, 1) := by decide +kernel
theorem dM_leadTo_20 : decode cM_leadTo 20 = .ok (.invokevirtual 92, 3) := by decide +kernel
theorem dM_leadTo_23 : decode cM_leadTo 23 = .ok (.ifCond .eq 7, 3) := by decide +kernel
theorem dM_leadTo_26 : decode cM_leadTo 26 = .ok (.iconst 1, 1) := by decide +kernel
theorem dM_leadTo_27 : decode cM_leadTo 27 = .ok (.goto 4, 3) := by decide +kernel
theorem dM_leadTo_30 : decode cM_leadTo 30 = .ok (.iconst 0, 1) := by decide +kernel
theorem dM_leadTo_31 : decode cM_leadTo 31 = .ok (.iadd, 1) := by decide +kernel
theorem dM_leadTo_32 : decode cM_leadTo 32 = .ok (.istore_n 2, 1) := by decide +kernel
theorem dM_leadTo_33 : decode cM_leadTo 33 = .ok (.iinc 3 1, 3) := by decide +kernel
theorem dM_leadTo_36 : decode cM_leadTo 36 = .ok (.goto (-28), 3) := by decide +kernel
theorem dM_leadTo_39 : decode cM_leadTo 39 = .ok (.iload_n 2, 1) := by decide +kernel
theorem dM_leadTo_40 : decode cM_leadTo 40 = .ok (.ireturn, 1) := by decide +kernel
theorem dM_isBrokenAt_0 : decode cM_isBrokenAt 0 = .ok (.aload_n 0, 1) := by decide +kernel
theorem dM_isBrokenAt_1 : decode cM_isBrokenAt 1 = .ok (.iload_n 2, 1) := by decide +kernel
theorem dM_isBrokenAt_2 : decode cM_isBrokenAt 2 = .ok (.invokevirtual 102, 3) := by decide +kernel
theorem dM_isBrokenAt_5 : decode cM_isBrokenAt 5 = .ok (.istore_n 3, 1) := by decide +kernel
theorem dM_isBrokenAt_6 : decode cM_isBrokenAt 6 = .ok (.iload_n 1, 1) := by decide +kernel
theorem dM_isBrokenAt_7 : decode cM_isBrokenAt 7 = .ok (.tableswitch 95 5 7 #[25, 54, 74], 25) := by decide +kernel
theorem dM_isBrokenAt_32 : decode cM_isBrokenAt 32 = .ok (.aload_n 0, 1) := by decide +kernel
theorem dM_isBrokenAt_33 : decode cM_isBrokenAt 33 = .ok (.getfield 16, 3) := by decide +kernel
theorem dM_isBrokenAt_36 : decode cM_isBrokenAt 36 = .ok (.iload_n 2, 1) := by decide +kernel
theorem dM_isBrokenAt_37 : decode cM_isBrokenAt 37 = .ok (.iaload, 1) := by decide +kernel
theorem dM_isBrokenAt_38 : decode cM_isBrokenAt 38 = .ok (.iconst 2, 1) := by decide +kernel
theorem dM_isBrokenAt_39 : decode cM_isBrokenAt 39 = .ok (.if_icmp .eq 20, 3) := by decide +kernel
theorem dM_isBrokenAt_42 : decode cM_isBrokenAt 42 = .ok (.iload_n 3, 1) := by decide +kernel
theorem dM_isBrokenAt_43 : decode cM_isBrokenAt 43 = .ok (.ifCond .ne 16, 3) := by decide +kernel
theorem dM_isBrokenAt_46 : decode cM_isBrokenAt 46 = .ok (.aload_n 0, 1) := by decide +kernel
theorem dM_isBrokenAt_47 : decode cM_isBrokenAt 47 = .ok (.getfield 36, 3) := by decide +kernel
theorem dM_isBrokenAt_50 : decode cM_isBrokenAt 50 = .ok (.iload_n 2, 1) := by decide +kernel
theorem dM_isBrokenAt_51 : decode cM_isBrokenAt 51 = .ok (.baload, 1) := by decide +kernel
theorem dM_isBrokenAt_52 : decode cM_isBrokenAt 52 = .ok (.ifCond .ne 7, 3) := by decide +kernel
theorem dM_isBrokenAt_55 : decode cM_isBrokenAt 55 = .ok (.iconst 1, 1) := by decide +kernel
theorem dM_isBrokenAt_56 : decode cM_isBrokenAt 56 = .ok (.goto 4, 3) := by decide +kernel
theorem dM_isBrokenAt_59 : decode cM_isBrokenAt 59 = .ok (.iconst 0, 1) := by decide +kernel
theorem dM_isBrokenAt_60 : decode cM_isBrokenAt 60 = .ok (.ireturn, 1) := by decide +kernel
theorem dM_isBrokenAt_61 : decode cM_isBrokenAt 61 = .ok (.aload_n 0, 1) := by decide +kernel
theorem dM_isBrokenAt_62 : decode cM_isBrokenAt 62 = .ok (.getfield 16, 3) := by decide +kernel
theorem dM_isBrokenAt_65 : decode cM_isBrokenAt 65 = .ok (.iload_n 2, 1) := by decide +kernel
theorem dM_isBrokenAt_66 : decode cM_isBrokenAt 66 = .ok (.iaload, 1) := by decide +kernel
theorem dM_isBrokenAt_67 : decode cM_isBrokenAt 67 = .ok (.iconst 2, 1) := by decide +kernel
theorem dM_isBrokenAt_68 : decode cM_isBrokenAt 68 = .ok (.if_icmp .ne 11, 3) := by decide +kernel
theorem dM_isBrokenAt_71 : decode cM_isBrokenAt 71 = .ok (.iload_n 3, 1) := by decide +kernel
theorem dM_isBrokenAt_72 : decode cM_isBrokenAt 72 = .ok (.ifCond .ne 7, 3) := by decide +kernel
theorem dM_isBrokenAt_75 : decode cM_isBrokenAt 75 = .ok (.iconst 1, 1) := by decide +kernel
theorem dM_isBrokenAt_76 : decode cM_isBrokenAt 76 = .ok (.goto 4, 3) := by decide +kernel
theorem dM_isBrokenAt_79 : decode cM_isBrokenAt 79 = .ok (.iconst 0, 1) := by decide +kernel
theorem dM_isBrokenAt_80 : decode cM_isBrokenAt 80 = .ok (.ireturn, 1) := by decide +kernel
theorem dM_isBrokenAt_81 : decode cM_isBrokenAt 81 = .ok (.aload_n 0, 1) := by decide +kernel
theorem dM_isBrokenAt_82 : decode cM_isBrokenAt 82 = .ok (.getfield 16, 3) := by decide +kernel
theorem dM_isBrokenAt_85 : decode cM_isBrokenAt 85 = .ok (.iload_n 2, 1) := by decide +kernel
theorem dM_isBrokenAt_86 : decode cM_isBrokenAt 86 = .ok (.iaload, 1) := by decide +kernel
theorem dM_isBrokenAt_87 : decode cM_isBrokenAt 87 = .ok (.iconst 2, 1) := by decide +kernel
theorem dM_isBrokenAt_88 : decode cM_isBrokenAt 88 = .ok (.if_icmp .ne 12, 3) := by decide +kernel
theorem dM_isBrokenAt_91 : decode cM_isBrokenAt 91 = .ok (.iload_n 3, 1) := by decide +kernel
theorem dM_isBrokenAt_92 : decode cM_isBrokenAt 92 = .ok (.iconst 1, 1) := by decide +kernel
theorem dM_isBrokenAt_93 : decode cM_isBrokenAt 93 = .ok (.if_icmp .le 7, 3) := by decide +kernel
theorem dM_isBrokenAt_96 : decode cM_isBrokenAt 96 = .ok (.iconst 1, 1) := by decide +kernel
theorem dM_isBrokenAt_97 : decode cM_isBrokenAt 97 = .ok (.goto 4, 3) := by decide +kernel
theorem dM_isBrokenAt_100 : decode cM_isBrokenAt 100 = .ok (.iconst 0, 1) := by decide +kernel
theorem dM_isBrokenAt_101 : decode cM_isBrokenAt 101 = .ok (.ireturn, 1) := by decide +kernel
theorem dM_isBrokenAt_102 : decode cM_isBrokenAt 102 = .ok (.aload_n 0, 1) := by decide +kernel
theorem dM_isBrokenAt_103 : decode cM_isBrokenAt 103 = .ok (.getfield 16, 3) := by decide +kernel
theorem dM_isBrokenAt_106 : decode cM_isBrokenAt 106 = .ok (.iload_n 2, 1) := by decide +kernel
theorem dM_isBrokenAt_107 : decode cM_isBrokenAt 107 = .ok (.iaload, 1) := by decide +kernel
theorem dM_isBrokenAt_108 : decode cM_isBrokenAt 108 = .ok (.iconst 1, 1) := by decide +kernel
theorem dM_isBrokenAt_109 : decode cM_isBrokenAt 109 = .ok (.if_icmp .ne 16, 3) := by decide +kernel
theorem dM_isBrokenAt_112 : decode cM_isBrokenAt 112 = .ok (.aload_n 0, 1) := by decide +kernel
theorem dM_isBrokenAt_113 : decode cM_isBrokenAt 113 = .ok (.getfield 42, 3) := by decide +kernel
theorem dM_isBrokenAt_116 : decode cM_isBrokenAt 116 = .ok (.iload_n 2, 1) := by decide +kernel
theorem dM_isBrokenAt_117 : decode cM_isBrokenAt 117 = .ok (.iaload, 1) := by decide +kernel
theorem dM_isBrokenAt_118 : decode cM_isBrokenAt 118 = .ok (.ifCond .ne 7, 3) := by decide +kernel
theorem dM_isBrokenAt_121 : decode cM_isBrokenAt 121 = .ok (.iconst 1, 1) := by decide +kernel
theorem dM_isBrokenAt_122 : decode cM_isBrokenAt 122 = .ok (.goto 4, 3) := by decide +kernel
theorem dM_isBrokenAt_125 : decode cM_isBrokenAt 125 = .ok (.iconst 0, 1) := by decide +kernel
theorem dM_isBrokenAt_126 : decode cM_isBrokenAt 126 = .ok (.ireturn, 1) := by decide +kernel
theorem dM_isReading_0 : decode cM_isReading 0 = .ok (.aload_n 0, 1) := by decide +kernel
theorem dM_isReading_1 : decode cM_isReading 1 = .ok (.getfield 19, 3) := by decide +kernel
theorem dM_isReading_4 : decode cM_isReading 4 = .ok (.iload_n 1, 1) := by decide +kernel
theorem dM_isReading_5 : decode cM_isReading 5 = .ok (.baload, 1) := by decide +kernel
theorem dM_isReading_6 : decode cM_isReading 6 = .ok (.ifCond .ne 20, 3) := by decide +kernel
theorem dM_isReading_9 : decode cM_isReading 9 = .ok (.aload_n 0, 1) := by decide +kernel
theorem dM_isReading_10 : decode cM_isReading 10 = .ok (.aload_n 0, 1) := by decide +kernel
theorem dM_isReading_11 : decode cM_isReading 11 = .ok (.getfield 13, 3) := by decide +kernel
theorem dM_isReading_14 : decode cM_isReading 14 = .ok (.iload_n 1, 1) := by decide +kernel
theorem dM_isReading_15 : decode cM_isReading 15 = .ok (.iaload, 1) := by decide +kernel
theorem dM_isReading_16 : decode cM_isReading 16 = .ok (.invokevirtual 86, 3) := by decide +kernel
theorem dM_isReading_19 : decode cM_isReading 19 = .ok (.ifCond .eq 7, 3) := by decide +kernel
theorem dM_isReading_22 : decode cM_isReading 22 = .ok (.iconst 1, 1) := by decide +kernel
theorem dM_isReading_23 : decode cM_isReading 23 = .ok (.goto 4, 3) := by decide +kernel
theorem dM_isReading_26 : decode cM_isReading 26 = .ok (.iconst 0, 1) := by decide +kernel
theorem dM_isReading_27 : decode cM_isReading 27 = .ok (.ireturn, 1) := by decide +kernel
theorem dM_check_0 : decode cM_check 0 = .ok (.aload_n 0, 1) := by decide +kernel
theorem dM_check_1 : decode cM_check 1 = .ok (.iconst 0, 1) := by decide +kernel
theorem dM_check_2 : decode cM_check 2 = .ok (.putfield 54, 3) := by decide +kernel
theorem dM_check_5 : decode cM_check 5 = .ok (.aload_n 0, 1) := by decide +kernel
theorem dM_check_6 : decode cM_check 6 = .ok (.invokevirtual 89, 3) := by decide +kernel
theorem dM_check_9 : decode cM_check 9 = .ok (.iconst 1, 1) := by decide +kernel
theorem dM_check_10 : decode cM_check 10 = .ok (.istore_n 1, 1) := by decide +kernel
theorem dM_check_11 : decode cM_check 11 = .ok (.iload_n 1, 1) := by decide +kernel
theorem dM_check_12 : decode cM_check 12 = .ok (.bipush 10, 2) := by decide +kernel
theorem dM_check_14 : decode cM_check 14 = .ok (.if_icmp .ge 104, 3) := by decide +kernel
theorem dM_check_17 : decode cM_check 17 = .ok (.iconst 1, 1) := by decide +kernel
theorem dM_check_18 : decode cM_check 18 = .ok (.istore_n 2, 1) := by decide +kernel
theorem dM_check_19 : decode cM_check 19 = .ok (.iload_n 2, 1) := by decide +kernel
theorem dM_check_20 : decode cM_check 20 = .ok (.aload_n 0, 1) := by decide +kernel
theorem dM_check_21 : decode cM_check 21 = .ok (.getfield 71, 3) := by decide +kernel
theorem dM_check_24 : decode cM_check 24 = .ok (.if_icmp .gt 88, 3) := by decide +kernel
theorem dM_check_27 : decode cM_check 27 = .ok (.iload_n 1, 1) := by decide +kernel
theorem dM_check_28 : decode cM_check 28 = .ok (.iconst 4, 1) := by decide +kernel
theorem dM_check_29 : decode cM_check 29 = .ok (.if_icmp .le 34, 3) := by decide +kernel
theorem dM_check_32 : decode cM_check 32 = .ok (.iload_n 1, 1) := by decide +kernel
theorem dM_check_33 : decode cM_check 33 = .ok (.bipush 9, 2) := by decide +kernel
theorem dM_check_35 : decode cM_check 35 = .ok (.if_icmp .ge 28, 3) := by decide +kernel
theorem dM_check_38 : decode cM_check 38 = .ok (.aload_n 0, 1) := by decide +kernel
theorem dM_check_39 : decode cM_check 39 = .ok (.iload_n 2, 1) := by decide +kernel
theorem dM_check_40 : decode cM_check 40 = .ok (.invokevirtual 105, 3) := by decide +kernel
theorem dM_check_43 : decode cM_check 43 = .ok (.ifCond .eq 63, 3) := by decide +kernel
theorem dM_check_46 : decode cM_check 46 = .ok (.aload_n 0, 1) := by decide +kernel
theorem dM_check_47 : decode cM_check 47 = .ok (.iload_n 1, 1) := by decide +kernel
theorem dM_check_48 : decode cM_check 48 = .ok (.iload_n 2, 1) := by decide +kernel
theorem dM_check_49 : decode cM_check 49 = .ok (.invokevirtual 108, 3) := by decide +kernel
theorem dM_check_52 : decode cM_check 52 = .ok (.ifCond .eq 54, 3) := by decide +kernel
theorem dM_check_55 : decode cM_check 55 = .ok (.sipush 1000, 3) := by decide +kernel
theorem dM_check_58 : decode cM_check 58 = .ok (.iload_n 1, 1) := by decide +kernel
theorem dM_check_59 : decode cM_check 59 = .ok (.imul, 1) := by decide +kernel
theorem dM_check_60 : decode cM_check 60 = .ok (.iload_n 2, 1) := by decide +kernel
theorem dM_check_61 : decode cM_check 61 = .ok (.iadd, 1) := by decide +kernel
theorem dM_check_62 : decode cM_check 62 = .ok (.ireturn, 1) := by decide +kernel
theorem dM_check_63 : decode cM_check 63 = .ok (.iconst 1, 1) := by decide +kernel
theorem dM_check_64 : decode cM_check 64 = .ok (.istore_n 3, 1) := by decide +kernel
theorem dM_check_65 : decode cM_check 65 = .ok (.iload_n 3, 1) := by decide +kernel
theorem dM_check_66 : decode cM_check 66 = .ok (.aload_n 0, 1) := by decide +kernel
theorem dM_check_67 : decode cM_check 67 = .ok (.getfield 71, 3) := by decide +kernel
theorem dM_check_70 : decode cM_check 70 = .ok (.if_icmp .gt 36, 3) := by decide +kernel
theorem dM_check_73 : decode cM_check 73 = .ok (.aload_n 0, 1) := by decide +kernel
theorem dM_check_74 : decode cM_check 74 = .ok (.iload_n 2, 1) := by decide +kernel
theorem dM_check_75 : decode cM_check 75 = .ok (.iload_n 3, 1) := by decide +kernel
theorem dM_check_76 : decode cM_check 76 = .ok (.invokevirtual 92, 3) := by decide +kernel
theorem dM_check_79 : decode cM_check 79 = .ok (.ifCond .eq 21, 3) := by decide +kernel
theorem dM_check_82 : decode cM_check 82 = .ok (.aload_n 0, 1) := by decide +kernel
theorem dM_check_83 : decode cM_check 83 = .ok (.iload_n 1, 1) := by decide +kernel
theorem dM_check_84 : decode cM_check 84 = .ok (.iload_n 2, 1) := by decide +kernel
theorem dM_check_85 : decode cM_check 85 = .ok (.iload_n 3, 1) := by decide +kernel
theorem dM_check_86 : decode cM_check 86 = .ok (.invokevirtual 111, 3) := by decide +kernel
theorem dM_check_89 : decode cM_check 89 = .ok (.ifCond .eq 11, 3) := by decide +kernel
theorem dM_check_92 : decode cM_check 92 = .ok (.sipush 1000, 3) := by decide +kernel
theorem dM_check_95 : decode cM_check 95 = .ok (.iload_n 1, 1) := by decide +kernel
theorem dM_check_96 : decode cM_check 96 = .ok (.imul, 1) := by decide +kernel
theorem dM_check_97 : decode cM_check 97 = .ok (.iload_n 3, 1) := by decide +kernel
theorem dM_check_98 : decode cM_check 98 = .ok (.iadd, 1) := by decide +kernel
theorem dM_check_99 : decode cM_check 99 = .ok (.ireturn, 1) := by decide +kernel
theorem dM_check_100 : decode cM_check 100 = .ok (.iinc 3 1, 3) := by decide +kernel
theorem dM_check_103 : decode cM_check 103 = .ok (.goto (-38), 3) := by decide +kernel
theorem dM_check_106 : decode cM_check 106 = .ok (.iinc 2 1, 3) := by decide +kernel
theorem dM_check_109 : decode cM_check 109 = .ok (.goto (-90), 3) := by decide +kernel
theorem dM_check_112 : decode cM_check 112 = .ok (.iinc 1 1, 3) := by decide +kernel
theorem dM_check_115 : decode cM_check 115 = .ok (.goto (-104), 3) := by decide +kernel
theorem dM_check_118 : decode cM_check 118 = .ok (.iconst 0, 1) := by decide +kernel
theorem dM_check_119 : decode cM_check 119 = .ok (.ireturn, 1) := by decide +kernel
theorem dM_manager_0 : decode cM_manager 0 = .ok (.aload_n 0, 1) := by decide +kernel
theorem dM_manager_1 : decode cM_manager 1 = .ok (.iconst 0, 1) := by decide +kernel
theorem dM_manager_2 : decode cM_manager 2 = .ok (.putfield 54, 3) := by decide +kernel
theorem dM_manager_5 : decode cM_manager 5 = .ok (.iload_n 2, 1) := by decide +kernel
theorem dM_manager_6 : decode cM_manager 6 = .ok (.i2l, 1) := by decide +kernel
theorem dM_manager_7 : decode cM_manager 7 = .ok (.lconst 1, 1) := by decide +kernel
theorem dM_manager_8 : decode cM_manager 8 = .ok (.aload_n 0, 1) := by decide +kernel
theorem dM_manager_9 : decode cM_manager 9 = .ok (.getfield 58, 3) := by decide +kernel
theorem dM_manager_12 : decode cM_manager 12 = .ok (.i2l, 1) := by decide +kernel
theorem dM_manager_13 : decode cM_manager 13 = .ok (.invokestatic 61, 3) := by decide +kernel
theorem dM_manager_16 : decode cM_manager 16 = .ok (.ifCond .ne 5, 3) := by decide +kernel
theorem dM_manager_19 : decode cM_manager 19 = .ok (.iconst (-1), 1) := by decide +kernel
theorem dM_manager_20 : decode cM_manager 20 = .ok (.ireturn, 1) := by decide +kernel
theorem dM_manager_21 : decode cM_manager 21 = .ok (.iload_n 1, 1) := by decide +kernel
theorem dM_manager_22 : decode cM_manager 22 = .ok (.i2l, 1) := by decide +kernel
theorem dM_manager_23 : decode cM_manager 23 = .ok (.lconst 0, 1) := by decide +kernel
theorem dM_manager_24 : decode cM_manager 24 = .ok (.ldc2_w 115, 3) := by decide +kernel
theorem dM_manager_27 : decode cM_manager 27 = .ok (.invokestatic 61, 3) := by decide +kernel
theorem dM_manager_30 : decode cM_manager 30 = .ok (.ifCond .ne 6, 3) := by decide +kernel
theorem dM_manager_33 : decode cM_manager 33 = .ok (.bipush (-2), 2) := by decide +kernel
theorem dM_manager_35 : decode cM_manager 35 = .ok (.ireturn, 1) := by decide +kernel
theorem dM_manager_36 : decode cM_manager 36 = .ok (.aload_n 0, 1) := by decide +kernel
theorem dM_manager_37 : decode cM_manager 37 = .ok (.getfield 45, 3) := by decide +kernel
theorem dM_manager_40 : decode cM_manager 40 = .ok (.iload_n 1, 1) := by decide +kernel
theorem dM_manager_41 : decode cM_manager 41 = .ok (.iaload, 1) := by decide +kernel
theorem dM_manager_42 : decode cM_manager 42 = .ok (.ifCond .eq 15, 3) := by decide +kernel
theorem dM_manager_45 : decode cM_manager 45 = .ok (.aload_n 0, 1) := by decide +kernel
theorem dM_manager_46 : decode cM_manager 46 = .ok (.getfield 45, 3) := by decide +kernel
theorem dM_manager_49 : decode cM_manager 49 = .ok (.iload_n 1, 1) := by decide +kernel
theorem dM_manager_50 : decode cM_manager 50 = .ok (.iaload, 1) := by decide +kernel
theorem dM_manager_51 : decode cM_manager 51 = .ok (.iload_n 2, 1) := by decide +kernel
theorem dM_manager_52 : decode cM_manager 52 = .ok (.if_icmp .eq 5, 3) := by decide +kernel
theorem dM_manager_55 : decode cM_manager 55 = .ok (.iconst 0, 1) := by decide +kernel
theorem dM_manager_56 : decode cM_manager 56 = .ok (.ireturn, 1) := by decide +kernel
theorem dM_manager_57 : decode cM_manager 57 = .ok (.aload_n 0, 1) := by decide +kernel
theorem dM_manager_58 : decode cM_manager 58 = .ok (.getfield 45, 3) := by decide +kernel
theorem dM_manager_61 : decode cM_manager 61 = .ok (.iload_n 1, 1) := by decide +kernel
theorem dM_manager_62 : decode cM_manager 62 = .ok (.iload_n 2, 1) := by decide +kernel
theorem dM_manager_63 : decode cM_manager 63 = .ok (.iastore, 1) := by decide +kernel
theorem dM_manager_64 : decode cM_manager 64 = .ok (.iconst 1, 1) := by decide +kernel
theorem dM_manager_65 : decode cM_manager 65 = .ok (.ireturn, 1) := by decide +kernel
theorem dM_fallback_0 : decode cM_fallback 0 = .ok (.aload_n 0, 1) := by decide +kernel
theorem dM_fallback_1 : decode cM_fallback 1 = .ok (.iconst 0, 1) := by decide +kernel
theorem dM_fallback_2 : decode cM_fallback 2 = .ok (.putfield 54, 3) := by decide +kernel
theorem dM_fallback_5 : decode cM_fallback 5 = .ok (.aload_n 0, 1) := by decide +kernel
theorem dM_fallback_6 : decode cM_fallback 6 = .ok (.iload_n 1, 1) := by decide +kernel
theorem dM_fallback_7 : decode cM_fallback 7 = .ok (.invokevirtual 74, 3) := by decide +kernel
theorem dM_fallback_10 : decode cM_fallback 10 = .ok (.ifCond .ne 5, 3) := by decide +kernel
theorem dM_fallback_13 : decode cM_fallback 13 = .ok (.iconst (-1), 1) := by decide +kernel
theorem dM_fallback_14 : decode cM_fallback 14 = .ok (.ireturn, 1) := by decide +kernel
theorem dM_fallback_15 : decode cM_fallback 15 = .ok (.aload_n 0, 1) := by decide +kernel
theorem dM_fallback_16 : decode cM_fallback 16 = .ok (.getfield 19, 3) := by decide +kernel
theorem dM_fallback_19 : decode cM_fallback 19 = .ok (.iload_n 1, 1) := by decide +kernel
theorem dM_fallback_20 : decode cM_fallback 20 = .ok (.baload, 1) := by decide +kernel
theorem dM_fallback_21 : decode cM_fallback 21 = .ok (.ifCond .eq 6, 3) := by decide +kernel
theorem dM_fallback_24 : decode cM_fallback 24 = .ok (.bipush (-3), 2) := by decide +kernel
theorem dM_fallback_26 : decode cM_fallback 26 = .ok (.ireturn, 1) := by decide +kernel
theorem dM_fallback_27 : decode cM_fallback 27 = .ok (.aload_n 0, 1) := by decide +kernel
theorem dM_fallback_28 : decode cM_fallback 28 = .ok (.getfield 39, 3) := by decide +kernel
theorem dM_fallback_31 : decode cM_fallback 31 = .ok (.iload_n 1, 1) := by decide +kernel
theorem dM_fallback_32 : decode cM_fallback 32 = .ok (.iaload, 1) := by decide +kernel
theorem dM_fallback_33 : decode cM_fallback 33 = .ok (.istore_n 3, 1) := by decide +kernel
theorem dM_fallback_34 : decode cM_fallback 34 = .ok (.aload_n 0, 1) := by decide +kernel
theorem dM_fallback_35 : decode cM_fallback 35 = .ok (.getfield 39, 3) := by decide +kernel
theorem dM_fallback_38 : decode cM_fallback 38 = .ok (.iload_n 1, 1) := by decide +kernel
theorem dM_fallback_39 : decode cM_fallback 39 = .ok (.iload_n 2, 1) := by decide +kernel
theorem dM_fallback_40 : decode cM_fallback 40 = .ok (.iastore, 1) := by decide +kernel
theorem dM_fallback_41 : decode cM_fallback 41 = .ok (.aload_n 0, 1) := by decide +kernel
theorem dM_fallback_42 : decode cM_fallback 42 = .ok (.getfield 36, 3) := by decide +kernel
theorem dM_fallback_45 : decode cM_fallback 45 = .ok (.iload_n 1, 1) := by decide +kernel
theorem dM_fallback_46 : decode cM_fallback 46 = .ok (.iconst 1, 1) := by decide +kernel
theorem dM_fallback_47 : decode cM_fallback 47 = .ok (.bastore, 1) := by decide +kernel
theorem dM_fallback_48 : decode cM_fallback 48 = .ok (.iload_n 3, 1) := by decide +kernel
theorem dM_fallback_49 : decode cM_fallback 49 = .ok (.ireturn, 1) := by decide +kernel
theorem dM_queue_0 : decode cM_queue 0 = .ok (.aload_n 0, 1) := by decide +kernel
theorem dM_queue_1 : decode cM_queue 1 = .ok (.iconst 0, 1) := by decide +kernel
theorem dM_queue_2 : decode cM_queue 2 = .ok (.putfield 54, 3) := by decide +kernel
theorem dM_queue_5 : decode cM_queue 5 = .ok (.aload_n 0, 1) := by decide +kernel
theorem dM_queue_6 : decode cM_queue 6 = .ok (.iload_n 1, 1) := by decide +kernel
theorem dM_queue_7 : decode cM_queue 7 = .ok (.invokevirtual 74, 3) := by decide +kernel
theorem dM_queue_10 : decode cM_queue 10 = .ok (.ifCond .ne 5, 3) := by decide +kernel
theorem dM_queue_13 : decode cM_queue 13 = .ok (.iconst (-1), 1) := by decide +kernel
theorem dM_queue_14 : decode cM_queue 14 = .ok (.ireturn, 1) := by decide +kernel
theorem dM_queue_15 : decode cM_queue 15 = .ok (.iload_n 2, 1) := by decide +kernel
theorem dM_queue_16 : decode cM_queue 16 = .ok (.i2l, 1) := by decide +kernel
theorem dM_queue_17 : decode cM_queue 17 = .ok (.lconst 1, 1) := by decide +kernel
theorem dM_queue_18 : decode cM_queue 18 = .ok (.ldc2_w 117, 3) := by decide +kernel
theorem dM_queue_21 : decode cM_queue 21 = .ok (.invokestatic 61, 3) := by decide +kernel
theorem dM_queue_24 : decode cM_queue 24 = .ok (.ifCond .ne 6, 3) := by decide +kernel
theorem dM_queue_27 : decode cM_queue 27 = .ok (.bipush (-2), 2) := by decide +kernel
theorem dM_queue_29 : decode cM_queue 29 = .ok (.ireturn, 1) := by decide +kernel
theorem dM_queue_30 : decode cM_queue 30 = .ok (.aload_n 0, 1) := by decide +kernel
theorem dM_queue_31 : decode cM_queue 31 = .ok (.getfield 16, 3) := by decide +kernel
theorem dM_queue_34 : decode cM_queue 34 = .ok (.iload_n 1, 1) := by decide +kernel
theorem dM_queue_35 : decode cM_queue 35 = .ok (.iaload, 1) := by decide +kernel
theorem dM_queue_36 : decode cM_queue 36 = .ok (.iconst 1, 1) := by decide +kernel
theorem dM_queue_37 : decode cM_queue 37 = .ok (.if_icmp .eq 6, 3) := by decide +kernel
theorem dM_queue_40 : decode cM_queue 40 = .ok (.bipush (-3), 2) := by decide +kernel
theorem dM_queue_42 : decode cM_queue 42 = .ok (.ireturn, 1) := by decide +kernel
theorem dM_queue_43 : decode cM_queue 43 = .ok (.aload_n 0, 1) := by decide +kernel
theorem dM_queue_44 : decode cM_queue 44 = .ok (.getfield 42, 3) := by decide +kernel
theorem dM_queue_47 : decode cM_queue 47 = .ok (.iload_n 1, 1) := by decide +kernel
theorem dM_queue_48 : decode cM_queue 48 = .ok (.iload_n 2, 1) := by decide +kernel
theorem dM_queue_49 : decode cM_queue 49 = .ok (.iastore, 1) := by decide +kernel
theorem dM_queue_50 : decode cM_queue 50 = .ok (.iconst 1, 1) := by decide +kernel
theorem dM_queue_51 : decode cM_queue 51 = .ok (.ireturn, 1) := by decide +kernel
theorem dM_version_0 : decode cM_version 0 = .ok (.aload_n 0, 1) := by decide +kernel
theorem dM_version_1 : decode cM_version 1 = .ok (.iconst 0, 1) := by decide +kernel
theorem dM_version_2 : decode cM_version 2 = .ok (.putfield 54, 3) := by decide +kernel
theorem dM_version_5 : decode cM_version 5 = .ok (.aload_n 0, 1) := by decide +kernel
theorem dM_version_6 : decode cM_version 6 = .ok (.iload_n 1, 1) := by decide +kernel
theorem dM_version_7 : decode cM_version 7 = .ok (.invokevirtual 74, 3) := by decide +kernel
theorem dM_version_10 : decode cM_version 10 = .ok (.ifCond .ne 5, 3) := by decide +kernel
theorem dM_version_13 : decode cM_version 13 = .ok (.iconst (-1), 1) := by decide +kernel
theorem dM_version_14 : decode cM_version 14 = .ok (.ireturn, 1) := by decide +kernel
theorem dM_version_15 : decode cM_version 15 = .ok (.iload_n 2, 1) := by decide +kernel
theorem dM_version_16 : decode cM_version 16 = .ok (.i2l, 1) := by decide +kernel
theorem dM_version_17 : decode cM_version 17 = .ok (.lconst 0, 1) := by decide +kernel
theorem dM_version_18 : decode cM_version 18 = .ok (.ldc2_w 119, 3) := by decide +kernel
theorem dM_version_21 : decode cM_version 21 = .ok (.invokestatic 61, 3) := by decide +kernel
theorem dM_version_24 : decode cM_version 24 = .ok (.ifCond .ne 6, 3) := by decide +kernel
theorem dM_version_27 : decode cM_version 27 = .ok (.bipush (-2), 2) := by decide +kernel
theorem dM_version_29 : decode cM_version 29 = .ok (.ireturn, 1) := by decide +kernel
theorem dM_version_30 : decode cM_version 30 = .ok (.aload_n 0, 1) := by decide +kernel
theorem dM_version_31 : decode cM_version 31 = .ok (.getfield 33, 3) := by decide +kernel
theorem dM_version_34 : decode cM_version 34 = .ok (.iload_n 1, 1) := by decide +kernel
theorem dM_version_35 : decode cM_version 35 = .ok (.iload_n 2, 1) := by decide +kernel
theorem dM_version_36 : decode cM_version 36 = .ok (.iastore, 1) := by decide +kernel
theorem dM_version_37 : decode cM_version 37 = .ok (.iconst 1, 1) := by decide +kernel
theorem dM_version_38 : decode cM_version 38 = .ok (.ireturn, 1) := by decide +kernel
theorem dM_open_0 : decode cM_open 0 = .ok (.aload_n 0, 1) := by decide +kernel
theorem dM_open_1 : decode cM_open 1 = .ok (.iconst 0, 1) := by decide +kernel
theorem dM_open_2 : decode cM_open 2 = .ok (.putfield 54, 3) := by decide +kernel
theorem dM_open_5 : decode cM_open 5 = .ok (.iconst 0, 1) := by decide +kernel
theorem dM_open_6 : decode cM_open 6 = .ok (.istore_n 2, 1) := by decide +kernel
theorem dM_open_7 : decode cM_open 7 = .ok (.iconst 1, 1) := by decide +kernel
theorem dM_open_8 : decode cM_open 8 = .ok (.istore_n 3, 1) := by decide +kernel
theorem dM_open_9 : decode cM_open 9 = .ok (.iload_n 3, 1) := by decide +kernel
theorem dM_open_10 : decode cM_open 10 = .ok (.aload_n 0, 1) := by decide +kernel
theorem dM_open_11 : decode cM_open 11 = .ok (.getfield 71, 3) := by decide +kernel
theorem dM_open_14 : decode cM_open 14 = .ok (.if_icmp .gt 35, 3) := by decide +kernel
theorem dM_open_17 : decode cM_open 17 = .ok (.aload_n 0, 1) := by decide +kernel
theorem dM_open_18 : decode cM_open 18 = .ok (.iload_n 3, 1) := by decide +kernel
theorem dM_open_19 : decode cM_open 19 = .ok (.invokevirtual 105, 3) := by decide +kernel
theorem dM_open_22 : decode cM_open 22 = .ok (.ifCond .eq 21, 3) := by decide +kernel
theorem dM_open_25 : decode cM_open 25 = .ok (.aload_n 0, 1) := by decide +kernel
theorem dM_open_26 : decode cM_open 26 = .ok (.iload_n 3, 1) := by decide +kernel
theorem dM_open_27 : decode cM_open 27 = .ok (.invokevirtual 102, 3) := by decide +kernel
theorem dM_open_30 : decode cM_open 30 = .ok (.ifCond .ne 13, 3) := by decide +kernel
theorem dM_open_33 : decode cM_open 33 = .ok (.iload_n 2, 1) := by decide +kernel
theorem dM_open_34 : decode cM_open 34 = .ok (.iload_n 1, 1) := by decide +kernel
theorem dM_open_35 : decode cM_open 35 = .ok (.if_icmp .ne 5, 3) := by decide +kernel
theorem dM_open_38 : decode cM_open 38 = .ok (.iload_n 3, 1) := by decide +kernel
theorem dM_open_39 : decode cM_open 39 = .ok (.ireturn, 1) := by decide +kernel
theorem dM_open_40 : decode cM_open 40 = .ok (.iinc 2 1, 3) := by decide +kernel
theorem dM_open_43 : decode cM_open 43 = .ok (.iinc 3 1, 3) := by decide +kernel
theorem dM_open_46 : decode cM_open 46 = .ok (.goto (-37), 3) := by decide +kernel
theorem dM_open_49 : decode cM_open 49 = .ok (.iconst 0, 1) := by decide +kernel
theorem dM_open_50 : decode cM_open 50 = .ok (.ireturn, 1) := by decide +kernel
end
section
/-! BASE 2: reads without an answer; isIn; booleans in loops -/
def rd_QN : Array Value → State → Outcome → State → Prop := fun _ st o t => o = .returned none ∧ t.heap = st.heap
section RN
variable {p : Program} {l : Launch} {e : Env} {R : Room} {s : State} {m : MethodId} {args : Array Value} {below : List Frame} {meth : Method} {c : Code} {H : Heap} {locs : List Loc} {cells slots : Nat} {Q : State → Prop}
variable {cc : ByteArray} {pc : Nat} {ls : Array Slot} {rest st0 : List Value} {D : va_G} {cl : List vw_C} {tys : List (ClassId × FieldType)} {ws : va_W}
theorem rd_vret (hexec : p.tables.exec = Jvm.exec) (hb : c.code = cc) (hr : meth.sig.returnType = none) (hdg : decode cc pc = .ok (.return_, 1)) (hlocks : meth.locks = false) :
    W p l e R s m args below meth c s.heap [] cells slots (MQ below rd_QN args s cells slots (fun _ => False)) (F0 m pc ls []) :=
  W.vret hexec hb hr (fun t ht _ => ⟨rfl, ht⟩) (fun q h => absurd h List.not_mem_nil) hdg hlocks
theorem rd_callN {y : MethodName} {bytes : ByteArray} {maxL nL n index : Nat} {ret : Option FieldType} {wm Ts : List Cond} {rm : Room} {own C : String} {b q0 ci : Nat} {As : List Value} {q : vw_C} {fs : List Value}
    (S : CallFix p m c cc nL s args Ts own) (hM : Met l y wm rm (rd_Pc D cl tys ws (.ref b :: As)) rd_QN 0 0 (fun _ => False)) (cw : CallW R s args own C index y bytes maxL ret wm rm 0 0 n)
    (hK : va_K D cl tys s) (hP : va_P D cl ws H) (hc : cl[ci]? = some q) (he : ws[q0]? = some (b, .inr (ci, fs))) (hC : q.1 = C) (hn : As.length = n) (hsize : ls.size = nL) (hst : st0 = As.reverse ++ .ref b :: rest)
    (hW : (rest.map fun v => v.category).sum ≤ 8) (hdg : decode cc pc = .ok (.invokevirtual index, 3)) (hf : cells ≤ R.cells ∧ slots ≤ R.slots)
    (kk : W p l e R s m args below meth c H locs cells slots Q (F0 m (pc + 3) ls rest)) : W p l e R s m args below meth c H locs cells slots Q (F0 m pc ls st0) := by
  subst hC
  have hr := W.runV (g := F0 m pc ls st0) (rest := rest) (As := As) (b := b) (locs := locs) (cells := cells) (slots := slots) (below := below) (meth := meth) (e := e) (R := R) S hM cw ⟨rd_blind, va_recv hK hP hc he, fun U hU hW => ⟨rfl, by rw [hU]; exact hP, va_K.moved hW.alike hK⟩⟩ rfl hn hsize hst (lv_room hW) hdg hf
  intro T hT X
  obtain ⟨v, st₀, t, T', L, h0, X', hL, e1, ⟨hv, hh⟩, st⟩ := hr T hT X
  cases hv
  obtain ⟨t2, a1, b1⟩ := kk T' (by rw [e1, hh, h0]) (Stand.forget X' (fun q h => (hL q h).elim))
  exact ⟨t2, st t2 a1, b1⟩
end RN
def isI (x lo hi : Int64) : Bool := decide (lo.toInt ≤ x.toInt ∧ x.toInt ≤ hi.toInt)
theorem isI_t {x lo hi : Int64} (h1 : lo.toInt ≤ x.toInt) (h2 : x.toInt ≤ hi.toInt) : isI x lo hi = true := decide_eq_true ⟨h1, h2⟩
theorem isI_lo {x lo hi : Int64} (h : x.toInt < lo.toInt) : isI x lo hi = false := decide_eq_false (by omega)
theorem isI_hi {x lo hi : Int64} (h : hi.toInt < x.toInt) : isI x lo hi = false := decide_eq_false (by omega)
theorem isI_b {x : Int32} {y z : Int64} {lo hi : Int} (hy : y.toInt = lo) (hz : z.toInt = hi) : isI x.toInt64 y z = inB x lo hi := by
  subst hy; subst hz
  unfold isI inB
  rw [Int32.toInt_toInt64]
theorem isI_l {x : Int64} {y z : Int64} {lo hi : Int} (hy : y.toInt = lo) (hz : z.toInt = hi) : isI x y z = inL x lo hi := by
  subst hy; subst hz
  rfl
theorem ni_l {n : Nat} (h : n < 2 ^ 31) : (nI n).toInt64.toInt = (n : Int) := by rw [Int32.toInt_toInt64, nI_toInt h]
theorem z1_ne {b c : Bool} (h : b = c) : z1 b = z1 c := by rw [h]
end
section
/-! M: the methods that change nothing (know, leadTo, isBrokenAt where it is known) -/
set_option maxHeartbeats 4000000 in
set_option maxRecDepth 100000 in
theorem cm_isIn (l : Launch) (x lo hi : Int64)  : Met l yM_isIn wsM_isIn { frames := 0, cells := 0, slots := 0, locals := 0 } (fun v _ => v = ([.long x, .long lo, .long hi] : List Value).toArray) (k2_QcV (.int (z1 (isI x lo hi)))) 0 0 (fun _ => False) := by
  refine Met.ofW (cc := cM_isIn) (maxL := 6) (ret := some .boolean) (by decide) rfl ?_
  intro p e s m args below meth c s₁ B hml hv
  obtain rfl := hv
  have hx := B.exec
  have hb := B.bytes
  have hr := B.returns
  have hts := atoms_spec (ws := wsM_isIn) B.pre
  have hown : s.vm.findClass RX1 = some m.cls := findClass_of_methodNamed B.named
  have hlocks := B.notSynchronized
  have hl := lv_entry ([.long x, .long lo, .long hi]) (n := 6) (Nat.le_of_ble_eq_true rfl)
  rw [lg_entry_eq]
  generalize (lg_sl ([.long x, .long lo, .long hi]) ++ List.replicate (6 - (lg_sl ([.long x, .long lo, .long hi])).length) Slot.unset).toArray = ls at hl ⊢
  have hl : lv_has ls 6 [(0, .long x), (2, .long lo), (4, .long hi)] := hl
  refine lv_lload_n hx hb dM_isIn_0 rfl (lv_at hl 0 rfl) ?_
  refine lv_lload_n hx hb dM_isIn_1 rfl (lv_at hl 1 rfl) ?_
  refine bl_lt (tgt := 17) (a := x.toInt) (b := lo.toInt) hx hb dM_isIn_2 dM_isIn_3 (by decide) rfl rfl (fun c3 => ?_) (fun c3 => ?_)
  · refine lv_iconst (v := 0) hx hb dM_isIn_17 (by decide) ?_
    exact rd_zret hx hb hr rfl (z1_f (isI_lo c3)) dM_isIn_18 hlocks
  · refine lv_lload_n hx hb dM_isIn_6 rfl (lv_at hl 0 rfl) ?_
    refine lv_lload hx hb dM_isIn_7 (lv_at hl 2 rfl) ?_
    refine bl_gt (tgt := 17) (a := x.toInt) (b := hi.toInt) hx hb dM_isIn_9 dM_isIn_10 (by decide) rfl rfl (fun c10 => ?_) (fun c10 => ?_)
    · refine lv_iconst (v := 0) hx hb dM_isIn_17 (by decide) ?_
      exact rd_zret hx hb hr rfl (z1_f (isI_hi c10)) dM_isIn_18 hlocks
    · refine lv_iconst (v := 1) hx hb dM_isIn_13 (by decide) ?_
      refine lv_goto (tgt := 18) hx hb dM_isIn_14 (by decide) ?_
      exact rd_zret hx hb hr rfl (z1_t (isI_t c3 c10)) dM_isIn_18 hlocks
set_option maxHeartbeats 4000000 in
set_option maxRecDepth 100000 in
theorem cm_isPort (l : Launch) (G : va_G) (cA : Nat → ClassId) (a : Nat → Nat) (V : MV) (x : Int32) (h60 : mnq V ≤ 60) : Met l yM_isPort wsM_isPort { frames := 1, cells := 0, slots := 0, locals := 25 } (rd_Pc G vwC2 (tT cA) (mW cA a V) [.ref (a 0), .int x]) (k2_QcV (.int (z1 (inB x 1 (mnq V))))) 0 0 (fun _ => False) := by
  refine Met.ofW (cc := cM_isPort) (maxL := 2) (ret := some .boolean) (by decide) rfl ?_
  intro p e s m args below meth c s₁ B hml hv
  obtain ⟨rfl, hP, hK⟩ := hv
  have hx := B.exec
  have hb := B.bytes
  have hr := B.returns
  have hts := atoms_spec (ws := wsM_isPort) B.pre
  have hown : s.vm.findClass RX1 = some m.cls := findClass_of_methodNamed B.named
  have hlocks := B.notSynchronized
  have hfi : ∀ w ∈ u_ws RX1 TM 18, w ∈ wsM_isPort := fun w h => List.mem_cons_of_mem _ (wMA_f w h)
  have hl := lv_entry ([.ref (a 0), .int x]) (n := 2) (Nat.le_of_ble_eq_true rfl)
  rw [lg_entry_eq]
  generalize (lg_sl ([.ref (a 0), .int x]) ++ List.replicate (2 - (lg_sl ([.ref (a 0), .int x])).length) Slot.unset).toArray = ls at hl ⊢
  have hl : lv_has ls 2 [(0, .ref (a 0)), (1, .int x)] := hl
  refine lv_iload_n hx hb dM_isPort_0 rfl (lv_at hl 1 rfl) ?_
  refine lv_i2l (v := x.toInt64) hx hb dM_isPort_1 (rfl) ?_
  refine lv_lconst (v := 1) hx hb dM_isPort_2 (by decide) ?_
  refine lv_aload_n hx hb dM_isPort_3 rfl (lv_at hl 0 rfl) ?_
  refine va_get (D := G) (ci := 1) (v := .int (nI (mnq V))) (C := RX1) (T := TM) (N := 18) hx hb hts hfi hown hK hP 0 rfl rfl 3 (by decide) (hts (.fieldLink RX1 71 "PortRulesModel" "ports" "I") (by decide +kernel)) (fun _ h9 => h9) rfl dM_isPort_4 ?_
  refine lv_i2l (v := (nI (mnq V)).toInt64) hx hb dM_isPort_7 (rfl) ?_
  refine rd_callS (As := [.long (x.toInt64), .long 1, .long ((nI (mnq V)).toInt64)]) (rest := []) ⟨hx, hb, hml, hown, hts⟩ (cm_isIn l x.toInt64 1 ((nI (mnq V)).toInt64)) (va_cwS 3 hts gM_isPort_M_isIn rfl rfl rfl (by decide +kernel) ⟨Nat.le_of_ble_eq_true rfl, Nat.le_of_ble_eq_true rfl⟩) rfl hl.1 rfl (Nat.le_of_ble_eq_true rfl) dM_isPort_8 ⟨Nat.zero_le _, Nat.zero_le _⟩ ?_
  exact rd_zret hx hb hr (z1_nar _) (z1_ne (isI_b (by decide) (ni_l (by omega)))) dM_isPort_11 hlocks
set_option maxHeartbeats 4000000 in
set_option maxRecDepth 100000 in
theorem cm_isWay (l : Launch) (G : va_G) (cA : Nat → ClassId) (a : Nat → Nat) (V : MV) (p0 q0 u v : Nat) (hp : p0 ≤ 60) (hq : q0 ≤ 60) (hu : u ≤ 30) (hv : v ≤ 30) (eu : mf V 4 p0 = nI u) (ev : mf V 4 q0 = nI v) : Met l yM_isWay wsM_isWay { frames := 0, cells := 0, slots := 0, locals := 0 } (rd_Pc G vwC2 (tT cA) (mW cA a V) [.ref (a 0), .int (nI p0), .int (nI q0)]) (k2_QcV (.int (z1 (mWay V p0 q0 u v)))) 0 0 (fun _ => False) := by
  refine Met.ofW (cc := cM_isWay) (maxL := 5) (ret := some .boolean) (by decide) rfl ?_
  intro p e s m args below meth c s₁ B hml hv
  obtain ⟨rfl, hP, hK⟩ := hv
  have hx := B.exec
  have hb := B.bytes
  have hr := B.returns
  have hts := atoms_spec (ws := wsM_isWay) B.pre
  have hown : s.vm.findClass RX1 = some m.cls := findClass_of_methodNamed B.named
  have hlocks := B.notSynchronized
  have hfi : ∀ w ∈ u_ws RX1 TM 18, w ∈ wsM_isWay := fun w h => List.mem_cons_of_mem _ (wMA_f w h)
  have hl := lv_entry ([.ref (a 0), .int (nI p0), .int (nI q0)]) (n := 5) (Nat.le_of_ble_eq_true rfl)
  rw [lg_entry_eq]
  generalize (lg_sl ([.ref (a 0), .int (nI p0), .int (nI q0)]) ++ List.replicate (5 - (lg_sl ([.ref (a 0), .int (nI p0), .int (nI q0)])).length) Slot.unset).toArray = ls at hl ⊢
  have hl : lv_has ls 5 [(0, .ref (a 0)), (1, .int (nI p0)), (2, .int (nI q0))] := hl
  refine lv_aload_n hx hb dM_isWay_0 rfl (lv_at hl 0 rfl) ?_
  refine va_get (D := G) (ci := 1) (v := .ref (a 4)) (C := RX1) (T := TM) (N := 18) hx hb hts hfi hown hK hP 0 rfl rfl 4 (by decide) (hts (.fieldLink RX1 13 "PortRulesModel" "partOf" "[I") (by decide +kernel)) (fun _ h9 => h9) rfl dM_isWay_1 ?_
  refine lv_iload_n hx hb dM_isWay_4 rfl (lv_at hl 1 rfl) ?_
  refine rd_iald hx hb hK hP 2 0 rfl rfl (by omega) (by decide) dM_isWay_5 ?_
  refine rd_topi (y := nI u) (eu) ?_
  refine lv_istore_n (lv' := [(3, .int (nI u)), (0, .ref (a 0)), (1, .int (nI p0)), (2, .int (nI q0))]) hx hb dM_isWay_6 rfl hl (by decide) rfl (fun ls hl => ?_)
  refine lv_aload_n hx hb dM_isWay_7 rfl (lv_at hl 1 rfl) ?_
  refine va_get (D := G) (ci := 1) (v := .ref (a 4)) (C := RX1) (T := TM) (N := 18) hx hb hts hfi hown hK hP 0 rfl rfl 4 (by decide) (hts (.fieldLink RX1 13 "PortRulesModel" "partOf" "[I") (by decide +kernel)) (fun _ h9 => h9) rfl dM_isWay_8 ?_
  refine lv_iload_n hx hb dM_isWay_11 rfl (lv_at hl 3 rfl) ?_
  refine rd_iald hx hb hK hP 2 0 rfl rfl (by omega) (by decide) dM_isWay_12 ?_
  refine rd_topi (y := nI v) (ev) ?_
  refine lv_istore (lv' := [(4, .int (nI v)), (3, .int (nI u)), (0, .ref (a 0)), (1, .int (nI p0)), (2, .int (nI q0))]) hx hb dM_isWay_13 hl (by decide) rfl (fun ls hl => ?_)
  refine lv_aload_n hx hb dM_isWay_15 rfl (lv_at hl 2 rfl) ?_
  refine va_get (D := G) (ci := 1) (v := .ref (a 6)) (C := RX1) (T := TM) (N := 18) hx hb hts hfi hown hK hP 0 rfl rfl 6 (by decide) (hts (.fieldLink RX1 19 "PortRulesModel" "provides" "[Z") (by decide +kernel)) (fun _ h9 => h9) rfl dM_isWay_16 ?_
  refine lv_iload_n hx hb dM_isWay_19 rfl (lv_at hl 3 rfl) ?_
  refine rd_zald hx hb hK hP 4 1 rfl rfl (by omega) (by decide) dM_isWay_20 ?_
  refine lv_if_eq (tgt := 61) hx hb dM_isWay_21 (by decide) (fun c21 => ?_) (fun c21 => ?_)
  · refine lv_aload_n hx hb dM_isWay_61 rfl (lv_at hl 2 rfl) ?_
    refine va_get (D := G) (ci := 1) (v := .ref (a 6)) (C := RX1) (T := TM) (N := 18) hx hb hts hfi hown hK hP 0 rfl rfl 6 (by decide) (hts (.fieldLink RX1 19 "PortRulesModel" "provides" "[Z") (by decide +kernel)) (fun _ h9 => h9) rfl dM_isWay_62 ?_
    refine lv_iload_n hx hb dM_isWay_65 rfl (lv_at hl 3 rfl) ?_
    refine rd_zald hx hb hK hP 4 1 rfl rfl (by omega) (by decide) dM_isWay_66 ?_
    refine lv_if_eq (tgt := 87) hx hb dM_isWay_67 (by decide) (fun c67 => ?_) (fun c67 => ?_)
    · refine lv_aload_n hx hb dM_isWay_87 rfl (lv_at hl 2 rfl) ?_
      refine va_get (D := G) (ci := 1) (v := .ref (a 6)) (C := RX1) (T := TM) (N := 18) hx hb hts hfi hown hK hP 0 rfl rfl 6 (by decide) (hts (.fieldLink RX1 19 "PortRulesModel" "provides" "[Z") (by decide +kernel)) (fun _ h9 => h9) rfl dM_isWay_88 ?_
      refine lv_iload_n hx hb dM_isWay_91 rfl (lv_at hl 4 rfl) ?_
      refine rd_zald hx hb hK hP 4 1 rfl rfl (by omega) (by decide) dM_isWay_92 ?_
      refine lv_if_ne (tgt := 111) hx hb dM_isWay_93 (by decide) (fun c93 => ?_) (fun c93 => ?_)
      · refine lv_iconst (v := 0) hx hb dM_isWay_111 (by decide) ?_
        exact rd_zret hx hb hr rfl (z1_f (by first | exact absurd c21 c67 | exact absurd c67 c21 | (unfold mWay; simp [c21, c67, c93]))) dM_isWay_112 hlocks
      · refine lv_aload_n hx hb dM_isWay_96 rfl (lv_at hl 2 rfl) ?_
        refine va_get (D := G) (ci := 1) (v := .ref (a 2)) (C := RX1) (T := TM) (N := 18) hx hb hts hfi hown hK hP 0 rfl rfl 2 (by decide) (hts (.fieldLink RX1 7 "PortRulesModel" "in" "[I") (by decide +kernel)) (fun _ h9 => h9) rfl dM_isWay_97 ?_
        refine lv_iload hx hb dM_isWay_100 (lv_at hl 0 rfl) ?_
        refine rd_iald hx hb hK hP 1 0 rfl rfl (by omega) (by decide) dM_isWay_102 ?_
        refine lv_iload_n hx hb dM_isWay_103 rfl (lv_at hl 1 rfl) ?_
        refine lv_icmp_ne (tgt := 111) hx hb dM_isWay_104 (by decide) (fun c104 => ?_) (fun c104 => ?_)
        · refine lv_iconst (v := 0) hx hb dM_isWay_111 (by decide) ?_
          exact rd_zret hx hb hr rfl (z1_f (by first | exact absurd c21 c67 | exact absurd c67 c21 | (unfold mWay; simp [c104, c21, c67, c93]))) dM_isWay_112 hlocks
        · refine lv_iconst (v := 1) hx hb dM_isWay_107 (by decide) ?_
          refine lv_goto (tgt := 112) hx hb dM_isWay_108 (by decide) ?_
          exact rd_zret hx hb hr rfl (z1_t (by first | exact absurd c21 c67 | exact absurd c67 c21 | (unfold mWay; simp [c104, c21, c67, c93]))) dM_isWay_112 hlocks
    · refine lv_aload_n hx hb dM_isWay_70 rfl (lv_at hl 2 rfl) ?_
      refine va_get (D := G) (ci := 1) (v := .ref (a 2)) (C := RX1) (T := TM) (N := 18) hx hb hts hfi hown hK hP 0 rfl rfl 2 (by decide) (hts (.fieldLink RX1 7 "PortRulesModel" "in" "[I") (by decide +kernel)) (fun _ h9 => h9) rfl dM_isWay_71 ?_
      refine lv_iload_n hx hb dM_isWay_74 rfl (lv_at hl 1 rfl) ?_
      refine rd_iald hx hb hK hP 1 0 rfl rfl (by omega) (by decide) dM_isWay_75 ?_
      refine lv_iload hx hb dM_isWay_76 (lv_at hl 0 rfl) ?_
      refine lv_icmp_ne (tgt := 85) hx hb dM_isWay_78 (by decide) (fun c78 => ?_) (fun c78 => ?_)
      · refine lv_iconst (v := 0) hx hb dM_isWay_85 (by decide) ?_
        exact rd_zret hx hb hr rfl (z1_f (by first | exact absurd c21 c67 | exact absurd c67 c21 | (unfold mWay; simp [c21, c67, c78]))) dM_isWay_86 hlocks
      · refine lv_iconst (v := 1) hx hb dM_isWay_81 (by decide) ?_
        refine lv_goto (tgt := 86) hx hb dM_isWay_82 (by decide) ?_
        exact rd_zret hx hb hr rfl (z1_t (by first | exact absurd c21 c67 | exact absurd c67 c21 | (unfold mWay; simp [c21, c67, c78]))) dM_isWay_86 hlocks
  · refine lv_aload_n hx hb dM_isWay_24 rfl (lv_at hl 2 rfl) ?_
    refine va_get (D := G) (ci := 1) (v := .ref (a 6)) (C := RX1) (T := TM) (N := 18) hx hb hts hfi hown hK hP 0 rfl rfl 6 (by decide) (hts (.fieldLink RX1 19 "PortRulesModel" "provides" "[Z") (by decide +kernel)) (fun _ h9 => h9) rfl dM_isWay_25 ?_
    refine lv_iload_n hx hb dM_isWay_28 rfl (lv_at hl 4 rfl) ?_
    refine rd_zald hx hb hK hP 4 1 rfl rfl (by omega) (by decide) dM_isWay_29 ?_
    refine lv_if_ne (tgt := 61) hx hb dM_isWay_30 (by decide) (fun c30 => ?_) (fun c30 => ?_)
    · refine lv_aload_n hx hb dM_isWay_61 rfl (lv_at hl 2 rfl) ?_
      refine va_get (D := G) (ci := 1) (v := .ref (a 6)) (C := RX1) (T := TM) (N := 18) hx hb hts hfi hown hK hP 0 rfl rfl 6 (by decide) (hts (.fieldLink RX1 19 "PortRulesModel" "provides" "[Z") (by decide +kernel)) (fun _ h9 => h9) rfl dM_isWay_62 ?_
      refine lv_iload_n hx hb dM_isWay_65 rfl (lv_at hl 3 rfl) ?_
      refine rd_zald hx hb hK hP 4 1 rfl rfl (by omega) (by decide) dM_isWay_66 ?_
      refine lv_if_eq (tgt := 87) hx hb dM_isWay_67 (by decide) (fun c67 => ?_) (fun c67 => ?_)
      · refine lv_aload_n hx hb dM_isWay_87 rfl (lv_at hl 2 rfl) ?_
        refine va_get (D := G) (ci := 1) (v := .ref (a 6)) (C := RX1) (T := TM) (N := 18) hx hb hts hfi hown hK hP 0 rfl rfl 6 (by decide) (hts (.fieldLink RX1 19 "PortRulesModel" "provides" "[Z") (by decide +kernel)) (fun _ h9 => h9) rfl dM_isWay_88 ?_
        refine lv_iload_n hx hb dM_isWay_91 rfl (lv_at hl 4 rfl) ?_
        refine rd_zald hx hb hK hP 4 1 rfl rfl (by omega) (by decide) dM_isWay_92 ?_
        refine lv_if_ne (tgt := 111) hx hb dM_isWay_93 (by decide) (fun c93 => ?_) (fun c93 => ?_)
        · refine lv_iconst (v := 0) hx hb dM_isWay_111 (by decide) ?_
          exact rd_zret hx hb hr rfl (z1_f (by first | exact absurd c21 c67 | exact absurd c67 c21 | exact absurd c30 c93 | exact absurd c93 c30 | (unfold mWay; simp [c21, c30, c67, c93]))) dM_isWay_112 hlocks
        · refine lv_aload_n hx hb dM_isWay_96 rfl (lv_at hl 2 rfl) ?_
          refine va_get (D := G) (ci := 1) (v := .ref (a 2)) (C := RX1) (T := TM) (N := 18) hx hb hts hfi hown hK hP 0 rfl rfl 2 (by decide) (hts (.fieldLink RX1 7 "PortRulesModel" "in" "[I") (by decide +kernel)) (fun _ h9 => h9) rfl dM_isWay_97 ?_
          refine lv_iload hx hb dM_isWay_100 (lv_at hl 0 rfl) ?_
          refine rd_iald hx hb hK hP 1 0 rfl rfl (by omega) (by decide) dM_isWay_102 ?_
          refine lv_iload_n hx hb dM_isWay_103 rfl (lv_at hl 1 rfl) ?_
          refine lv_icmp_ne (tgt := 111) hx hb dM_isWay_104 (by decide) (fun c104 => ?_) (fun c104 => ?_)
          · refine lv_iconst (v := 0) hx hb dM_isWay_111 (by decide) ?_
            exact rd_zret hx hb hr rfl (z1_f (by first | exact absurd c21 c67 | exact absurd c67 c21 | exact absurd c30 c93 | exact absurd c93 c30 | (unfold mWay; simp [c104, c21, c30, c67, c93]))) dM_isWay_112 hlocks
          · refine lv_iconst (v := 1) hx hb dM_isWay_107 (by decide) ?_
            refine lv_goto (tgt := 112) hx hb dM_isWay_108 (by decide) ?_
            exact rd_zret hx hb hr rfl (z1_t (by first | exact absurd c21 c67 | exact absurd c67 c21 | exact absurd c30 c93 | exact absurd c93 c30 | (unfold mWay; simp [c104, c21, c30, c67, c93]))) dM_isWay_112 hlocks
      · refine lv_aload_n hx hb dM_isWay_70 rfl (lv_at hl 2 rfl) ?_
        refine va_get (D := G) (ci := 1) (v := .ref (a 2)) (C := RX1) (T := TM) (N := 18) hx hb hts hfi hown hK hP 0 rfl rfl 2 (by decide) (hts (.fieldLink RX1 7 "PortRulesModel" "in" "[I") (by decide +kernel)) (fun _ h9 => h9) rfl dM_isWay_71 ?_
        refine lv_iload_n hx hb dM_isWay_74 rfl (lv_at hl 1 rfl) ?_
        refine rd_iald hx hb hK hP 1 0 rfl rfl (by omega) (by decide) dM_isWay_75 ?_
        refine lv_iload hx hb dM_isWay_76 (lv_at hl 0 rfl) ?_
        refine lv_icmp_ne (tgt := 85) hx hb dM_isWay_78 (by decide) (fun c78 => ?_) (fun c78 => ?_)
        · refine lv_iconst (v := 0) hx hb dM_isWay_85 (by decide) ?_
          exact rd_zret hx hb hr rfl (z1_f (by first | exact absurd c21 c67 | exact absurd c67 c21 | (unfold mWay; simp [c21, c30, c67, c78]))) dM_isWay_86 hlocks
        · refine lv_iconst (v := 1) hx hb dM_isWay_81 (by decide) ?_
          refine lv_goto (tgt := 86) hx hb dM_isWay_82 (by decide) ?_
          exact rd_zret hx hb hr rfl (z1_t (by first | exact absurd c21 c67 | exact absurd c67 c21 | (unfold mWay; simp [c21, c30, c67, c78]))) dM_isWay_86 hlocks
    · refine lv_iload_n hx hb dM_isWay_33 rfl (lv_at hl 1 rfl) ?_
      refine lv_iload hx hb dM_isWay_34 (lv_at hl 0 rfl) ?_
      refine lv_icmp_eq (tgt := 59) hx hb dM_isWay_36 (by decide) (fun c36 => ?_) (fun c36 => ?_)
      · refine lv_iconst (v := 0) hx hb dM_isWay_59 (by decide) ?_
        exact rd_zret hx hb hr rfl (z1_f (by first | (unfold mWay; simp [c21, c30, c36]))) dM_isWay_60 hlocks
      · refine lv_aload_n hx hb dM_isWay_39 rfl (lv_at hl 2 rfl) ?_
        refine va_get (D := G) (ci := 1) (v := .ref (a 2)) (C := RX1) (T := TM) (N := 18) hx hb hts hfi hown hK hP 0 rfl rfl 2 (by decide) (hts (.fieldLink RX1 7 "PortRulesModel" "in" "[I") (by decide +kernel)) (fun _ h9 => h9) rfl dM_isWay_40 ?_
        refine lv_iload_n hx hb dM_isWay_43 rfl (lv_at hl 1 rfl) ?_
        refine rd_iald hx hb hK hP 1 0 rfl rfl (by omega) (by decide) dM_isWay_44 ?_
        refine lv_aload_n hx hb dM_isWay_45 rfl (lv_at hl 2 rfl) ?_
        refine va_get (D := G) (ci := 1) (v := .ref (a 2)) (C := RX1) (T := TM) (N := 18) hx hb hts hfi hown hK hP 0 rfl rfl 2 (by decide) (hts (.fieldLink RX1 7 "PortRulesModel" "in" "[I") (by decide +kernel)) (fun _ h9 => h9) rfl dM_isWay_46 ?_
        refine lv_iload hx hb dM_isWay_49 (lv_at hl 0 rfl) ?_
        refine rd_iald hx hb hK hP 1 0 rfl rfl (by omega) (by decide) dM_isWay_51 ?_
        refine lv_icmp_ne (tgt := 59) hx hb dM_isWay_52 (by decide) (fun c52 => ?_) (fun c52 => ?_)
        · refine lv_iconst (v := 0) hx hb dM_isWay_59 (by decide) ?_
          exact rd_zret hx hb hr rfl (z1_f (by first | (unfold mWay; simp [c21, c30, c36, c52]))) dM_isWay_60 hlocks
        · refine lv_iconst (v := 1) hx hb dM_isWay_55 (by decide) ?_
          refine lv_goto (tgt := 60) hx hb dM_isWay_56 (by decide) ?_
          exact rd_zret hx hb hr rfl (z1_t (by first | (unfold mWay; simp [c21, c30, c36, c52]))) dM_isWay_60 hlocks
set_option maxHeartbeats 4000000 in
set_option maxRecDepth 100000 in
theorem cm_isAtomic (l : Launch) (G : va_G) (cA : Nat → ClassId) (a : Nat → Nat) (V : MV) (x : Int32) (h30 : mnp V ≤ 30) : Met l yM_isAtomic wsM_isAtomic { frames := 0, cells := 0, slots := 0, locals := 0 } (rd_Pc G vwC2 (tT cA) (mW cA a V) [.ref (a 0), .int x]) (k2_QcV (.int (z1 (mAt V x)))) 0 0 (fun _ => False) := by
  refine Met.ofW (cc := cM_isAtomic) (maxL := 4) (ret := some .boolean) (by decide) rfl ?_
  intro p e s m args below meth c s₁ B hml hv
  obtain ⟨rfl, hP, hK⟩ := hv
  have hx := B.exec
  have hb := B.bytes
  have hr := B.returns
  have hts := atoms_spec (ws := wsM_isAtomic) B.pre
  have hown : s.vm.findClass RX1 = some m.cls := findClass_of_methodNamed B.named
  have hlocks := B.notSynchronized
  have hfi : ∀ w ∈ u_ws RX1 TM 18, w ∈ wsM_isAtomic := fun w h => List.mem_cons_of_mem _ (wMA_f w h)
  have hl := lv_entry ([.ref (a 0), .int x]) (n := 4) (Nat.le_of_ble_eq_true rfl)
  rw [lg_entry_eq]
  generalize (lg_sl ([.ref (a 0), .int x]) ++ List.replicate (4 - (lg_sl ([.ref (a 0), .int x])).length) Slot.unset).toArray = ls at hl ⊢
  have hl : lv_has ls 4 [(0, .ref (a 0)), (1, .int x)] := hl
  refine lv_iconst (v := z1 true) hx hb dM_isAtomic_0 (by decide) ?_
  refine lv_istore_n (lv' := [(2, .int (z1 true)), (0, .ref (a 0)), (1, .int x)]) hx hb dM_isAtomic_1 rfl hl (by decide) rfl (fun ls hl => ?_)
  refine lv_iconst (v := nI 1) hx hb dM_isAtomic_2 (by decide) ?_
  refine lv_istore_n (lv' := [(3, .int (nI 1)), (2, .int (z1 true)), (0, .ref (a 0)), (1, .int x)]) hx hb dM_isAtomic_3 rfl hl (by decide) rfl (fun ls hl => ?_)
  refine rd_loop (fun k ls => ∃ (i : Nat) (b : Bool), 1 ≤ i ∧ i + k = mnp V + 1 ∧ (b && !pu_any (fun k0 => decide (mf V 2 k0 = x)) k i) = mAt V x ∧ lv_has ls 4 [(3, .int (nI i)), (2, .int (z1 b)), (0, .ref (a 0)), (1, .int x)]) ?_ (mnp V) ls ⟨1, true, by omega, by omega, Bool.true_and _, (lv_sub hl [0, 1, 2, 3] rfl)⟩
  intro k4 ls ⟨i, b, hi, hk, hR, hl⟩ ih4
  refine lv_iload_n hx hb dM_isAtomic_4 rfl (lv_at hl 0 rfl) ?_
  refine lv_aload_n hx hb dM_isAtomic_5 rfl (lv_at hl 2 rfl) ?_
  refine va_get (D := G) (ci := 1) (v := .int (nI (mnp V))) (C := RX1) (T := TM) (N := 18) hx hb hts hfi hown hK hP 0 rfl rfl 1 (by decide) (hts (.fieldLink RX1 58 "PortRulesModel" "parts" "I") (by decide +kernel)) (fun _ h9 => h9) rfl dM_isAtomic_6 ?_
  refine nb_gt (tgt := 38) hx hb dM_isAtomic_9 (by decide) (by omega) (by omega) (fun c9 => ?_) (fun c9 => ?_)
  · refine lv_iload_n hx hb dM_isAtomic_38 rfl (lv_at hl 1 rfl) ?_
    exact rd_zret hx hb hr (z1_nar _) (z1_ne (by rw [← hR, show k4 = 0 by omega]; simp [pu_any])) dM_isAtomic_39 hlocks
  · obtain ⟨k4, rfl⟩ : ∃ z, k4 = z + 1 := ⟨k4 - 1, by omega⟩
    refine lv_iload_n hx hb dM_isAtomic_12 rfl (lv_at hl 1 rfl) ?_
    refine bb_eq (tgt := 30) hx hb dM_isAtomic_13 (by decide) (fun c13 => ?_) (fun c13 => ?_)
    · refine lv_iconst (v := z1 false) hx hb dM_isAtomic_30 (by decide) ?_
      refine lv_istore_n (lv' := [(2, .int (z1 false)), (3, .int (nI i)), (0, .ref (a 0)), (1, .int x)]) hx hb dM_isAtomic_31 rfl hl (by decide) rfl (fun ls hl => ?_)
      refine lv_iinc (v := nI (i + 1)) (lv' := [(3, .int (nI (i + 1))), (2, .int (z1 false)), (0, .ref (a 0)), (1, .int x)]) hx hb dM_isAtomic_32 hl (k := 1) rfl (ni_inc _) (by decide) rfl (fun ls hl => ?_)
      refine lv_goto (tgt := 4) hx hb dM_isAtomic_35 (by decide) ?_
      exact ih4 k4 ls (by omega) ⟨i + 1, false, by omega, by omega, by rw [← hR, c13]; simp, (lv_sub hl [0, 1, 2, 3] rfl)⟩
    · refine lv_aload_n hx hb dM_isAtomic_16 rfl (lv_at hl 2 rfl) ?_
      refine va_get (D := G) (ci := 1) (v := .ref (a 2)) (C := RX1) (T := TM) (N := 18) hx hb hts hfi hown hK hP 0 rfl rfl 2 (by decide) (hts (.fieldLink RX1 7 "PortRulesModel" "in" "[I") (by decide +kernel)) (fun _ h9 => h9) rfl dM_isAtomic_17 ?_
      refine lv_iload_n hx hb dM_isAtomic_20 rfl (lv_at hl 0 rfl) ?_
      refine rd_iald hx hb hK hP 1 0 rfl rfl (by omega) (by decide) dM_isAtomic_21 ?_
      refine lv_iload_n hx hb dM_isAtomic_22 rfl (lv_at hl 3 rfl) ?_
      refine lv_icmp_eq (tgt := 30) hx hb dM_isAtomic_23 (by decide) (fun c23 => ?_) (fun c23 => ?_)
      · refine lv_iconst (v := z1 false) hx hb dM_isAtomic_30 (by decide) ?_
        refine lv_istore_n (lv' := [(2, .int (z1 false)), (3, .int (nI i)), (0, .ref (a 0)), (1, .int x)]) hx hb dM_isAtomic_31 rfl hl (by decide) rfl (fun ls hl => ?_)
        refine lv_iinc (v := nI (i + 1)) (lv' := [(3, .int (nI (i + 1))), (2, .int (z1 false)), (0, .ref (a 0)), (1, .int x)]) hx hb dM_isAtomic_32 hl (k := 1) rfl (ni_inc _) (by decide) rfl (fun ls hl => ?_)
        refine lv_goto (tgt := 4) hx hb dM_isAtomic_35 (by decide) ?_
        exact ih4 k4 ls (by omega) ⟨i + 1, false, by omega, by omega, by rw [← hR, c13]; simp [pu_any, c23], (lv_sub hl [0, 1, 2, 3] rfl)⟩
      · refine lv_iconst (v := z1 true) hx hb dM_isAtomic_26 (by decide) ?_
        refine lv_goto (tgt := 31) hx hb dM_isAtomic_27 (by decide) ?_
        refine lv_istore_n (lv' := [(2, .int (z1 true)), (3, .int (nI i)), (0, .ref (a 0)), (1, .int x)]) hx hb dM_isAtomic_31 rfl hl (by decide) rfl (fun ls hl => ?_)
        refine lv_iinc (v := nI (i + 1)) (lv' := [(3, .int (nI (i + 1))), (2, .int (z1 true)), (0, .ref (a 0)), (1, .int x)]) hx hb dM_isAtomic_32 hl (k := 1) rfl (ni_inc _) (by decide) rfl (fun ls hl => ?_)
        refine lv_goto (tgt := 4) hx hb dM_isAtomic_35 (by decide) ?_
        exact ih4 k4 ls (by omega) ⟨i + 1, true, by omega, by omega, by rw [← hR, c13]; simp [pu_any, c23], (lv_sub hl [0, 1, 2, 3] rfl)⟩
set_option maxHeartbeats 4000000 in
set_option maxRecDepth 100000 in
theorem cm_isManaging (l : Launch) (G : va_G) (cA : Nat → ClassId) (a : Nat → Nat) (V : MV) (x : Int32)  : Met l yM_isManaging wsM_isManaging { frames := 0, cells := 0, slots := 0, locals := 0 } (rd_Pc G vwC2 (tT cA) (mW cA a V) [.ref (a 0), .int x]) (k2_QcV (.int (z1 (mMg V x)))) 0 0 (fun _ => False) := by
  refine Met.ofW (cc := cM_isManaging) (maxL := 4) (ret := some .boolean) (by decide) rfl ?_
  intro p e s m args below meth c s₁ B hml hv
  obtain ⟨rfl, hP, hK⟩ := hv
  have hx := B.exec
  have hb := B.bytes
  have hr := B.returns
  have hts := atoms_spec (ws := wsM_isManaging) B.pre
  have hown : s.vm.findClass RX1 = some m.cls := findClass_of_methodNamed B.named
  have hlocks := B.notSynchronized
  have hfi : ∀ w ∈ u_ws RX1 TM 18, w ∈ wsM_isManaging := fun w h => List.mem_cons_of_mem _ (wMA_f w h)
  have hl := lv_entry ([.ref (a 0), .int x]) (n := 4) (Nat.le_of_ble_eq_true rfl)
  rw [lg_entry_eq]
  generalize (lg_sl ([.ref (a 0), .int x]) ++ List.replicate (4 - (lg_sl ([.ref (a 0), .int x])).length) Slot.unset).toArray = ls at hl ⊢
  have hl : lv_has ls 4 [(0, .ref (a 0)), (1, .int x)] := hl
  refine lv_iconst (v := z1 false) hx hb dM_isManaging_0 (by decide) ?_
  refine lv_istore_n (lv' := [(2, .int (z1 false)), (0, .ref (a 0)), (1, .int x)]) hx hb dM_isManaging_1 rfl hl (by decide) rfl (fun ls hl => ?_)
  refine lv_iconst (v := nI 0) hx hb dM_isManaging_2 (by decide) ?_
  refine lv_istore_n (lv' := [(3, .int (nI 0)), (2, .int (z1 false)), (0, .ref (a 0)), (1, .int x)]) hx hb dM_isManaging_3 rfl hl (by decide) rfl (fun ls hl => ?_)
  refine rd_loop (fun k ls => ∃ (i : Nat) (b : Bool), i + k = 10 ∧ (b || pu_any (fun k0 => decide (mf V 14 k0 = x)) k i) = mMg V x ∧ lv_has ls 4 [(3, .int (nI i)), (2, .int (z1 b)), (0, .ref (a 0)), (1, .int x)]) ?_ 10 ls ⟨0, false, by omega, Bool.false_or _, (lv_sub hl [0, 1, 2, 3] rfl)⟩
  intro k4 ls ⟨i, b, hk, hR, hl⟩ ih4
  refine lv_iload_n hx hb dM_isManaging_4 rfl (lv_at hl 0 rfl) ?_
  refine lv_bipush (v := nI 10) hx hb dM_isManaging_5 (by decide) ?_
  refine nb_ge (tgt := 36) hx hb dM_isManaging_7 (by decide) (by omega) (by omega) (fun c7 => ?_) (fun c7 => ?_)
  · refine lv_iload_n hx hb dM_isManaging_36 rfl (lv_at hl 1 rfl) ?_
    exact rd_zret hx hb hr (z1_nar _) (z1_ne (by rw [← hR, show k4 = 0 by omega]; simp [pu_any])) dM_isManaging_37 hlocks
  · obtain ⟨k4, rfl⟩ : ∃ z, k4 = z + 1 := ⟨k4 - 1, by omega⟩
    refine lv_iload_n hx hb dM_isManaging_10 rfl (lv_at hl 1 rfl) ?_
    refine bb_ne (tgt := 24) hx hb dM_isManaging_11 (by decide) (fun c11 => ?_) (fun c11 => ?_)
    · refine lv_iconst (v := z1 true) hx hb dM_isManaging_24 (by decide) ?_
      refine lv_goto (tgt := 29) hx hb dM_isManaging_25 (by decide) ?_
      refine lv_istore_n (lv' := [(2, .int (z1 true)), (3, .int (nI i)), (0, .ref (a 0)), (1, .int x)]) hx hb dM_isManaging_29 rfl hl (by decide) rfl (fun ls hl => ?_)
      refine lv_iinc (v := nI (i + 1)) (lv' := [(3, .int (nI (i + 1))), (2, .int (z1 true)), (0, .ref (a 0)), (1, .int x)]) hx hb dM_isManaging_30 hl (k := 1) rfl (ni_inc _) (by decide) rfl (fun ls hl => ?_)
      refine lv_goto (tgt := 4) hx hb dM_isManaging_33 (by decide) ?_
      exact ih4 k4 ls (by omega) ⟨i + 1, true, by omega, by rw [← hR, c11]; simp, (lv_sub hl [0, 1, 2, 3] rfl)⟩
    · refine lv_aload_n hx hb dM_isManaging_14 rfl (lv_at hl 2 rfl) ?_
      refine va_get (D := G) (ci := 1) (v := .ref (a 14)) (C := RX1) (T := TM) (N := 18) hx hb hts hfi hown hK hP 0 rfl rfl 14 (by decide) (hts (.fieldLink RX1 45 "PortRulesModel" "manager" "[I") (by decide +kernel)) (fun _ h9 => h9) rfl dM_isManaging_15 ?_
      refine lv_iload_n hx hb dM_isManaging_18 rfl (lv_at hl 0 rfl) ?_
      refine rd_iald hx hb hK hP 12 0 rfl rfl (by omega) (by decide) dM_isManaging_19 ?_
      refine lv_iload_n hx hb dM_isManaging_20 rfl (lv_at hl 3 rfl) ?_
      refine lv_icmp_ne (tgt := 28) hx hb dM_isManaging_21 (by decide) (fun c21 => ?_) (fun c21 => ?_)
      · refine lv_iconst (v := z1 false) hx hb dM_isManaging_28 (by decide) ?_
        refine lv_istore_n (lv' := [(2, .int (z1 false)), (3, .int (nI i)), (0, .ref (a 0)), (1, .int x)]) hx hb dM_isManaging_29 rfl hl (by decide) rfl (fun ls hl => ?_)
        refine lv_iinc (v := nI (i + 1)) (lv' := [(3, .int (nI (i + 1))), (2, .int (z1 false)), (0, .ref (a 0)), (1, .int x)]) hx hb dM_isManaging_30 hl (k := 1) rfl (ni_inc _) (by decide) rfl (fun ls hl => ?_)
        refine lv_goto (tgt := 4) hx hb dM_isManaging_33 (by decide) ?_
        exact ih4 k4 ls (by omega) ⟨i + 1, false, by omega, by rw [← hR, c11]; simp [pu_any, c21], (lv_sub hl [0, 1, 2, 3] rfl)⟩
      · refine lv_iconst (v := z1 true) hx hb dM_isManaging_24 (by decide) ?_
        refine lv_goto (tgt := 29) hx hb dM_isManaging_25 (by decide) ?_
        refine lv_istore_n (lv' := [(2, .int (z1 true)), (3, .int (nI i)), (0, .ref (a 0)), (1, .int x)]) hx hb dM_isManaging_29 rfl hl (by decide) rfl (fun ls hl => ?_)
        refine lv_iinc (v := nI (i + 1)) (lv' := [(3, .int (nI (i + 1))), (2, .int (z1 true)), (0, .ref (a 0)), (1, .int x)]) hx hb dM_isManaging_30 hl (k := 1) rfl (ni_inc _) (by decide) rfl (fun ls hl => ?_)
        refine lv_goto (tgt := 4) hx hb dM_isManaging_33 (by decide) ?_
        exact ih4 k4 ls (by omega) ⟨i + 1, true, by omega, by rw [← hR, c11]; simp [pu_any, c21], (lv_sub hl [0, 1, 2, 3] rfl)⟩
set_option maxHeartbeats 4000000 in
set_option maxRecDepth 100000 in
theorem cm_isFlat (l : Launch) (G : va_G) (cA : Nat → ClassId) (a : Nat → Nat) (V : MV) (p0 q0 : Nat) (h30 : mnp V ≤ 30) (h60 : mnq V ≤ 60) (hkn : mKn V) (hp1 : 1 ≤ p0) (hp2 : p0 ≤ mnq V) (hq1 : 1 ≤ q0) (hq2 : q0 ≤ mnq V) : Met l yM_isFlat wsM_isFlat { frames := 1, cells := 0, slots := 0, locals := 23 } (rd_Pc G vwC2 (tT cA) (mW cA a V) [.ref (a 0), .int (nI p0), .int (nI q0)]) (k2_QcV (.int (z1 (mF V p0 q0)))) 0 0 (fun _ => False) := by
  refine Met.ofW (cc := cM_isFlat) (maxL := 3) (ret := some .boolean) (by decide) rfl ?_
  intro p e s m args below meth c s₁ B hml hv
  obtain ⟨rfl, hP, hK⟩ := hv
  have hx := B.exec
  have hb := B.bytes
  have hr := B.returns
  have hts := atoms_spec (ws := wsM_isFlat) B.pre
  have hown : s.vm.findClass RX1 = some m.cls := findClass_of_methodNamed B.named
  have hlocks := B.notSynchronized
  have hfi : ∀ w ∈ u_ws RX1 TM 18, w ∈ wsM_isFlat := fun w h => List.mem_cons_of_mem _ (wMA_f w h)
  have hl := lv_entry ([.ref (a 0), .int (nI p0), .int (nI q0)]) (n := 3) (Nat.le_of_ble_eq_true rfl)
  rw [lg_entry_eq]
  generalize (lg_sl ([.ref (a 0), .int (nI p0), .int (nI q0)]) ++ List.replicate (3 - (lg_sl ([.ref (a 0), .int (nI p0), .int (nI q0)])).length) Slot.unset).toArray = ls at hl ⊢
  have hl : lv_has ls 3 [(0, .ref (a 0)), (1, .int (nI p0)), (2, .int (nI q0))] := hl
  refine lv_aload_n hx hb dM_isFlat_0 rfl (lv_at hl 0 rfl) ?_
  refine va_get (D := G) (ci := 1) (v := .ref (a 6)) (C := RX1) (T := TM) (N := 18) hx hb hts hfi hown hK hP 0 rfl rfl 6 (by decide) (hts (.fieldLink RX1 19 "PortRulesModel" "provides" "[Z") (by decide +kernel)) (fun _ h9 => h9) rfl dM_isFlat_1 ?_
  refine lv_iload_n hx hb dM_isFlat_4 rfl (lv_at hl 1 rfl) ?_
  refine rd_zald hx hb hK hP 4 1 rfl rfl (by omega) (by decide) dM_isFlat_5 ?_
  refine lv_if_eq (tgt := 62) hx hb dM_isFlat_6 (by decide) (fun c6 => ?_) (fun c6 => ?_)
  · refine lv_iconst (v := 0) hx hb dM_isFlat_62 (by decide) ?_
    exact rd_zret hx hb hr rfl (z1_f (by unfold mF; rw [← hkn p0 q0 hp1 hp2 hq1 hq2]; simp [c6])) dM_isFlat_63 hlocks
  · refine lv_aload_n hx hb dM_isFlat_9 rfl (lv_at hl 0 rfl) ?_
    refine va_get (D := G) (ci := 1) (v := .ref (a 6)) (C := RX1) (T := TM) (N := 18) hx hb hts hfi hown hK hP 0 rfl rfl 6 (by decide) (hts (.fieldLink RX1 19 "PortRulesModel" "provides" "[Z") (by decide +kernel)) (fun _ h9 => h9) rfl dM_isFlat_10 ?_
    refine lv_iload_n hx hb dM_isFlat_13 rfl (lv_at hl 2 rfl) ?_
    refine rd_zald hx hb hK hP 4 1 rfl rfl (by omega) (by decide) dM_isFlat_14 ?_
    refine lv_if_ne (tgt := 62) hx hb dM_isFlat_15 (by decide) (fun c15 => ?_) (fun c15 => ?_)
    · refine lv_iconst (v := 0) hx hb dM_isFlat_62 (by decide) ?_
      exact rd_zret hx hb hr rfl (z1_f (by unfold mF; rw [← hkn p0 q0 hp1 hp2 hq1 hq2]; simp [c15, c6])) dM_isFlat_63 hlocks
    · refine lv_aload_n hx hb dM_isFlat_18 rfl (lv_at hl 0 rfl) ?_
      refine va_get (D := G) (ci := 1) (v := .ref (a 16)) (C := RX1) (T := TM) (N := 18) hx hb hts hfi hown hK hP 0 rfl rfl 16 (by decide) (hts (.fieldLink RX1 51 "PortRulesModel" "reaches" "[Z") (by decide +kernel)) (fun _ h9 => h9) rfl dM_isFlat_19 ?_
      refine lv_bipush (v := nI 61) hx hb dM_isFlat_22 (by decide) ?_
      refine lv_iload_n hx hb dM_isFlat_24 rfl (lv_at hl 1 rfl) ?_
      refine lv_imul hx hb dM_isFlat_25 ?_
      refine rd_topi (y := nI (61 * p0)) (pk_mul _ _) ?_
      refine lv_iload_n hx hb dM_isFlat_26 rfl (lv_at hl 2 rfl) ?_
      refine lv_iadd hx hb dM_isFlat_27 ?_
      refine rd_topi (y := nI (61 * p0 + q0)) (nI_add _ _) ?_
      refine rd_zald hx hb hK hP 14 1 rfl rfl (by omega) (by decide) dM_isFlat_28 ?_
      refine lv_if_eq (tgt := 62) hx hb dM_isFlat_29 (by decide) (fun c29 => ?_) (fun c29 => ?_)
      · refine lv_iconst (v := 0) hx hb dM_isFlat_62 (by decide) ?_
        exact rd_zret hx hb hr rfl (z1_f (by unfold mF; rw [← hkn p0 q0 hp1 hp2 hq1 hq2]; simp [c15, c29, c6])) dM_isFlat_63 hlocks
      · refine lv_aload_n hx hb dM_isFlat_32 rfl (lv_at hl 0 rfl) ?_
        refine lv_aload_n hx hb dM_isFlat_33 rfl (lv_at hl 0 rfl) ?_
        refine va_get (D := G) (ci := 1) (v := .ref (a 4)) (C := RX1) (T := TM) (N := 18) hx hb hts hfi hown hK hP 0 rfl rfl 4 (by decide) (hts (.fieldLink RX1 13 "PortRulesModel" "partOf" "[I") (by decide +kernel)) (fun _ h9 => h9) rfl dM_isFlat_34 ?_
        refine lv_iload_n hx hb dM_isFlat_37 rfl (lv_at hl 1 rfl) ?_
        refine rd_iald hx hb hK hP 2 0 rfl rfl (by omega) (by decide) dM_isFlat_38 ?_
        refine rd_callV (As := [.int (mf V 4 p0)]) (rest := []) (b := a 0) (q0 := 0) (ci := 1) ⟨hx, hb, hml, hown, hts⟩ (cm_isAtomic l G cA a V (mf V 4 p0) h30) (cwV 1 hts gM_isFlat_M_isAtomic rfl rfl rfl (by decide +kernel) ⟨Nat.le_of_ble_eq_true rfl, Nat.le_of_ble_eq_true rfl⟩) hK hP rfl rfl rfl rfl hl.1 rfl (Nat.le_of_ble_eq_true rfl) dM_isFlat_39 ⟨Nat.zero_le _, Nat.zero_le _⟩ ?_
        refine bb_eq (tgt := 62) hx hb dM_isFlat_42 (by decide) (fun c42 => ?_) (fun c42 => ?_)
        · refine lv_iconst (v := 0) hx hb dM_isFlat_62 (by decide) ?_
          exact rd_zret hx hb hr rfl (z1_f (by unfold mF; rw [← hkn p0 q0 hp1 hp2 hq1 hq2]; simp [c15, c29, c42, c6])) dM_isFlat_63 hlocks
        · refine lv_aload_n hx hb dM_isFlat_45 rfl (lv_at hl 0 rfl) ?_
          refine lv_aload_n hx hb dM_isFlat_46 rfl (lv_at hl 0 rfl) ?_
          refine va_get (D := G) (ci := 1) (v := .ref (a 4)) (C := RX1) (T := TM) (N := 18) hx hb hts hfi hown hK hP 0 rfl rfl 4 (by decide) (hts (.fieldLink RX1 13 "PortRulesModel" "partOf" "[I") (by decide +kernel)) (fun _ h9 => h9) rfl dM_isFlat_47 ?_
          refine lv_iload_n hx hb dM_isFlat_50 rfl (lv_at hl 2 rfl) ?_
          refine rd_iald hx hb hK hP 2 0 rfl rfl (by omega) (by decide) dM_isFlat_51 ?_
          refine rd_callV (As := [.int (mf V 4 q0)]) (rest := []) (b := a 0) (q0 := 0) (ci := 1) ⟨hx, hb, hml, hown, hts⟩ (cm_isAtomic l G cA a V (mf V 4 q0) h30) (cwV 1 hts gM_isFlat_M_isAtomic rfl rfl rfl (by decide +kernel) ⟨Nat.le_of_ble_eq_true rfl, Nat.le_of_ble_eq_true rfl⟩) hK hP rfl rfl rfl rfl hl.1 rfl (Nat.le_of_ble_eq_true rfl) dM_isFlat_52 ⟨Nat.zero_le _, Nat.zero_le _⟩ ?_
          refine bb_eq (tgt := 62) hx hb dM_isFlat_55 (by decide) (fun c55 => ?_) (fun c55 => ?_)
          · refine lv_iconst (v := 0) hx hb dM_isFlat_62 (by decide) ?_
            exact rd_zret hx hb hr rfl (z1_f (by unfold mF; rw [← hkn p0 q0 hp1 hp2 hq1 hq2]; simp [c15, c29, c42, c55, c6])) dM_isFlat_63 hlocks
          · refine lv_iconst (v := 1) hx hb dM_isFlat_58 (by decide) ?_
            refine lv_goto (tgt := 63) hx hb dM_isFlat_59 (by decide) ?_
            exact rd_zret hx hb hr rfl (z1_t (by unfold mF; rw [← hkn p0 q0 hp1 hp2 hq1 hq2]; simp [c15, c29, c42, c55, c6])) dM_isFlat_63 hlocks
set_option maxHeartbeats 4000000 in
set_option maxRecDepth 100000 in
theorem cm_isReading (l : Launch) (G : va_G) (cA : Nat → ClassId) (a : Nat → Nat) (V : MV) (q0 : Nat) (h30 : mnp V ≤ 30) (hq : q0 ≤ 60) : Met l yM_isReading wsM_isReading { frames := 1, cells := 0, slots := 0, locals := 23 } (rd_Pc G vwC2 (tT cA) (mW cA a V) [.ref (a 0), .int (nI q0)]) (k2_QcV (.int (z1 (mRd V q0)))) 0 0 (fun _ => False) := by
  refine Met.ofW (cc := cM_isReading) (maxL := 2) (ret := some .boolean) (by decide) rfl ?_
  intro p e s m args below meth c s₁ B hml hv
  obtain ⟨rfl, hP, hK⟩ := hv
  have hx := B.exec
  have hb := B.bytes
  have hr := B.returns
  have hts := atoms_spec (ws := wsM_isReading) B.pre
  have hown : s.vm.findClass RX1 = some m.cls := findClass_of_methodNamed B.named
  have hlocks := B.notSynchronized
  have hfi : ∀ w ∈ u_ws RX1 TM 18, w ∈ wsM_isReading := fun w h => List.mem_cons_of_mem _ (wMA_f w h)
  have hl := lv_entry ([.ref (a 0), .int (nI q0)]) (n := 2) (Nat.le_of_ble_eq_true rfl)
  rw [lg_entry_eq]
  generalize (lg_sl ([.ref (a 0), .int (nI q0)]) ++ List.replicate (2 - (lg_sl ([.ref (a 0), .int (nI q0)])).length) Slot.unset).toArray = ls at hl ⊢
  have hl : lv_has ls 2 [(0, .ref (a 0)), (1, .int (nI q0))] := hl
  refine lv_aload_n hx hb dM_isReading_0 rfl (lv_at hl 0 rfl) ?_
  refine va_get (D := G) (ci := 1) (v := .ref (a 6)) (C := RX1) (T := TM) (N := 18) hx hb hts hfi hown hK hP 0 rfl rfl 6 (by decide) (hts (.fieldLink RX1 19 "PortRulesModel" "provides" "[Z") (by decide +kernel)) (fun _ h9 => h9) rfl dM_isReading_1 ?_
  refine lv_iload_n hx hb dM_isReading_4 rfl (lv_at hl 1 rfl) ?_
  refine rd_zald hx hb hK hP 4 1 rfl rfl (by omega) (by decide) dM_isReading_5 ?_
  refine lv_if_ne (tgt := 26) hx hb dM_isReading_6 (by decide) (fun c6 => ?_) (fun c6 => ?_)
  · refine lv_iconst (v := 0) hx hb dM_isReading_26 (by decide) ?_
    exact rd_zret hx hb hr rfl (z1_f (by unfold mRd; simp [c6])) dM_isReading_27 hlocks
  · refine lv_aload_n hx hb dM_isReading_9 rfl (lv_at hl 0 rfl) ?_
    refine lv_aload_n hx hb dM_isReading_10 rfl (lv_at hl 0 rfl) ?_
    refine va_get (D := G) (ci := 1) (v := .ref (a 4)) (C := RX1) (T := TM) (N := 18) hx hb hts hfi hown hK hP 0 rfl rfl 4 (by decide) (hts (.fieldLink RX1 13 "PortRulesModel" "partOf" "[I") (by decide +kernel)) (fun _ h9 => h9) rfl dM_isReading_11 ?_
    refine lv_iload_n hx hb dM_isReading_14 rfl (lv_at hl 1 rfl) ?_
    refine rd_iald hx hb hK hP 2 0 rfl rfl (by omega) (by decide) dM_isReading_15 ?_
    refine rd_callV (As := [.int (mf V 4 q0)]) (rest := []) (b := a 0) (q0 := 0) (ci := 1) ⟨hx, hb, hml, hown, hts⟩ (cm_isAtomic l G cA a V (mf V 4 q0) h30) (cwV 1 hts gM_isReading_M_isAtomic rfl rfl rfl (by decide +kernel) ⟨Nat.le_of_ble_eq_true rfl, Nat.le_of_ble_eq_true rfl⟩) hK hP rfl rfl rfl rfl hl.1 rfl (Nat.le_of_ble_eq_true rfl) dM_isReading_16 ⟨Nat.zero_le _, Nat.zero_le _⟩ ?_
    refine bb_eq (tgt := 26) hx hb dM_isReading_19 (by decide) (fun c19 => ?_) (fun c19 => ?_)
    · refine lv_iconst (v := 0) hx hb dM_isReading_26 (by decide) ?_
      exact rd_zret hx hb hr rfl (z1_f (by unfold mRd; simp [c19, c6])) dM_isReading_27 hlocks
    · refine lv_iconst (v := 1) hx hb dM_isReading_22 (by decide) ?_
      refine lv_goto (tgt := 27) hx hb dM_isReading_23 (by decide) ?_
      exact rd_zret hx hb hr rfl (z1_t (by unfold mRd; simp [c19, c6])) dM_isReading_27 hlocks
set_option maxHeartbeats 4000000 in
set_option maxRecDepth 100000 in
theorem cm_thrown (l : Launch) (G : va_G) (cA : Nat → ClassId) (a : Nat → Nat) (V : MV)   : Met l yM_thrown wsM_thrown { frames := 0, cells := 0, slots := 0, locals := 0 } (rd_Pc G vwC2 (tT cA) (mW cA a V) [.ref (a 0)]) (k2_QcV (.int (mco V))) 0 0 (fun _ => False) := by
  refine Met.ofW (cc := cM_thrown) (maxL := 1) (ret := some .int) (by decide) rfl ?_
  intro p e s m args below meth c s₁ B hml hv
  obtain ⟨rfl, hP, hK⟩ := hv
  have hx := B.exec
  have hb := B.bytes
  have hr := B.returns
  have hts := atoms_spec (ws := wsM_thrown) B.pre
  have hown : s.vm.findClass RX1 = some m.cls := findClass_of_methodNamed B.named
  have hlocks := B.notSynchronized
  have hfi : ∀ w ∈ u_ws RX1 TM 18, w ∈ wsM_thrown := fun w h => List.mem_cons_of_mem _ (wMA_f w h)
  have hl := lv_entry ([.ref (a 0)]) (n := 1) (Nat.le_of_ble_eq_true rfl)
  rw [lg_entry_eq]
  generalize (lg_sl ([.ref (a 0)]) ++ List.replicate (1 - (lg_sl ([.ref (a 0)])).length) Slot.unset).toArray = ls at hl ⊢
  have hl : lv_has ls 1 [(0, .ref (a 0))] := hl
  refine lv_aload_n hx hb dM_thrown_0 rfl (lv_at hl 0 rfl) ?_
  refine va_get (D := G) (ci := 1) (v := .int (mco V)) (C := RX1) (T := TM) (N := 18) hx hb hts hfi hown hK hP 0 rfl rfl 0 (by decide) (hts (.fieldLink RX1 54 "PortRulesModel" "code" "I") (by decide +kernel)) (fun _ h9 => h9) rfl dM_thrown_1 ?_
  exact rd_iret hx hb hr (rfl) dM_thrown_4 hlocks
set_option maxHeartbeats 4000000 in
set_option maxRecDepth 100000 in
theorem cm_isBroken (l : Launch) (G : va_G) (cA : Nat → ClassId) (a : Nat → Nat) (V : MV) (r0 p0 q0 : Nat) (hr0 : r0 ≤ 9) (hp : p0 ≤ 60) (hq : q0 ≤ 60) (hdv : 0 ≤ (mf V 7 p0).toInt → 0 ≤ (mf V 7 q0).toInt → ¬ mg V 9 p0 * mg V 8 q0 = 0) : Met l yM_isBroken wsM_isBroken { frames := 1, cells := 0, slots := 0, locals := 23 } (rd_Pc G vwC2 (tT cA) (mW cA a V) [.ref (a 0), .int (nI r0), .int (nI p0), .int (nI q0)]) (k2_QcV (.int (z1 (mCB V r0 p0 q0)))) 0 0 (fun _ => False) := by
  refine Met.ofW (cc := cM_isBroken) (maxL := 5) (ret := some .boolean) (by decide) rfl ?_
  intro p e s m args below meth c s₁ B hml hv
  obtain ⟨rfl, hP, hK⟩ := hv
  have hx := B.exec
  have hb := B.bytes
  have hr := B.returns
  have hts := atoms_spec (ws := wsM_isBroken) B.pre
  have hown : s.vm.findClass RX1 = some m.cls := findClass_of_methodNamed B.named
  have hlocks := B.notSynchronized
  have hfi : ∀ w ∈ u_ws RX1 TM 18, w ∈ wsM_isBroken := fun w h => List.mem_cons_of_mem _ (wMA_f w h)
  have hl := lv_entry ([.ref (a 0), .int (nI r0), .int (nI p0), .int (nI q0)]) (n := 5) (Nat.le_of_ble_eq_true rfl)
  rw [lg_entry_eq]
  generalize (lg_sl ([.ref (a 0), .int (nI r0), .int (nI p0), .int (nI q0)]) ++ List.replicate (5 - (lg_sl ([.ref (a 0), .int (nI r0), .int (nI p0), .int (nI q0)])).length) Slot.unset).toArray = ls at hl ⊢
  have hl : lv_has ls 5 [(0, .ref (a 0)), (1, .int (nI r0)), (2, .int (nI p0)), (3, .int (nI q0))] := hl
  refine lv_aload_n hx hb dM_isBroken_0 rfl (lv_at hl 0 rfl) ?_
  refine va_get (D := G) (ci := 1) (v := .ref (a 7)) (C := RX1) (T := TM) (N := 18) hx hb hts hfi hown hK hP 0 rfl rfl 7 (by decide) (hts (.fieldLink RX1 23 "PortRulesModel" "unit" "[I") (by decide +kernel)) (fun _ h9 => h9) rfl dM_isBroken_1 ?_
  refine lv_iload_n hx hb dM_isBroken_4 rfl (lv_at hl 2 rfl) ?_
  refine rd_iald hx hb hK hP 5 0 rfl rfl (by omega) (by decide) dM_isBroken_5 ?_
  refine bz_lt (a := (mf V 7 p0).toInt) (tgt := 22) hx hb dM_isBroken_6 (by decide) rfl (fun c6 => ?_) (fun c6 => ?_)
  · refine lv_iconst (v := 0) hx hb dM_isBroken_22 (by decide) ?_
    refine lv_istore (lv' := [(4, .int 0), (0, .ref (a 0)), (1, .int (nI r0)), (2, .int (nI p0)), (3, .int (nI q0))]) hx hb dM_isBroken_23 hl (by decide) rfl (fun ls hl => ?_)
    refine lv_iload_n hx hb dM_isBroken_25 rfl (lv_at hl 2 rfl) ?_
    by_cases r1 : r0 = 1
    · subst r1
      refine lv_tableIn (off := 30) (tgt := 56) hx hb dM_isBroken_26 (by decide) (by decide) (by decide) (by decide) ?_
      refine lv_aload_n hx hb dM_isBroken_56 rfl (lv_at hl 1 rfl) ?_
      refine va_get (D := G) (ci := 1) (v := .ref (a 7)) (C := RX1) (T := TM) (N := 18) hx hb hts hfi hown hK hP 0 rfl rfl 7 (by decide) (hts (.fieldLink RX1 23 "PortRulesModel" "unit" "[I") (by decide +kernel)) (fun _ h9 => h9) rfl dM_isBroken_57 ?_
      refine lv_iload_n hx hb dM_isBroken_60 rfl (lv_at hl 3 rfl) ?_
      refine rd_iald hx hb hK hP 5 0 rfl rfl (by omega) (by decide) dM_isBroken_61 ?_
      refine bz_lt (a := (mf V 7 p0).toInt) (tgt := 69) hx hb dM_isBroken_62 (by decide) rfl (fun c62 => ?_) (fun c62 => ?_)
      · refine lv_iconst (v := 0) hx hb dM_isBroken_69 (by decide) ?_
        refine lv_aload_n hx hb dM_isBroken_70 rfl (lv_at hl 1 rfl) ?_
        refine va_get (D := G) (ci := 1) (v := .ref (a 7)) (C := RX1) (T := TM) (N := 18) hx hb hts hfi hown hK hP 0 rfl rfl 7 (by decide) (hts (.fieldLink RX1 23 "PortRulesModel" "unit" "[I") (by decide +kernel)) (fun _ h9 => h9) rfl dM_isBroken_71 ?_
        refine lv_iload_n hx hb dM_isBroken_74 rfl (lv_at hl 4 rfl) ?_
        refine rd_iald hx hb hK hP 5 0 rfl rfl (by omega) (by decide) dM_isBroken_75 ?_
        refine bz_lt (a := (mf V 7 q0).toInt) (tgt := 83) hx hb dM_isBroken_76 (by decide) rfl (fun c76 => ?_) (fun c76 => ?_)
        · refine lv_iconst (v := 0) hx hb dM_isBroken_83 (by decide) ?_
          refine lv_icmp_eq (tgt := 91) hx hb dM_isBroken_84 (by decide) (fun _ => ?_) (fun c84 => absurd c84 (by decide))
          refine lv_iconst (v := 0) hx hb dM_isBroken_91 (by decide) ?_
          exact rd_zret hx hb hr rfl (z1_f (by first | omega | (unfold mCB mBo lrm; simp [c6, c62, c76] <;> omega))) dM_isBroken_92 hlocks
        · refine lv_iconst (v := 1) hx hb dM_isBroken_79 (by decide) ?_
          refine lv_goto (tgt := 84) hx hb dM_isBroken_80 (by decide) ?_
          refine lv_icmp_eq (tgt := 91) hx hb dM_isBroken_84 (by decide) (fun c84 => absurd c84 (by decide)) (fun _ => ?_)
          refine lv_iconst (v := 1) hx hb dM_isBroken_87 (by decide) ?_
          refine lv_goto (tgt := 92) hx hb dM_isBroken_88 (by decide) ?_
          exact rd_zret hx hb hr rfl (z1_t (by first | omega | (unfold mCB mBo lrm; simp [c6, c62, c76] <;> omega))) dM_isBroken_92 hlocks
      · refine lv_iconst (v := 1) hx hb dM_isBroken_65 (by decide) ?_
        refine lv_goto (tgt := 70) hx hb dM_isBroken_66 (by decide) ?_
        refine lv_aload_n hx hb dM_isBroken_70 rfl (lv_at hl 1 rfl) ?_
        refine va_get (D := G) (ci := 1) (v := .ref (a 7)) (C := RX1) (T := TM) (N := 18) hx hb hts hfi hown hK hP 0 rfl rfl 7 (by decide) (hts (.fieldLink RX1 23 "PortRulesModel" "unit" "[I") (by decide +kernel)) (fun _ h9 => h9) rfl dM_isBroken_71 ?_
        refine lv_iload_n hx hb dM_isBroken_74 rfl (lv_at hl 4 rfl) ?_
        refine rd_iald hx hb hK hP 5 0 rfl rfl (by omega) (by decide) dM_isBroken_75 ?_
        refine bz_lt (a := (mf V 7 q0).toInt) (tgt := 83) hx hb dM_isBroken_76 (by decide) rfl (fun c76 => ?_) (fun c76 => ?_)
        · refine lv_iconst (v := 0) hx hb dM_isBroken_83 (by decide) ?_
          refine lv_icmp_eq (tgt := 91) hx hb dM_isBroken_84 (by decide) (fun c84 => absurd c84 (by decide)) (fun _ => ?_)
          refine lv_iconst (v := 1) hx hb dM_isBroken_87 (by decide) ?_
          refine lv_goto (tgt := 92) hx hb dM_isBroken_88 (by decide) ?_
          exact rd_zret hx hb hr rfl (z1_t (by first | omega | (unfold mCB mBo lrm; simp [c6, c62, c76] <;> omega))) dM_isBroken_92 hlocks
        · refine lv_iconst (v := 1) hx hb dM_isBroken_79 (by decide) ?_
          refine lv_goto (tgt := 84) hx hb dM_isBroken_80 (by decide) ?_
          refine lv_icmp_eq (tgt := 91) hx hb dM_isBroken_84 (by decide) (fun _ => ?_) (fun c84 => absurd c84 (by decide))
          refine lv_iconst (v := 0) hx hb dM_isBroken_91 (by decide) ?_
          exact rd_zret hx hb hr rfl (z1_f (by first | omega | (unfold mCB mBo lrm; simp [c6, c62, c76] <;> omega))) dM_isBroken_92 hlocks
    · skip
      by_cases r2 : r0 = 2
      · subst r2
        refine lv_tableIn (off := 67) (tgt := 93) hx hb dM_isBroken_26 (by decide) (by decide) (by decide) (by decide) ?_
        refine lv_iload hx hb dM_isBroken_93 (lv_at hl 0 rfl) ?_
        refine lv_if_eq (tgt := 117) hx hb dM_isBroken_95 (by decide) (fun _ => ?_) (fun c95 => absurd c95 (by decide))
        refine lv_iconst (v := 0) hx hb dM_isBroken_117 (by decide) ?_
        exact rd_zret hx hb hr rfl (z1_f (by first | omega | (unfold mCB mBo lrm; simp [c6] <;> omega))) dM_isBroken_118 hlocks
      · skip
        by_cases r3 : r0 = 3
        · subst r3
          refine lv_tableIn (off := 93) (tgt := 119) hx hb dM_isBroken_26 (by decide) (by decide) (by decide) (by decide) ?_
          refine lv_iload hx hb dM_isBroken_119 (lv_at hl 0 rfl) ?_
          refine lv_if_eq (tgt := 160) hx hb dM_isBroken_121 (by decide) (fun _ => ?_) (fun c121 => absurd c121 (by decide))
          refine lv_iconst (v := 0) hx hb dM_isBroken_160 (by decide) ?_
          exact rd_zret hx hb hr rfl (z1_f (by first | omega | (unfold mCB mBo lrm; simp [c6] <;> omega))) dM_isBroken_161 hlocks
        · skip
          by_cases r4 : r0 = 4
          · subst r4
            refine lv_tableIn (off := 136) (tgt := 162) hx hb dM_isBroken_26 (by decide) (by decide) (by decide) (by decide) ?_
            refine lv_aload_n hx hb dM_isBroken_162 rfl (lv_at hl 1 rfl) ?_
            refine va_get (D := G) (ci := 1) (v := .ref (a 10)) (C := RX1) (T := TM) (N := 18) hx hb hts hfi hown hK hP 0 rfl rfl 10 (by decide) (hts (.fieldLink RX1 33 "PortRulesModel" "version" "[I") (by decide +kernel)) (fun _ h9 => h9) rfl dM_isBroken_163 ?_
            refine lv_iload_n hx hb dM_isBroken_166 rfl (lv_at hl 4 rfl) ?_
            refine rd_iald hx hb hK hP 8 0 rfl rfl (by omega) (by decide) dM_isBroken_167 ?_
            refine bz_lt (a := (mf V 10 q0).toInt) (tgt := 211) hx hb dM_isBroken_168 (by decide) rfl (fun c168 => ?_) (fun c168 => ?_)
            · refine lv_iconst (v := 0) hx hb dM_isBroken_211 (by decide) ?_
              exact rd_zret hx hb hr rfl (z1_f (by first | omega | (unfold mCB mBo lrm; simp [c168, c6] <;> omega))) dM_isBroken_212 hlocks
            · refine lv_aload_n hx hb dM_isBroken_171 rfl (lv_at hl 1 rfl) ?_
              refine va_get (D := G) (ci := 1) (v := .ref (a 10)) (C := RX1) (T := TM) (N := 18) hx hb hts hfi hown hK hP 0 rfl rfl 10 (by decide) (hts (.fieldLink RX1 33 "PortRulesModel" "version" "[I") (by decide +kernel)) (fun _ h9 => h9) rfl dM_isBroken_172 ?_
              refine lv_iload_n hx hb dM_isBroken_175 rfl (lv_at hl 3 rfl) ?_
              refine rd_iald hx hb hK hP 8 0 rfl rfl (by omega) (by decide) dM_isBroken_176 ?_
              refine lv_aload_n hx hb dM_isBroken_177 rfl (lv_at hl 1 rfl) ?_
              refine va_get (D := G) (ci := 1) (v := .ref (a 10)) (C := RX1) (T := TM) (N := 18) hx hb hts hfi hown hK hP 0 rfl rfl 10 (by decide) (hts (.fieldLink RX1 33 "PortRulesModel" "version" "[I") (by decide +kernel)) (fun _ h9 => h9) rfl dM_isBroken_178 ?_
              refine lv_iload_n hx hb dM_isBroken_181 rfl (lv_at hl 4 rfl) ?_
              refine rd_iald hx hb hK hP 8 0 rfl rfl (by omega) (by decide) dM_isBroken_182 ?_
              refine bi_lt (a := (mf V 10 p0).toInt) (b := (mf V 10 q0).toInt) (tgt := 207) hx hb dM_isBroken_183 (by decide) rfl rfl (fun c183 => ?_) (fun c183 => ?_)
              · refine lv_iconst (v := 1) hx hb dM_isBroken_207 (by decide) ?_
                refine lv_goto (tgt := 212) hx hb dM_isBroken_208 (by decide) ?_
                exact rd_zret hx hb hr rfl (z1_t (by first | omega | (unfold mCB mBo lrm; simp [c168, c183, c6] <;> omega))) dM_isBroken_212 hlocks
              · refine lv_aload_n hx hb dM_isBroken_186 rfl (lv_at hl 1 rfl) ?_
                refine va_get (D := G) (ci := 1) (v := .ref (a 10)) (C := RX1) (T := TM) (N := 18) hx hb hts hfi hown hK hP 0 rfl rfl 10 (by decide) (hts (.fieldLink RX1 33 "PortRulesModel" "version" "[I") (by decide +kernel)) (fun _ h9 => h9) rfl dM_isBroken_187 ?_
                refine lv_iload_n hx hb dM_isBroken_190 rfl (lv_at hl 3 rfl) ?_
                refine rd_iald hx hb hK hP 8 0 rfl rfl (by omega) (by decide) dM_isBroken_191 ?_
                refine lv_bipush (v := 100) hx hb dM_isBroken_192 (by decide) ?_
                refine lv_idiv hx hb dM_isBroken_194 (by decide) ?_
                refine lv_aload_n hx hb dM_isBroken_195 rfl (lv_at hl 1 rfl) ?_
                refine va_get (D := G) (ci := 1) (v := .ref (a 10)) (C := RX1) (T := TM) (N := 18) hx hb hts hfi hown hK hP 0 rfl rfl 10 (by decide) (hts (.fieldLink RX1 33 "PortRulesModel" "version" "[I") (by decide +kernel)) (fun _ h9 => h9) rfl dM_isBroken_196 ?_
                refine lv_iload_n hx hb dM_isBroken_199 rfl (lv_at hl 4 rfl) ?_
                refine rd_iald hx hb hK hP 8 0 rfl rfl (by omega) (by decide) dM_isBroken_200 ?_
                refine lv_bipush (v := 100) hx hb dM_isBroken_201 (by decide) ?_
                refine lv_idiv hx hb dM_isBroken_203 (by decide) ?_
                refine lv_icmp_eq (tgt := 211) hx hb dM_isBroken_204 (by decide) (fun c204 => ?_) (fun c204 => ?_)
                · refine lv_iconst (v := 0) hx hb dM_isBroken_211 (by decide) ?_
                  exact rd_zret hx hb hr rfl (z1_f (by first | omega | (unfold mCB mBo lrm; simp [c168, c183, c204, c6] <;> omega))) dM_isBroken_212 hlocks
                · refine lv_iconst (v := 1) hx hb dM_isBroken_207 (by decide) ?_
                  refine lv_goto (tgt := 212) hx hb dM_isBroken_208 (by decide) ?_
                  exact rd_zret hx hb hr rfl (z1_t (by first | omega | (unfold mCB mBo lrm; simp [c168, c183, c204, c6] <;> omega))) dM_isBroken_212 hlocks
          · skip
            refine lv_tableOut (tgt := 213) hx hb dM_isBroken_26 (by rw [nI_toInt (by omega)]; omega) (by decide) ?_
            refine lv_aload_n hx hb dM_isBroken_213 rfl (lv_at hl 1 rfl) ?_
            refine va_get (D := G) (ci := 1) (v := .ref (a 5)) (C := RX1) (T := TM) (N := 18) hx hb hts hfi hown hK hP 0 rfl rfl 5 (by decide) (hts (.fieldLink RX1 16 "PortRulesModel" "kindOf" "[I") (by decide +kernel)) (fun _ h9 => h9) rfl dM_isBroken_214 ?_
            refine lv_iload_n hx hb dM_isBroken_217 rfl (lv_at hl 3 rfl) ?_
            refine rd_iald hx hb hK hP 3 0 rfl rfl (by omega) (by decide) dM_isBroken_218 ?_
            refine lv_iconst (v := 3) hx hb dM_isBroken_219 (by decide) ?_
            refine lv_icmp_ne (tgt := 240) hx hb dM_isBroken_220 (by decide) (fun c220 => ?_) (fun c220 => ?_)
            · refine lv_iconst (v := 0) hx hb dM_isBroken_240 (by decide) ?_
              exact rd_zret hx hb hr rfl (z1_f (by first | omega | (unfold mCB mBo lrm; simp [c220, c6, r1, r2, r3, r4] <;> omega))) dM_isBroken_241 hlocks
            · refine lv_aload_n hx hb dM_isBroken_223 rfl (lv_at hl 1 rfl) ?_
              refine lv_aload_n hx hb dM_isBroken_224 rfl (lv_at hl 1 rfl) ?_
              refine va_get (D := G) (ci := 1) (v := .ref (a 4)) (C := RX1) (T := TM) (N := 18) hx hb hts hfi hown hK hP 0 rfl rfl 4 (by decide) (hts (.fieldLink RX1 13 "PortRulesModel" "partOf" "[I") (by decide +kernel)) (fun _ h9 => h9) rfl dM_isBroken_225 ?_
              refine lv_iload_n hx hb dM_isBroken_228 rfl (lv_at hl 3 rfl) ?_
              refine rd_iald hx hb hK hP 2 0 rfl rfl (by omega) (by decide) dM_isBroken_229 ?_
              refine rd_callV (As := [.int (mf V 4 p0)]) (rest := []) (b := a 0) (q0 := 0) (ci := 1) ⟨hx, hb, hml, hown, hts⟩ (cm_isManaging l G cA a V (mf V 4 p0)) (cwV 1 hts gM_isBroken_M_isManaging rfl rfl rfl (by decide +kernel) ⟨Nat.le_of_ble_eq_true rfl, Nat.le_of_ble_eq_true rfl⟩) hK hP rfl rfl rfl rfl hl.1 rfl (Nat.le_of_ble_eq_true rfl) dM_isBroken_230 ⟨Nat.zero_le _, Nat.zero_le _⟩ ?_
              refine bb_ne (tgt := 240) hx hb dM_isBroken_233 (by decide) (fun c233 => ?_) (fun c233 => ?_)
              · refine lv_iconst (v := 0) hx hb dM_isBroken_240 (by decide) ?_
                exact rd_zret hx hb hr rfl (z1_f (by first | omega | (unfold mCB mBo lrm; simp [c220, c233, c6, r1, r2, r3, r4] <;> omega))) dM_isBroken_241 hlocks
              · refine lv_iconst (v := 1) hx hb dM_isBroken_236 (by decide) ?_
                refine lv_goto (tgt := 241) hx hb dM_isBroken_237 (by decide) ?_
                exact rd_zret hx hb hr rfl (z1_t (by first | omega | (unfold mCB mBo lrm; simp [c220, c233, c6, r1, r2, r3, r4] <;> omega))) dM_isBroken_241 hlocks
  · refine lv_aload_n hx hb dM_isBroken_9 rfl (lv_at hl 0 rfl) ?_
    refine va_get (D := G) (ci := 1) (v := .ref (a 7)) (C := RX1) (T := TM) (N := 18) hx hb hts hfi hown hK hP 0 rfl rfl 7 (by decide) (hts (.fieldLink RX1 23 "PortRulesModel" "unit" "[I") (by decide +kernel)) (fun _ h9 => h9) rfl dM_isBroken_10 ?_
    refine lv_iload_n hx hb dM_isBroken_13 rfl (lv_at hl 3 rfl) ?_
    refine rd_iald hx hb hK hP 5 0 rfl rfl (by omega) (by decide) dM_isBroken_14 ?_
    refine bz_lt (a := (mf V 7 q0).toInt) (tgt := 22) hx hb dM_isBroken_15 (by decide) rfl (fun c15 => ?_) (fun c15 => ?_)
    · refine lv_iconst (v := 0) hx hb dM_isBroken_22 (by decide) ?_
      refine lv_istore (lv' := [(4, .int 0), (0, .ref (a 0)), (1, .int (nI r0)), (2, .int (nI p0)), (3, .int (nI q0))]) hx hb dM_isBroken_23 hl (by decide) rfl (fun ls hl => ?_)
      refine lv_iload_n hx hb dM_isBroken_25 rfl (lv_at hl 2 rfl) ?_
      by_cases r1 : r0 = 1
      · subst r1
        refine lv_tableIn (off := 30) (tgt := 56) hx hb dM_isBroken_26 (by decide) (by decide) (by decide) (by decide) ?_
        refine lv_aload_n hx hb dM_isBroken_56 rfl (lv_at hl 1 rfl) ?_
        refine va_get (D := G) (ci := 1) (v := .ref (a 7)) (C := RX1) (T := TM) (N := 18) hx hb hts hfi hown hK hP 0 rfl rfl 7 (by decide) (hts (.fieldLink RX1 23 "PortRulesModel" "unit" "[I") (by decide +kernel)) (fun _ h9 => h9) rfl dM_isBroken_57 ?_
        refine lv_iload_n hx hb dM_isBroken_60 rfl (lv_at hl 3 rfl) ?_
        refine rd_iald hx hb hK hP 5 0 rfl rfl (by omega) (by decide) dM_isBroken_61 ?_
        refine bz_lt (a := (mf V 7 p0).toInt) (tgt := 69) hx hb dM_isBroken_62 (by decide) rfl (fun c62 => ?_) (fun c62 => ?_)
        · refine lv_iconst (v := 0) hx hb dM_isBroken_69 (by decide) ?_
          refine lv_aload_n hx hb dM_isBroken_70 rfl (lv_at hl 1 rfl) ?_
          refine va_get (D := G) (ci := 1) (v := .ref (a 7)) (C := RX1) (T := TM) (N := 18) hx hb hts hfi hown hK hP 0 rfl rfl 7 (by decide) (hts (.fieldLink RX1 23 "PortRulesModel" "unit" "[I") (by decide +kernel)) (fun _ h9 => h9) rfl dM_isBroken_71 ?_
          refine lv_iload_n hx hb dM_isBroken_74 rfl (lv_at hl 4 rfl) ?_
          refine rd_iald hx hb hK hP 5 0 rfl rfl (by omega) (by decide) dM_isBroken_75 ?_
          refine bz_lt (a := (mf V 7 q0).toInt) (tgt := 83) hx hb dM_isBroken_76 (by decide) rfl (fun c76 => ?_) (fun c76 => ?_)
          · refine lv_iconst (v := 0) hx hb dM_isBroken_83 (by decide) ?_
            refine lv_icmp_eq (tgt := 91) hx hb dM_isBroken_84 (by decide) (fun _ => ?_) (fun c84 => absurd c84 (by decide))
            refine lv_iconst (v := 0) hx hb dM_isBroken_91 (by decide) ?_
            exact rd_zret hx hb hr rfl (z1_f (by first | omega | (unfold mCB mBo lrm; simp [c15, c6, c62, c76] <;> omega))) dM_isBroken_92 hlocks
          · refine lv_iconst (v := 1) hx hb dM_isBroken_79 (by decide) ?_
            refine lv_goto (tgt := 84) hx hb dM_isBroken_80 (by decide) ?_
            refine lv_icmp_eq (tgt := 91) hx hb dM_isBroken_84 (by decide) (fun c84 => absurd c84 (by decide)) (fun _ => ?_)
            refine lv_iconst (v := 1) hx hb dM_isBroken_87 (by decide) ?_
            refine lv_goto (tgt := 92) hx hb dM_isBroken_88 (by decide) ?_
            exact rd_zret hx hb hr rfl (z1_t (by first | omega | (unfold mCB mBo lrm; simp [c15, c6, c62, c76] <;> omega))) dM_isBroken_92 hlocks
        · refine lv_iconst (v := 1) hx hb dM_isBroken_65 (by decide) ?_
          refine lv_goto (tgt := 70) hx hb dM_isBroken_66 (by decide) ?_
          refine lv_aload_n hx hb dM_isBroken_70 rfl (lv_at hl 1 rfl) ?_
          refine va_get (D := G) (ci := 1) (v := .ref (a 7)) (C := RX1) (T := TM) (N := 18) hx hb hts hfi hown hK hP 0 rfl rfl 7 (by decide) (hts (.fieldLink RX1 23 "PortRulesModel" "unit" "[I") (by decide +kernel)) (fun _ h9 => h9) rfl dM_isBroken_71 ?_
          refine lv_iload_n hx hb dM_isBroken_74 rfl (lv_at hl 4 rfl) ?_
          refine rd_iald hx hb hK hP 5 0 rfl rfl (by omega) (by decide) dM_isBroken_75 ?_
          refine bz_lt (a := (mf V 7 q0).toInt) (tgt := 83) hx hb dM_isBroken_76 (by decide) rfl (fun c76 => ?_) (fun c76 => ?_)
          · refine lv_iconst (v := 0) hx hb dM_isBroken_83 (by decide) ?_
            refine lv_icmp_eq (tgt := 91) hx hb dM_isBroken_84 (by decide) (fun c84 => absurd c84 (by decide)) (fun _ => ?_)
            refine lv_iconst (v := 1) hx hb dM_isBroken_87 (by decide) ?_
            refine lv_goto (tgt := 92) hx hb dM_isBroken_88 (by decide) ?_
            exact rd_zret hx hb hr rfl (z1_t (by first | omega | (unfold mCB mBo lrm; simp [c15, c6, c62, c76] <;> omega))) dM_isBroken_92 hlocks
          · refine lv_iconst (v := 1) hx hb dM_isBroken_79 (by decide) ?_
            refine lv_goto (tgt := 84) hx hb dM_isBroken_80 (by decide) ?_
            refine lv_icmp_eq (tgt := 91) hx hb dM_isBroken_84 (by decide) (fun _ => ?_) (fun c84 => absurd c84 (by decide))
            refine lv_iconst (v := 0) hx hb dM_isBroken_91 (by decide) ?_
            exact rd_zret hx hb hr rfl (z1_f (by first | omega | (unfold mCB mBo lrm; simp [c15, c6, c62, c76] <;> omega))) dM_isBroken_92 hlocks
      · skip
        by_cases r2 : r0 = 2
        · subst r2
          refine lv_tableIn (off := 67) (tgt := 93) hx hb dM_isBroken_26 (by decide) (by decide) (by decide) (by decide) ?_
          refine lv_iload hx hb dM_isBroken_93 (lv_at hl 0 rfl) ?_
          refine lv_if_eq (tgt := 117) hx hb dM_isBroken_95 (by decide) (fun _ => ?_) (fun c95 => absurd c95 (by decide))
          refine lv_iconst (v := 0) hx hb dM_isBroken_117 (by decide) ?_
          exact rd_zret hx hb hr rfl (z1_f (by first | omega | (unfold mCB mBo lrm; simp [c15, c6] <;> omega))) dM_isBroken_118 hlocks
        · skip
          by_cases r3 : r0 = 3
          · subst r3
            refine lv_tableIn (off := 93) (tgt := 119) hx hb dM_isBroken_26 (by decide) (by decide) (by decide) (by decide) ?_
            refine lv_iload hx hb dM_isBroken_119 (lv_at hl 0 rfl) ?_
            refine lv_if_eq (tgt := 160) hx hb dM_isBroken_121 (by decide) (fun _ => ?_) (fun c121 => absurd c121 (by decide))
            refine lv_iconst (v := 0) hx hb dM_isBroken_160 (by decide) ?_
            exact rd_zret hx hb hr rfl (z1_f (by first | omega | (unfold mCB mBo lrm; simp [c15, c6] <;> omega))) dM_isBroken_161 hlocks
          · skip
            by_cases r4 : r0 = 4
            · subst r4
              refine lv_tableIn (off := 136) (tgt := 162) hx hb dM_isBroken_26 (by decide) (by decide) (by decide) (by decide) ?_
              refine lv_aload_n hx hb dM_isBroken_162 rfl (lv_at hl 1 rfl) ?_
              refine va_get (D := G) (ci := 1) (v := .ref (a 10)) (C := RX1) (T := TM) (N := 18) hx hb hts hfi hown hK hP 0 rfl rfl 10 (by decide) (hts (.fieldLink RX1 33 "PortRulesModel" "version" "[I") (by decide +kernel)) (fun _ h9 => h9) rfl dM_isBroken_163 ?_
              refine lv_iload_n hx hb dM_isBroken_166 rfl (lv_at hl 4 rfl) ?_
              refine rd_iald hx hb hK hP 8 0 rfl rfl (by omega) (by decide) dM_isBroken_167 ?_
              refine bz_lt (a := (mf V 10 q0).toInt) (tgt := 211) hx hb dM_isBroken_168 (by decide) rfl (fun c168 => ?_) (fun c168 => ?_)
              · refine lv_iconst (v := 0) hx hb dM_isBroken_211 (by decide) ?_
                exact rd_zret hx hb hr rfl (z1_f (by first | omega | (unfold mCB mBo lrm; simp [c15, c168, c6] <;> omega))) dM_isBroken_212 hlocks
              · refine lv_aload_n hx hb dM_isBroken_171 rfl (lv_at hl 1 rfl) ?_
                refine va_get (D := G) (ci := 1) (v := .ref (a 10)) (C := RX1) (T := TM) (N := 18) hx hb hts hfi hown hK hP 0 rfl rfl 10 (by decide) (hts (.fieldLink RX1 33 "PortRulesModel" "version" "[I") (by decide +kernel)) (fun _ h9 => h9) rfl dM_isBroken_172 ?_
                refine lv_iload_n hx hb dM_isBroken_175 rfl (lv_at hl 3 rfl) ?_
                refine rd_iald hx hb hK hP 8 0 rfl rfl (by omega) (by decide) dM_isBroken_176 ?_
                refine lv_aload_n hx hb dM_isBroken_177 rfl (lv_at hl 1 rfl) ?_
                refine va_get (D := G) (ci := 1) (v := .ref (a 10)) (C := RX1) (T := TM) (N := 18) hx hb hts hfi hown hK hP 0 rfl rfl 10 (by decide) (hts (.fieldLink RX1 33 "PortRulesModel" "version" "[I") (by decide +kernel)) (fun _ h9 => h9) rfl dM_isBroken_178 ?_
                refine lv_iload_n hx hb dM_isBroken_181 rfl (lv_at hl 4 rfl) ?_
                refine rd_iald hx hb hK hP 8 0 rfl rfl (by omega) (by decide) dM_isBroken_182 ?_
                refine bi_lt (a := (mf V 10 p0).toInt) (b := (mf V 10 q0).toInt) (tgt := 207) hx hb dM_isBroken_183 (by decide) rfl rfl (fun c183 => ?_) (fun c183 => ?_)
                · refine lv_iconst (v := 1) hx hb dM_isBroken_207 (by decide) ?_
                  refine lv_goto (tgt := 212) hx hb dM_isBroken_208 (by decide) ?_
                  exact rd_zret hx hb hr rfl (z1_t (by first | omega | (unfold mCB mBo lrm; simp [c15, c168, c183, c6] <;> omega))) dM_isBroken_212 hlocks
                · refine lv_aload_n hx hb dM_isBroken_186 rfl (lv_at hl 1 rfl) ?_
                  refine va_get (D := G) (ci := 1) (v := .ref (a 10)) (C := RX1) (T := TM) (N := 18) hx hb hts hfi hown hK hP 0 rfl rfl 10 (by decide) (hts (.fieldLink RX1 33 "PortRulesModel" "version" "[I") (by decide +kernel)) (fun _ h9 => h9) rfl dM_isBroken_187 ?_
                  refine lv_iload_n hx hb dM_isBroken_190 rfl (lv_at hl 3 rfl) ?_
                  refine rd_iald hx hb hK hP 8 0 rfl rfl (by omega) (by decide) dM_isBroken_191 ?_
                  refine lv_bipush (v := 100) hx hb dM_isBroken_192 (by decide) ?_
                  refine lv_idiv hx hb dM_isBroken_194 (by decide) ?_
                  refine lv_aload_n hx hb dM_isBroken_195 rfl (lv_at hl 1 rfl) ?_
                  refine va_get (D := G) (ci := 1) (v := .ref (a 10)) (C := RX1) (T := TM) (N := 18) hx hb hts hfi hown hK hP 0 rfl rfl 10 (by decide) (hts (.fieldLink RX1 33 "PortRulesModel" "version" "[I") (by decide +kernel)) (fun _ h9 => h9) rfl dM_isBroken_196 ?_
                  refine lv_iload_n hx hb dM_isBroken_199 rfl (lv_at hl 4 rfl) ?_
                  refine rd_iald hx hb hK hP 8 0 rfl rfl (by omega) (by decide) dM_isBroken_200 ?_
                  refine lv_bipush (v := 100) hx hb dM_isBroken_201 (by decide) ?_
                  refine lv_idiv hx hb dM_isBroken_203 (by decide) ?_
                  refine lv_icmp_eq (tgt := 211) hx hb dM_isBroken_204 (by decide) (fun c204 => ?_) (fun c204 => ?_)
                  · refine lv_iconst (v := 0) hx hb dM_isBroken_211 (by decide) ?_
                    exact rd_zret hx hb hr rfl (z1_f (by first | omega | (unfold mCB mBo lrm; simp [c15, c168, c183, c204, c6] <;> omega))) dM_isBroken_212 hlocks
                  · refine lv_iconst (v := 1) hx hb dM_isBroken_207 (by decide) ?_
                    refine lv_goto (tgt := 212) hx hb dM_isBroken_208 (by decide) ?_
                    exact rd_zret hx hb hr rfl (z1_t (by first | omega | (unfold mCB mBo lrm; simp [c15, c168, c183, c204, c6] <;> omega))) dM_isBroken_212 hlocks
            · skip
              refine lv_tableOut (tgt := 213) hx hb dM_isBroken_26 (by rw [nI_toInt (by omega)]; omega) (by decide) ?_
              refine lv_aload_n hx hb dM_isBroken_213 rfl (lv_at hl 1 rfl) ?_
              refine va_get (D := G) (ci := 1) (v := .ref (a 5)) (C := RX1) (T := TM) (N := 18) hx hb hts hfi hown hK hP 0 rfl rfl 5 (by decide) (hts (.fieldLink RX1 16 "PortRulesModel" "kindOf" "[I") (by decide +kernel)) (fun _ h9 => h9) rfl dM_isBroken_214 ?_
              refine lv_iload_n hx hb dM_isBroken_217 rfl (lv_at hl 3 rfl) ?_
              refine rd_iald hx hb hK hP 3 0 rfl rfl (by omega) (by decide) dM_isBroken_218 ?_
              refine lv_iconst (v := 3) hx hb dM_isBroken_219 (by decide) ?_
              refine lv_icmp_ne (tgt := 240) hx hb dM_isBroken_220 (by decide) (fun c220 => ?_) (fun c220 => ?_)
              · refine lv_iconst (v := 0) hx hb dM_isBroken_240 (by decide) ?_
                exact rd_zret hx hb hr rfl (z1_f (by first | omega | (unfold mCB mBo lrm; simp [c15, c220, c6, r1, r2, r3, r4] <;> omega))) dM_isBroken_241 hlocks
              · refine lv_aload_n hx hb dM_isBroken_223 rfl (lv_at hl 1 rfl) ?_
                refine lv_aload_n hx hb dM_isBroken_224 rfl (lv_at hl 1 rfl) ?_
                refine va_get (D := G) (ci := 1) (v := .ref (a 4)) (C := RX1) (T := TM) (N := 18) hx hb hts hfi hown hK hP 0 rfl rfl 4 (by decide) (hts (.fieldLink RX1 13 "PortRulesModel" "partOf" "[I") (by decide +kernel)) (fun _ h9 => h9) rfl dM_isBroken_225 ?_
                refine lv_iload_n hx hb dM_isBroken_228 rfl (lv_at hl 3 rfl) ?_
                refine rd_iald hx hb hK hP 2 0 rfl rfl (by omega) (by decide) dM_isBroken_229 ?_
                refine rd_callV (As := [.int (mf V 4 p0)]) (rest := []) (b := a 0) (q0 := 0) (ci := 1) ⟨hx, hb, hml, hown, hts⟩ (cm_isManaging l G cA a V (mf V 4 p0)) (cwV 1 hts gM_isBroken_M_isManaging rfl rfl rfl (by decide +kernel) ⟨Nat.le_of_ble_eq_true rfl, Nat.le_of_ble_eq_true rfl⟩) hK hP rfl rfl rfl rfl hl.1 rfl (Nat.le_of_ble_eq_true rfl) dM_isBroken_230 ⟨Nat.zero_le _, Nat.zero_le _⟩ ?_
                refine bb_ne (tgt := 240) hx hb dM_isBroken_233 (by decide) (fun c233 => ?_) (fun c233 => ?_)
                · refine lv_iconst (v := 0) hx hb dM_isBroken_240 (by decide) ?_
                  exact rd_zret hx hb hr rfl (z1_f (by first | omega | (unfold mCB mBo lrm; simp [c15, c220, c233, c6, r1, r2, r3, r4] <;> omega))) dM_isBroken_241 hlocks
                · refine lv_iconst (v := 1) hx hb dM_isBroken_236 (by decide) ?_
                  refine lv_goto (tgt := 241) hx hb dM_isBroken_237 (by decide) ?_
                  exact rd_zret hx hb hr rfl (z1_t (by first | omega | (unfold mCB mBo lrm; simp [c15, c220, c233, c6, r1, r2, r3, r4] <;> omega))) dM_isBroken_241 hlocks
    · refine lv_iconst (v := 1) hx hb dM_isBroken_18 (by decide) ?_
      refine lv_goto (tgt := 23) hx hb dM_isBroken_19 (by decide) ?_
      refine lv_istore (lv' := [(4, .int 1), (0, .ref (a 0)), (1, .int (nI r0)), (2, .int (nI p0)), (3, .int (nI q0))]) hx hb dM_isBroken_23 hl (by decide) rfl (fun ls hl => ?_)
      refine lv_iload_n hx hb dM_isBroken_25 rfl (lv_at hl 2 rfl) ?_
      by_cases r1 : r0 = 1
      · subst r1
        refine lv_tableIn (off := 30) (tgt := 56) hx hb dM_isBroken_26 (by decide) (by decide) (by decide) (by decide) ?_
        refine lv_aload_n hx hb dM_isBroken_56 rfl (lv_at hl 1 rfl) ?_
        refine va_get (D := G) (ci := 1) (v := .ref (a 7)) (C := RX1) (T := TM) (N := 18) hx hb hts hfi hown hK hP 0 rfl rfl 7 (by decide) (hts (.fieldLink RX1 23 "PortRulesModel" "unit" "[I") (by decide +kernel)) (fun _ h9 => h9) rfl dM_isBroken_57 ?_
        refine lv_iload_n hx hb dM_isBroken_60 rfl (lv_at hl 3 rfl) ?_
        refine rd_iald hx hb hK hP 5 0 rfl rfl (by omega) (by decide) dM_isBroken_61 ?_
        refine bz_lt (a := (mf V 7 p0).toInt) (tgt := 69) hx hb dM_isBroken_62 (by decide) rfl (fun c62 => ?_) (fun c62 => ?_)
        · refine lv_iconst (v := 0) hx hb dM_isBroken_69 (by decide) ?_
          refine lv_aload_n hx hb dM_isBroken_70 rfl (lv_at hl 1 rfl) ?_
          refine va_get (D := G) (ci := 1) (v := .ref (a 7)) (C := RX1) (T := TM) (N := 18) hx hb hts hfi hown hK hP 0 rfl rfl 7 (by decide) (hts (.fieldLink RX1 23 "PortRulesModel" "unit" "[I") (by decide +kernel)) (fun _ h9 => h9) rfl dM_isBroken_71 ?_
          refine lv_iload_n hx hb dM_isBroken_74 rfl (lv_at hl 4 rfl) ?_
          refine rd_iald hx hb hK hP 5 0 rfl rfl (by omega) (by decide) dM_isBroken_75 ?_
          refine bz_lt (a := (mf V 7 q0).toInt) (tgt := 83) hx hb dM_isBroken_76 (by decide) rfl (fun c76 => ?_) (fun c76 => ?_)
          · refine lv_iconst (v := 0) hx hb dM_isBroken_83 (by decide) ?_
            refine lv_icmp_eq (tgt := 91) hx hb dM_isBroken_84 (by decide) (fun _ => ?_) (fun c84 => absurd c84 (by decide))
            refine lv_iconst (v := 0) hx hb dM_isBroken_91 (by decide) ?_
            exact rd_zret hx hb hr rfl (z1_f (by first | omega | (unfold mCB mBo lrm; simp [c15, c6, c62, c76] <;> omega))) dM_isBroken_92 hlocks
          · refine lv_iconst (v := 1) hx hb dM_isBroken_79 (by decide) ?_
            refine lv_goto (tgt := 84) hx hb dM_isBroken_80 (by decide) ?_
            refine lv_icmp_eq (tgt := 91) hx hb dM_isBroken_84 (by decide) (fun c84 => absurd c84 (by decide)) (fun _ => ?_)
            refine lv_iconst (v := 1) hx hb dM_isBroken_87 (by decide) ?_
            refine lv_goto (tgt := 92) hx hb dM_isBroken_88 (by decide) ?_
            exact rd_zret hx hb hr rfl (z1_t (by first | omega | (unfold mCB mBo lrm; simp [c15, c6, c62, c76] <;> omega))) dM_isBroken_92 hlocks
        · refine lv_iconst (v := 1) hx hb dM_isBroken_65 (by decide) ?_
          refine lv_goto (tgt := 70) hx hb dM_isBroken_66 (by decide) ?_
          refine lv_aload_n hx hb dM_isBroken_70 rfl (lv_at hl 1 rfl) ?_
          refine va_get (D := G) (ci := 1) (v := .ref (a 7)) (C := RX1) (T := TM) (N := 18) hx hb hts hfi hown hK hP 0 rfl rfl 7 (by decide) (hts (.fieldLink RX1 23 "PortRulesModel" "unit" "[I") (by decide +kernel)) (fun _ h9 => h9) rfl dM_isBroken_71 ?_
          refine lv_iload_n hx hb dM_isBroken_74 rfl (lv_at hl 4 rfl) ?_
          refine rd_iald hx hb hK hP 5 0 rfl rfl (by omega) (by decide) dM_isBroken_75 ?_
          refine bz_lt (a := (mf V 7 q0).toInt) (tgt := 83) hx hb dM_isBroken_76 (by decide) rfl (fun c76 => ?_) (fun c76 => ?_)
          · refine lv_iconst (v := 0) hx hb dM_isBroken_83 (by decide) ?_
            refine lv_icmp_eq (tgt := 91) hx hb dM_isBroken_84 (by decide) (fun c84 => absurd c84 (by decide)) (fun _ => ?_)
            refine lv_iconst (v := 1) hx hb dM_isBroken_87 (by decide) ?_
            refine lv_goto (tgt := 92) hx hb dM_isBroken_88 (by decide) ?_
            exact rd_zret hx hb hr rfl (z1_t (by first | omega | (unfold mCB mBo lrm; simp [c15, c6, c62, c76] <;> omega))) dM_isBroken_92 hlocks
          · refine lv_iconst (v := 1) hx hb dM_isBroken_79 (by decide) ?_
            refine lv_goto (tgt := 84) hx hb dM_isBroken_80 (by decide) ?_
            refine lv_icmp_eq (tgt := 91) hx hb dM_isBroken_84 (by decide) (fun _ => ?_) (fun c84 => absurd c84 (by decide))
            refine lv_iconst (v := 0) hx hb dM_isBroken_91 (by decide) ?_
            exact rd_zret hx hb hr rfl (z1_f (by first | omega | (unfold mCB mBo lrm; simp [c15, c6, c62, c76] <;> omega))) dM_isBroken_92 hlocks
      · skip
        by_cases r2 : r0 = 2
        · subst r2
          refine lv_tableIn (off := 67) (tgt := 93) hx hb dM_isBroken_26 (by decide) (by decide) (by decide) (by decide) ?_
          refine lv_iload hx hb dM_isBroken_93 (lv_at hl 0 rfl) ?_
          refine lv_if_eq (tgt := 117) hx hb dM_isBroken_95 (by decide) (fun c95 => absurd c95 (by decide)) (fun _ => ?_)
          refine lv_aload_n hx hb dM_isBroken_98 rfl (lv_at hl 1 rfl) ?_
          refine va_get (D := G) (ci := 1) (v := .ref (a 7)) (C := RX1) (T := TM) (N := 18) hx hb hts hfi hown hK hP 0 rfl rfl 7 (by decide) (hts (.fieldLink RX1 23 "PortRulesModel" "unit" "[I") (by decide +kernel)) (fun _ h9 => h9) rfl dM_isBroken_99 ?_
          refine lv_iload_n hx hb dM_isBroken_102 rfl (lv_at hl 3 rfl) ?_
          refine rd_iald hx hb hK hP 5 0 rfl rfl (by omega) (by decide) dM_isBroken_103 ?_
          refine lv_aload_n hx hb dM_isBroken_104 rfl (lv_at hl 1 rfl) ?_
          refine va_get (D := G) (ci := 1) (v := .ref (a 7)) (C := RX1) (T := TM) (N := 18) hx hb hts hfi hown hK hP 0 rfl rfl 7 (by decide) (hts (.fieldLink RX1 23 "PortRulesModel" "unit" "[I") (by decide +kernel)) (fun _ h9 => h9) rfl dM_isBroken_105 ?_
          refine lv_iload_n hx hb dM_isBroken_108 rfl (lv_at hl 4 rfl) ?_
          refine rd_iald hx hb hK hP 5 0 rfl rfl (by omega) (by decide) dM_isBroken_109 ?_
          refine lv_icmp_eq (tgt := 117) hx hb dM_isBroken_110 (by decide) (fun c110 => ?_) (fun c110 => ?_)
          · refine lv_iconst (v := 0) hx hb dM_isBroken_117 (by decide) ?_
            exact rd_zret hx hb hr rfl (z1_f (by first | omega | (unfold mCB mBo lrm; simp [c110, c15, c6] <;> omega))) dM_isBroken_118 hlocks
          · refine lv_iconst (v := 1) hx hb dM_isBroken_113 (by decide) ?_
            refine lv_goto (tgt := 118) hx hb dM_isBroken_114 (by decide) ?_
            exact rd_zret hx hb hr rfl (z1_t (by first | omega | (unfold mCB mBo lrm; simp [c110, c15, c6] <;> omega))) dM_isBroken_118 hlocks
        · skip
          by_cases r3 : r0 = 3
          · subst r3
            refine lv_tableIn (off := 93) (tgt := 119) hx hb dM_isBroken_26 (by decide) (by decide) (by decide) (by decide) ?_
            refine lv_iload hx hb dM_isBroken_119 (lv_at hl 0 rfl) ?_
            refine lv_if_eq (tgt := 160) hx hb dM_isBroken_121 (by decide) (fun c121 => absurd c121 (by decide)) (fun _ => ?_)
            refine lv_aload_n hx hb dM_isBroken_124 rfl (lv_at hl 1 rfl) ?_
            refine va_get (D := G) (ci := 1) (v := .ref (a 8)) (C := RX1) (T := TM) (N := 18) hx hb hts hfi hown hK hP 0 rfl rfl 8 (by decide) (hts (.fieldLink RX1 26 "PortRulesModel" "up" "[J") (by decide +kernel)) (fun _ h9 => h9) rfl dM_isBroken_125 ?_
            refine lv_iload_n hx hb dM_isBroken_128 rfl (lv_at hl 3 rfl) ?_
            refine rd_lald hx hb hK hP 6 2 rfl rfl (by omega) (by decide) dM_isBroken_129 ?_
            refine lv_aload_n hx hb dM_isBroken_130 rfl (lv_at hl 1 rfl) ?_
            refine va_get (D := G) (ci := 1) (v := .ref (a 9)) (C := RX1) (T := TM) (N := 18) hx hb hts hfi hown hK hP 0 rfl rfl 9 (by decide) (hts (.fieldLink RX1 30 "PortRulesModel" "down" "[J") (by decide +kernel)) (fun _ h9 => h9) rfl dM_isBroken_131 ?_
            refine lv_iload_n hx hb dM_isBroken_134 rfl (lv_at hl 4 rfl) ?_
            refine rd_lald hx hb hK hP 7 2 rfl rfl (by omega) (by decide) dM_isBroken_135 ?_
            refine lv_lmul hx hb dM_isBroken_136 ?_
            refine lv_aload_n hx hb dM_isBroken_137 rfl (lv_at hl 1 rfl) ?_
            refine va_get (D := G) (ci := 1) (v := .ref (a 9)) (C := RX1) (T := TM) (N := 18) hx hb hts hfi hown hK hP 0 rfl rfl 9 (by decide) (hts (.fieldLink RX1 30 "PortRulesModel" "down" "[J") (by decide +kernel)) (fun _ h9 => h9) rfl dM_isBroken_138 ?_
            refine lv_iload_n hx hb dM_isBroken_141 rfl (lv_at hl 3 rfl) ?_
            refine rd_lald hx hb hK hP 7 2 rfl rfl (by omega) (by decide) dM_isBroken_142 ?_
            refine lv_aload_n hx hb dM_isBroken_143 rfl (lv_at hl 1 rfl) ?_
            refine va_get (D := G) (ci := 1) (v := .ref (a 8)) (C := RX1) (T := TM) (N := 18) hx hb hts hfi hown hK hP 0 rfl rfl 8 (by decide) (hts (.fieldLink RX1 26 "PortRulesModel" "up" "[J") (by decide +kernel)) (fun _ h9 => h9) rfl dM_isBroken_144 ?_
            refine lv_iload_n hx hb dM_isBroken_147 rfl (lv_at hl 4 rfl) ?_
            refine rd_lald hx hb hK hP 6 2 rfl rfl (by omega) (by decide) dM_isBroken_148 ?_
            refine lv_lmul hx hb dM_isBroken_149 ?_
            refine lv_lrem hx hb dM_isBroken_150 (hdv c6 c15) ?_
            refine lv_lconst (v := 0) hx hb dM_isBroken_151 (by decide) ?_
            refine bl_eq (tgt := 160) hx hb dM_isBroken_152 dM_isBroken_153 (by decide) (fun c153 => ?_) (fun c153 => ?_)
            · refine lv_iconst (v := 0) hx hb dM_isBroken_160 (by decide) ?_
              exact rd_zret hx hb hr rfl (z1_f (by first | omega | (unfold mCB mBo lrm; simp [c15, c153, c6] <;> omega))) dM_isBroken_161 hlocks
            · refine lv_iconst (v := 1) hx hb dM_isBroken_156 (by decide) ?_
              refine lv_goto (tgt := 161) hx hb dM_isBroken_157 (by decide) ?_
              exact rd_zret hx hb hr rfl (z1_t (by first | omega | (unfold mCB mBo lrm; simp [c15, c153, c6] <;> omega))) dM_isBroken_161 hlocks
          · skip
            by_cases r4 : r0 = 4
            · subst r4
              refine lv_tableIn (off := 136) (tgt := 162) hx hb dM_isBroken_26 (by decide) (by decide) (by decide) (by decide) ?_
              refine lv_aload_n hx hb dM_isBroken_162 rfl (lv_at hl 1 rfl) ?_
              refine va_get (D := G) (ci := 1) (v := .ref (a 10)) (C := RX1) (T := TM) (N := 18) hx hb hts hfi hown hK hP 0 rfl rfl 10 (by decide) (hts (.fieldLink RX1 33 "PortRulesModel" "version" "[I") (by decide +kernel)) (fun _ h9 => h9) rfl dM_isBroken_163 ?_
              refine lv_iload_n hx hb dM_isBroken_166 rfl (lv_at hl 4 rfl) ?_
              refine rd_iald hx hb hK hP 8 0 rfl rfl (by omega) (by decide) dM_isBroken_167 ?_
              refine bz_lt (a := (mf V 10 q0).toInt) (tgt := 211) hx hb dM_isBroken_168 (by decide) rfl (fun c168 => ?_) (fun c168 => ?_)
              · refine lv_iconst (v := 0) hx hb dM_isBroken_211 (by decide) ?_
                exact rd_zret hx hb hr rfl (z1_f (by first | omega | (unfold mCB mBo lrm; simp [c15, c168, c6] <;> omega))) dM_isBroken_212 hlocks
              · refine lv_aload_n hx hb dM_isBroken_171 rfl (lv_at hl 1 rfl) ?_
                refine va_get (D := G) (ci := 1) (v := .ref (a 10)) (C := RX1) (T := TM) (N := 18) hx hb hts hfi hown hK hP 0 rfl rfl 10 (by decide) (hts (.fieldLink RX1 33 "PortRulesModel" "version" "[I") (by decide +kernel)) (fun _ h9 => h9) rfl dM_isBroken_172 ?_
                refine lv_iload_n hx hb dM_isBroken_175 rfl (lv_at hl 3 rfl) ?_
                refine rd_iald hx hb hK hP 8 0 rfl rfl (by omega) (by decide) dM_isBroken_176 ?_
                refine lv_aload_n hx hb dM_isBroken_177 rfl (lv_at hl 1 rfl) ?_
                refine va_get (D := G) (ci := 1) (v := .ref (a 10)) (C := RX1) (T := TM) (N := 18) hx hb hts hfi hown hK hP 0 rfl rfl 10 (by decide) (hts (.fieldLink RX1 33 "PortRulesModel" "version" "[I") (by decide +kernel)) (fun _ h9 => h9) rfl dM_isBroken_178 ?_
                refine lv_iload_n hx hb dM_isBroken_181 rfl (lv_at hl 4 rfl) ?_
                refine rd_iald hx hb hK hP 8 0 rfl rfl (by omega) (by decide) dM_isBroken_182 ?_
                refine bi_lt (a := (mf V 10 p0).toInt) (b := (mf V 10 q0).toInt) (tgt := 207) hx hb dM_isBroken_183 (by decide) rfl rfl (fun c183 => ?_) (fun c183 => ?_)
                · refine lv_iconst (v := 1) hx hb dM_isBroken_207 (by decide) ?_
                  refine lv_goto (tgt := 212) hx hb dM_isBroken_208 (by decide) ?_
                  exact rd_zret hx hb hr rfl (z1_t (by first | omega | (unfold mCB mBo lrm; simp [c15, c168, c183, c6] <;> omega))) dM_isBroken_212 hlocks
                · refine lv_aload_n hx hb dM_isBroken_186 rfl (lv_at hl 1 rfl) ?_
                  refine va_get (D := G) (ci := 1) (v := .ref (a 10)) (C := RX1) (T := TM) (N := 18) hx hb hts hfi hown hK hP 0 rfl rfl 10 (by decide) (hts (.fieldLink RX1 33 "PortRulesModel" "version" "[I") (by decide +kernel)) (fun _ h9 => h9) rfl dM_isBroken_187 ?_
                  refine lv_iload_n hx hb dM_isBroken_190 rfl (lv_at hl 3 rfl) ?_
                  refine rd_iald hx hb hK hP 8 0 rfl rfl (by omega) (by decide) dM_isBroken_191 ?_
                  refine lv_bipush (v := 100) hx hb dM_isBroken_192 (by decide) ?_
                  refine lv_idiv hx hb dM_isBroken_194 (by decide) ?_
                  refine lv_aload_n hx hb dM_isBroken_195 rfl (lv_at hl 1 rfl) ?_
                  refine va_get (D := G) (ci := 1) (v := .ref (a 10)) (C := RX1) (T := TM) (N := 18) hx hb hts hfi hown hK hP 0 rfl rfl 10 (by decide) (hts (.fieldLink RX1 33 "PortRulesModel" "version" "[I") (by decide +kernel)) (fun _ h9 => h9) rfl dM_isBroken_196 ?_
                  refine lv_iload_n hx hb dM_isBroken_199 rfl (lv_at hl 4 rfl) ?_
                  refine rd_iald hx hb hK hP 8 0 rfl rfl (by omega) (by decide) dM_isBroken_200 ?_
                  refine lv_bipush (v := 100) hx hb dM_isBroken_201 (by decide) ?_
                  refine lv_idiv hx hb dM_isBroken_203 (by decide) ?_
                  refine lv_icmp_eq (tgt := 211) hx hb dM_isBroken_204 (by decide) (fun c204 => ?_) (fun c204 => ?_)
                  · refine lv_iconst (v := 0) hx hb dM_isBroken_211 (by decide) ?_
                    exact rd_zret hx hb hr rfl (z1_f (by first | omega | (unfold mCB mBo lrm; simp [c15, c168, c183, c204, c6] <;> omega))) dM_isBroken_212 hlocks
                  · refine lv_iconst (v := 1) hx hb dM_isBroken_207 (by decide) ?_
                    refine lv_goto (tgt := 212) hx hb dM_isBroken_208 (by decide) ?_
                    exact rd_zret hx hb hr rfl (z1_t (by first | omega | (unfold mCB mBo lrm; simp [c15, c168, c183, c204, c6] <;> omega))) dM_isBroken_212 hlocks
            · skip
              refine lv_tableOut (tgt := 213) hx hb dM_isBroken_26 (by rw [nI_toInt (by omega)]; omega) (by decide) ?_
              refine lv_aload_n hx hb dM_isBroken_213 rfl (lv_at hl 1 rfl) ?_
              refine va_get (D := G) (ci := 1) (v := .ref (a 5)) (C := RX1) (T := TM) (N := 18) hx hb hts hfi hown hK hP 0 rfl rfl 5 (by decide) (hts (.fieldLink RX1 16 "PortRulesModel" "kindOf" "[I") (by decide +kernel)) (fun _ h9 => h9) rfl dM_isBroken_214 ?_
              refine lv_iload_n hx hb dM_isBroken_217 rfl (lv_at hl 3 rfl) ?_
              refine rd_iald hx hb hK hP 3 0 rfl rfl (by omega) (by decide) dM_isBroken_218 ?_
              refine lv_iconst (v := 3) hx hb dM_isBroken_219 (by decide) ?_
              refine lv_icmp_ne (tgt := 240) hx hb dM_isBroken_220 (by decide) (fun c220 => ?_) (fun c220 => ?_)
              · refine lv_iconst (v := 0) hx hb dM_isBroken_240 (by decide) ?_
                exact rd_zret hx hb hr rfl (z1_f (by first | omega | (unfold mCB mBo lrm; simp [c15, c220, c6, r1, r2, r3, r4] <;> omega))) dM_isBroken_241 hlocks
              · refine lv_aload_n hx hb dM_isBroken_223 rfl (lv_at hl 1 rfl) ?_
                refine lv_aload_n hx hb dM_isBroken_224 rfl (lv_at hl 1 rfl) ?_
                refine va_get (D := G) (ci := 1) (v := .ref (a 4)) (C := RX1) (T := TM) (N := 18) hx hb hts hfi hown hK hP 0 rfl rfl 4 (by decide) (hts (.fieldLink RX1 13 "PortRulesModel" "partOf" "[I") (by decide +kernel)) (fun _ h9 => h9) rfl dM_isBroken_225 ?_
                refine lv_iload_n hx hb dM_isBroken_228 rfl (lv_at hl 3 rfl) ?_
                refine rd_iald hx hb hK hP 2 0 rfl rfl (by omega) (by decide) dM_isBroken_229 ?_
                refine rd_callV (As := [.int (mf V 4 p0)]) (rest := []) (b := a 0) (q0 := 0) (ci := 1) ⟨hx, hb, hml, hown, hts⟩ (cm_isManaging l G cA a V (mf V 4 p0)) (cwV 1 hts gM_isBroken_M_isManaging rfl rfl rfl (by decide +kernel) ⟨Nat.le_of_ble_eq_true rfl, Nat.le_of_ble_eq_true rfl⟩) hK hP rfl rfl rfl rfl hl.1 rfl (Nat.le_of_ble_eq_true rfl) dM_isBroken_230 ⟨Nat.zero_le _, Nat.zero_le _⟩ ?_
                refine bb_ne (tgt := 240) hx hb dM_isBroken_233 (by decide) (fun c233 => ?_) (fun c233 => ?_)
                · refine lv_iconst (v := 0) hx hb dM_isBroken_240 (by decide) ?_
                  exact rd_zret hx hb hr rfl (z1_f (by first | omega | (unfold mCB mBo lrm; simp [c15, c220, c233, c6, r1, r2, r3, r4] <;> omega))) dM_isBroken_241 hlocks
                · refine lv_iconst (v := 1) hx hb dM_isBroken_236 (by decide) ?_
                  refine lv_goto (tgt := 241) hx hb dM_isBroken_237 (by decide) ?_
                  exact rd_zret hx hb hr rfl (z1_t (by first | omega | (unfold mCB mBo lrm; simp [c15, c220, c233, c6, r1, r2, r3, r4] <;> omega))) dM_isBroken_241 hlocks
set_option maxHeartbeats 4000000 in
set_option maxRecDepth 100000 in
theorem cm_knowK (l : Launch) (G : va_G) (cA : Nat → ClassId) (a : Nat → Nat) (V : MV)  (hk0 : ¬ mkn V = 0) : Met l yM_know wsM_know { frames := 0, cells := 0, slots := 0, locals := 0 } (rd_Pc G vwC2 (tT cA) (mW cA a V) [.ref (a 0)]) rd_QN 0 0 (fun _ => False) := by
  refine Met.ofW (cc := cM_know) (maxL := 4) (ret := none) (by decide) rfl ?_
  intro p e s m args below meth c s₁ B hml hv
  obtain ⟨rfl, hP, hK⟩ := hv
  have hx := B.exec
  have hb := B.bytes
  have hr := B.returns
  have hts := atoms_spec (ws := wsM_know) B.pre
  have hown : s.vm.findClass RX1 = some m.cls := findClass_of_methodNamed B.named
  have hlocks := B.notSynchronized
  have hfi : ∀ w ∈ u_ws RX1 TM 18, w ∈ wsM_know := fun w h => List.mem_cons_of_mem _ (wMA_f w h)
  have hl := lv_entry ([.ref (a 0)]) (n := 4) (Nat.le_of_ble_eq_true rfl)
  rw [lg_entry_eq]
  generalize (lg_sl ([.ref (a 0)]) ++ List.replicate (4 - (lg_sl ([.ref (a 0)])).length) Slot.unset).toArray = ls at hl ⊢
  have hl : lv_has ls 4 [(0, .ref (a 0))] := hl
  refine lv_aload_n hx hb dM_know_0 rfl (lv_at hl 0 rfl) ?_
  refine va_get (D := G) (ci := 1) (v := .int (mkn V)) (C := RX1) (T := TM) (N := 18) hx hb hts hfi hown hK hP 0 rfl rfl 17 (by decide) (hts (.fieldLink RX1 65 "PortRulesModel" "known" "Z") (by decide +kernel)) (fun _ h9 => h9) rfl dM_know_1 ?_
  refine lv_if_eq (tgt := 8) hx hb dM_know_4 (by decide) (fun c4 => ?_) (fun c4 => ?_)
  · exact absurd c4 hk0
  · exact rd_vret hx hb hr dM_know_7 hlocks
set_option maxHeartbeats 4000000 in
set_option maxRecDepth 100000 in
theorem cm_leadToK (l : Launch) (G : va_G) (cA : Nat → ClassId) (a : Nat → Nat) (V : MV) (q0 : Nat) (h30 : mnp V ≤ 30) (h60 : mnq V ≤ 60) (hk0 : ¬ mkn V = 0) (hkn : mKn V) (hq1 : 1 ≤ q0) (hq2 : q0 ≤ mnq V) : Met l yM_leadTo wsM_leadTo { frames := 2, cells := 0, slots := 0, locals := 45 } (rd_Pc G vwC2 (tT cA) (mW cA a V) [.ref (a 0), .int (nI q0)]) (k2_QcV (.int (nI (mTo V q0)))) 0 0 (fun _ => False) := by
  refine Met.ofW (cc := cM_leadTo) (maxL := 4) (ret := some .int) (by decide) rfl ?_
  intro p e s m args below meth c s₁ B hml hv
  obtain ⟨rfl, hP, hK⟩ := hv
  have hx := B.exec
  have hb := B.bytes
  have hr := B.returns
  have hts := atoms_spec (ws := wsM_leadTo) B.pre
  have hown : s.vm.findClass RX1 = some m.cls := findClass_of_methodNamed B.named
  have hlocks := B.notSynchronized
  have hfi : ∀ w ∈ u_ws RX1 TM 18, w ∈ wsM_leadTo := fun w h => List.mem_cons_of_mem _ (wMA_f w h)
  have hl := lv_entry ([.ref (a 0), .int (nI q0)]) (n := 4) (Nat.le_of_ble_eq_true rfl)
  rw [lg_entry_eq]
  generalize (lg_sl ([.ref (a 0), .int (nI q0)]) ++ List.replicate (4 - (lg_sl ([.ref (a 0), .int (nI q0)])).length) Slot.unset).toArray = ls at hl ⊢
  have hl : lv_has ls 4 [(0, .ref (a 0)), (1, .int (nI q0))] := hl
  refine lv_aload_n hx hb dM_leadTo_0 rfl (lv_at hl 0 rfl) ?_
  refine rd_callN (As := []) (rest := []) (b := a 0) (q0 := 0) (ci := 1) ⟨hx, hb, hml, hown, hts⟩ (cm_knowK l G cA a V hk0) (cwV 0 hts gM_leadTo_M_know rfl rfl rfl (by decide +kernel) ⟨Nat.le_of_ble_eq_true rfl, Nat.le_of_ble_eq_true rfl⟩) hK hP rfl rfl rfl rfl hl.1 rfl (Nat.le_of_ble_eq_true rfl) dM_leadTo_1 ⟨Nat.zero_le _, Nat.zero_le _⟩ ?_
  refine lv_iconst (v := nI 0) hx hb dM_leadTo_4 (by decide) ?_
  refine lv_istore_n (lv' := [(2, .int (nI 0)), (0, .ref (a 0)), (1, .int (nI q0))]) hx hb dM_leadTo_5 rfl hl (by decide) rfl (fun ls hl => ?_)
  refine lv_iconst (v := nI 1) hx hb dM_leadTo_6 (by decide) ?_
  refine lv_istore_n (lv' := [(3, .int (nI 1)), (2, .int (nI 0)), (0, .ref (a 0)), (1, .int (nI q0))]) hx hb dM_leadTo_7 rfl hl (by decide) rfl (fun ls hl => ?_)
  refine rd_loop (fun k ls => ∃ i n : Nat, 1 ≤ i ∧ i + k = mnq V + 1 ∧ n + pu_cnt (fun p0 => mF V p0 q0) k i = mTo V q0 ∧ lv_has ls 4 [(3, .int (nI i)), (2, .int (nI n)), (0, .ref (a 0)), (1, .int (nI q0))]) ?_ (mnq V) ls ⟨1, 0, by omega, by omega, Nat.zero_add _, (lv_sub hl [0, 1, 2, 3] rfl)⟩
  intro k8 ls ⟨i, n, hi, hk, hR, hl⟩ ih8
  refine lv_iload_n hx hb dM_leadTo_8 rfl (lv_at hl 0 rfl) ?_
  refine lv_aload_n hx hb dM_leadTo_9 rfl (lv_at hl 2 rfl) ?_
  refine va_get (D := G) (ci := 1) (v := .int (nI (mnq V))) (C := RX1) (T := TM) (N := 18) hx hb hts hfi hown hK hP 0 rfl rfl 3 (by decide) (hts (.fieldLink RX1 71 "PortRulesModel" "ports" "I") (by decide +kernel)) (fun _ h9 => h9) rfl dM_leadTo_10 ?_
  refine nb_gt (tgt := 39) hx hb dM_leadTo_13 (by decide) (by omega) (by omega) (fun c13 => ?_) (fun c13 => ?_)
  · refine lv_iload_n hx hb dM_leadTo_39 rfl (lv_at hl 1 rfl) ?_
    exact rd_iret hx hb hr (by rw [← hR, show k8 = 0 by omega]; rfl) dM_leadTo_40 hlocks
  · obtain ⟨k8, rfl⟩ : ∃ z, k8 = z + 1 := ⟨k8 - 1, by omega⟩
    refine lv_iload_n hx hb dM_leadTo_16 rfl (lv_at hl 1 rfl) ?_
    refine lv_aload_n hx hb dM_leadTo_17 rfl (lv_at hl 2 rfl) ?_
    refine lv_iload_n hx hb dM_leadTo_18 rfl (lv_at hl 0 rfl) ?_
    refine lv_iload_n hx hb dM_leadTo_19 rfl (lv_at hl 3 rfl) ?_
    refine rd_callV (As := [.int (nI i), .int (nI q0)]) (rest := [.int (nI n)]) (b := a 0) (q0 := 0) (ci := 1) ⟨hx, hb, hml, hown, hts⟩ (cm_isFlat l G cA a V i q0 h30 h60 hkn (by omega) (by omega) (by omega) (by omega)) (cwV 2 hts gM_leadTo_M_isFlat rfl rfl rfl (by decide +kernel) ⟨Nat.le_of_ble_eq_true rfl, Nat.le_of_ble_eq_true rfl⟩) hK hP rfl rfl rfl rfl hl.1 rfl (Nat.le_of_ble_eq_true rfl) dM_leadTo_20 ⟨Nat.zero_le _, Nat.zero_le _⟩ ?_
    refine bb_eq (tgt := 30) hx hb dM_leadTo_23 (by decide) (fun c23 => ?_) (fun c23 => ?_)
    · refine lv_iconst (v := nI 0) hx hb dM_leadTo_30 (by decide) ?_
      refine lv_iadd hx hb dM_leadTo_31 ?_
      refine rd_topi (y := nI n) (nI_add n 0) ?_
      refine lv_istore_n (lv' := [(2, .int (nI n)), (3, .int (nI i)), (0, .ref (a 0)), (1, .int (nI q0))]) hx hb dM_leadTo_32 rfl hl (by decide) rfl (fun ls hl => ?_)
      refine lv_iinc (v := nI (i + 1)) (lv' := [(3, .int (nI (i + 1))), (2, .int (nI n)), (0, .ref (a 0)), (1, .int (nI q0))]) hx hb dM_leadTo_33 hl (k := 1) rfl (ni_inc _) (by decide) rfl (fun ls hl => ?_)
      refine lv_goto (tgt := 8) hx hb dM_leadTo_36 (by decide) ?_
      exact ih8 k8 ls (by omega) ⟨i + 1, n, by omega, by omega, by have h := pu_cnt_f (k := k8) (P := fun p0 => mF V p0 q0) (i := i) c23; omega, (lv_sub hl [0, 1, 2, 3] rfl)⟩
    · refine lv_iconst (v := nI 1) hx hb dM_leadTo_26 (by decide) ?_
      refine lv_goto (tgt := 31) hx hb dM_leadTo_27 (by decide) ?_
      refine lv_iadd hx hb dM_leadTo_31 ?_
      refine rd_topi (y := nI (n + 1)) (nI_add n 1) ?_
      refine lv_istore_n (lv' := [(2, .int (nI (n + 1))), (3, .int (nI i)), (0, .ref (a 0)), (1, .int (nI q0))]) hx hb dM_leadTo_32 rfl hl (by decide) rfl (fun ls hl => ?_)
      refine lv_iinc (v := nI (i + 1)) (lv' := [(3, .int (nI (i + 1))), (2, .int (nI (n + 1))), (0, .ref (a 0)), (1, .int (nI q0))]) hx hb dM_leadTo_33 hl (k := 1) rfl (ni_inc _) (by decide) rfl (fun ls hl => ?_)
      refine lv_goto (tgt := 8) hx hb dM_leadTo_36 (by decide) ?_
      exact ih8 k8 ls (by omega) ⟨i + 1, n + 1, by omega, by omega, by have h := pu_cnt_t (k := k8) (P := fun p0 => mF V p0 q0) (i := i) c23; omega, (lv_sub hl [0, 1, 2, 3] rfl)⟩
set_option maxHeartbeats 4000000 in
set_option maxRecDepth 100000 in
theorem cm_isBrokenAtK (l : Launch) (G : va_G) (cA : Nat → ClassId) (a : Nat → Nat) (V : MV) (r0 q0 : Nat) (h30 : mnp V ≤ 30) (h60 : mnq V ≤ 60) (hk0 : ¬ mkn V = 0) (hkn : mKn V) (hr0 : r0 ≤ 9) (hq1 : 1 ≤ q0) (hq2 : q0 ≤ mnq V) : Met l yM_isBrokenAt wsM_isBrokenAt { frames := 3, cells := 0, slots := 0, locals := 68 } (rd_Pc G vwC2 (tT cA) (mW cA a V) [.ref (a 0), .int (nI r0), .int (nI q0)]) (k2_QcV (.int (z1 (mPB V r0 q0)))) 0 0 (fun _ => False) := by
  refine Met.ofW (cc := cM_isBrokenAt) (maxL := 4) (ret := some .boolean) (by decide) rfl ?_
  intro p e s m args below meth c s₁ B hml hv
  obtain ⟨rfl, hP, hK⟩ := hv
  have hx := B.exec
  have hb := B.bytes
  have hr := B.returns
  have hts := atoms_spec (ws := wsM_isBrokenAt) B.pre
  have hown : s.vm.findClass RX1 = some m.cls := findClass_of_methodNamed B.named
  have hlocks := B.notSynchronized
  have hfi : ∀ w ∈ u_ws RX1 TM 18, w ∈ wsM_isBrokenAt := fun w h => List.mem_cons_of_mem _ (wMA_f w h)
  have hl := lv_entry ([.ref (a 0), .int (nI r0), .int (nI q0)]) (n := 4) (Nat.le_of_ble_eq_true rfl)
  rw [lg_entry_eq]
  generalize (lg_sl ([.ref (a 0), .int (nI r0), .int (nI q0)]) ++ List.replicate (4 - (lg_sl ([.ref (a 0), .int (nI r0), .int (nI q0)])).length) Slot.unset).toArray = ls at hl ⊢
  have hl : lv_has ls 4 [(0, .ref (a 0)), (1, .int (nI r0)), (2, .int (nI q0))] := hl
  have hto : mTo V q0 ≤ mnq V := pu_cnt_le _ _ _
  refine lv_aload_n hx hb dM_isBrokenAt_0 rfl (lv_at hl 0 rfl) ?_
  refine lv_iload_n hx hb dM_isBrokenAt_1 rfl (lv_at hl 2 rfl) ?_
  refine rd_callV (As := [.int (nI q0)]) (rest := []) (b := a 0) (q0 := 0) (ci := 1) ⟨hx, hb, hml, hown, hts⟩ (cm_leadToK l G cA a V q0 h30 h60 hk0 hkn (by omega) (by omega)) (cwV 1 hts gM_isBrokenAt_M_leadTo rfl rfl rfl (by decide +kernel) ⟨Nat.le_of_ble_eq_true rfl, Nat.le_of_ble_eq_true rfl⟩) hK hP rfl rfl rfl rfl hl.1 rfl (Nat.le_of_ble_eq_true rfl) dM_isBrokenAt_2 ⟨Nat.zero_le _, Nat.zero_le _⟩ ?_
  refine lv_istore_n (lv' := [(3, .int (nI (mTo V q0))), (0, .ref (a 0)), (1, .int (nI r0)), (2, .int (nI q0))]) hx hb dM_isBrokenAt_5 rfl hl (by decide) rfl (fun ls hl => ?_)
  refine lv_iload_n hx hb dM_isBrokenAt_6 rfl (lv_at hl 2 rfl) ?_
  by_cases r5 : r0 = 5
  · subst r5
    refine lv_tableIn (off := 25) (tgt := 32) hx hb dM_isBrokenAt_7 (by decide) (by decide) (by decide) (by decide) ?_
    refine lv_aload_n hx hb dM_isBrokenAt_32 rfl (lv_at hl 1 rfl) ?_
    refine va_get (D := G) (ci := 1) (v := .ref (a 5)) (C := RX1) (T := TM) (N := 18) hx hb hts hfi hown hK hP 0 rfl rfl 5 (by decide) (hts (.fieldLink RX1 16 "PortRulesModel" "kindOf" "[I") (by decide +kernel)) (fun _ h9 => h9) rfl dM_isBrokenAt_33 ?_
    refine lv_iload_n hx hb dM_isBrokenAt_36 rfl (lv_at hl 3 rfl) ?_
    refine rd_iald hx hb hK hP 3 0 rfl rfl (by omega) (by decide) dM_isBrokenAt_37 ?_
    refine lv_iconst (v := 2) hx hb dM_isBrokenAt_38 (by decide) ?_
    refine lv_icmp_eq (tgt := 59) hx hb dM_isBrokenAt_39 (by decide) (fun c39 => ?_) (fun c39 => ?_)
    · refine lv_iconst (v := 0) hx hb dM_isBrokenAt_59 (by decide) ?_
      exact rd_zret hx hb hr rfl (z1_f (by unfold mPB; simp [c39] <;> omega)) dM_isBrokenAt_60 hlocks
    · refine lv_iload_n hx hb dM_isBrokenAt_42 rfl (lv_at hl 0 rfl) ?_
      refine bn_ne (tgt := 59) hx hb dM_isBrokenAt_43 (by decide) (by omega) (fun c43 => ?_) (fun c43 => ?_)
      · refine lv_iconst (v := 0) hx hb dM_isBrokenAt_59 (by decide) ?_
        exact rd_zret hx hb hr rfl (z1_f (by unfold mPB; simp [c39, c43] <;> omega)) dM_isBrokenAt_60 hlocks
      · refine lv_aload_n hx hb dM_isBrokenAt_46 rfl (lv_at hl 1 rfl) ?_
        refine va_get (D := G) (ci := 1) (v := .ref (a 11)) (C := RX1) (T := TM) (N := 18) hx hb hts hfi hown hK hP 0 rfl rfl 11 (by decide) (hts (.fieldLink RX1 36 "PortRulesModel" "hasFallback" "[Z") (by decide +kernel)) (fun _ h9 => h9) rfl dM_isBrokenAt_47 ?_
        refine lv_iload_n hx hb dM_isBrokenAt_50 rfl (lv_at hl 3 rfl) ?_
        refine rd_zald hx hb hK hP 9 1 rfl rfl (by omega) (by decide) dM_isBrokenAt_51 ?_
        refine lv_if_ne (tgt := 59) hx hb dM_isBrokenAt_52 (by decide) (fun c52 => ?_) (fun c52 => ?_)
        · refine lv_iconst (v := 0) hx hb dM_isBrokenAt_59 (by decide) ?_
          exact rd_zret hx hb hr rfl (z1_f (by unfold mPB; simp [c39, c43, c52] <;> omega)) dM_isBrokenAt_60 hlocks
        · refine lv_iconst (v := 1) hx hb dM_isBrokenAt_55 (by decide) ?_
          refine lv_goto (tgt := 60) hx hb dM_isBrokenAt_56 (by decide) ?_
          exact rd_zret hx hb hr rfl (z1_t (by unfold mPB; simp [c39, c43, c52] <;> omega)) dM_isBrokenAt_60 hlocks
  · skip
    by_cases r6 : r0 = 6
    · subst r6
      refine lv_tableIn (off := 54) (tgt := 61) hx hb dM_isBrokenAt_7 (by decide) (by decide) (by decide) (by decide) ?_
      refine lv_aload_n hx hb dM_isBrokenAt_61 rfl (lv_at hl 1 rfl) ?_
      refine va_get (D := G) (ci := 1) (v := .ref (a 5)) (C := RX1) (T := TM) (N := 18) hx hb hts hfi hown hK hP 0 rfl rfl 5 (by decide) (hts (.fieldLink RX1 16 "PortRulesModel" "kindOf" "[I") (by decide +kernel)) (fun _ h9 => h9) rfl dM_isBrokenAt_62 ?_
      refine lv_iload_n hx hb dM_isBrokenAt_65 rfl (lv_at hl 3 rfl) ?_
      refine rd_iald hx hb hK hP 3 0 rfl rfl (by omega) (by decide) dM_isBrokenAt_66 ?_
      refine lv_iconst (v := 2) hx hb dM_isBrokenAt_67 (by decide) ?_
      refine lv_icmp_ne (tgt := 79) hx hb dM_isBrokenAt_68 (by decide) (fun c68 => ?_) (fun c68 => ?_)
      · refine lv_iconst (v := 0) hx hb dM_isBrokenAt_79 (by decide) ?_
        exact rd_zret hx hb hr rfl (z1_f (by unfold mPB; simp [c68] <;> omega)) dM_isBrokenAt_80 hlocks
      · refine lv_iload_n hx hb dM_isBrokenAt_71 rfl (lv_at hl 0 rfl) ?_
        refine bn_ne (tgt := 79) hx hb dM_isBrokenAt_72 (by decide) (by omega) (fun c72 => ?_) (fun c72 => ?_)
        · refine lv_iconst (v := 0) hx hb dM_isBrokenAt_79 (by decide) ?_
          exact rd_zret hx hb hr rfl (z1_f (by unfold mPB; simp [c68, c72] <;> omega)) dM_isBrokenAt_80 hlocks
        · refine lv_iconst (v := 1) hx hb dM_isBrokenAt_75 (by decide) ?_
          refine lv_goto (tgt := 80) hx hb dM_isBrokenAt_76 (by decide) ?_
          exact rd_zret hx hb hr rfl (z1_t (by unfold mPB; simp [c68, c72] <;> omega)) dM_isBrokenAt_80 hlocks
    · skip
      by_cases r7 : r0 = 7
      · subst r7
        refine lv_tableIn (off := 74) (tgt := 81) hx hb dM_isBrokenAt_7 (by decide) (by decide) (by decide) (by decide) ?_
        refine lv_aload_n hx hb dM_isBrokenAt_81 rfl (lv_at hl 1 rfl) ?_
        refine va_get (D := G) (ci := 1) (v := .ref (a 5)) (C := RX1) (T := TM) (N := 18) hx hb hts hfi hown hK hP 0 rfl rfl 5 (by decide) (hts (.fieldLink RX1 16 "PortRulesModel" "kindOf" "[I") (by decide +kernel)) (fun _ h9 => h9) rfl dM_isBrokenAt_82 ?_
        refine lv_iload_n hx hb dM_isBrokenAt_85 rfl (lv_at hl 3 rfl) ?_
        refine rd_iald hx hb hK hP 3 0 rfl rfl (by omega) (by decide) dM_isBrokenAt_86 ?_
        refine lv_iconst (v := 2) hx hb dM_isBrokenAt_87 (by decide) ?_
        refine lv_icmp_ne (tgt := 100) hx hb dM_isBrokenAt_88 (by decide) (fun c88 => ?_) (fun c88 => ?_)
        · refine lv_iconst (v := 0) hx hb dM_isBrokenAt_100 (by decide) ?_
          exact rd_zret hx hb hr rfl (z1_f (by unfold mPB; simp [c88] <;> omega)) dM_isBrokenAt_101 hlocks
        · refine lv_iload_n hx hb dM_isBrokenAt_91 rfl (lv_at hl 0 rfl) ?_
          refine lv_iconst (v := 1) hx hb dM_isBrokenAt_92 (by decide) ?_
          refine bi_le (a := (((mTo V q0) : Nat) : Int)) (b := 1) (tgt := 100) hx hb dM_isBrokenAt_93 (by decide) (nI_toInt (by omega)) (by decide) (fun c93 => ?_) (fun c93 => ?_)
          · refine lv_iconst (v := 0) hx hb dM_isBrokenAt_100 (by decide) ?_
            exact rd_zret hx hb hr rfl (z1_f (by unfold mPB; simp [c88, c93] <;> omega)) dM_isBrokenAt_101 hlocks
          · refine lv_iconst (v := 1) hx hb dM_isBrokenAt_96 (by decide) ?_
            refine lv_goto (tgt := 101) hx hb dM_isBrokenAt_97 (by decide) ?_
            exact rd_zret hx hb hr rfl (z1_t (by unfold mPB; simp [c88, c93] <;> omega)) dM_isBrokenAt_101 hlocks
      · skip
        refine lv_tableOut (tgt := 102) hx hb dM_isBrokenAt_7 (by rw [nI_toInt (by omega)]; omega) (by decide) ?_
        refine lv_aload_n hx hb dM_isBrokenAt_102 rfl (lv_at hl 1 rfl) ?_
        refine va_get (D := G) (ci := 1) (v := .ref (a 5)) (C := RX1) (T := TM) (N := 18) hx hb hts hfi hown hK hP 0 rfl rfl 5 (by decide) (hts (.fieldLink RX1 16 "PortRulesModel" "kindOf" "[I") (by decide +kernel)) (fun _ h9 => h9) rfl dM_isBrokenAt_103 ?_
        refine lv_iload_n hx hb dM_isBrokenAt_106 rfl (lv_at hl 3 rfl) ?_
        refine rd_iald hx hb hK hP 3 0 rfl rfl (by omega) (by decide) dM_isBrokenAt_107 ?_
        refine lv_iconst (v := 1) hx hb dM_isBrokenAt_108 (by decide) ?_
        refine lv_icmp_ne (tgt := 125) hx hb dM_isBrokenAt_109 (by decide) (fun c109 => ?_) (fun c109 => ?_)
        · refine lv_iconst (v := 0) hx hb dM_isBrokenAt_125 (by decide) ?_
          exact rd_zret hx hb hr rfl (z1_f (by unfold mPB; simp [c109, r5, r6, r7] <;> omega)) dM_isBrokenAt_126 hlocks
        · refine lv_aload_n hx hb dM_isBrokenAt_112 rfl (lv_at hl 1 rfl) ?_
          refine va_get (D := G) (ci := 1) (v := .ref (a 13)) (C := RX1) (T := TM) (N := 18) hx hb hts hfi hown hK hP 0 rfl rfl 13 (by decide) (hts (.fieldLink RX1 42 "PortRulesModel" "queue" "[I") (by decide +kernel)) (fun _ h9 => h9) rfl dM_isBrokenAt_113 ?_
          refine lv_iload_n hx hb dM_isBrokenAt_116 rfl (lv_at hl 3 rfl) ?_
          refine rd_iald hx hb hK hP 11 0 rfl rfl (by omega) (by decide) dM_isBrokenAt_117 ?_
          refine lv_if_ne (tgt := 125) hx hb dM_isBrokenAt_118 (by decide) (fun c118 => ?_) (fun c118 => ?_)
          · refine lv_iconst (v := 0) hx hb dM_isBrokenAt_125 (by decide) ?_
            exact rd_zret hx hb hr rfl (z1_f (by unfold mPB; simp [c109, c118, r5, r6, r7] <;> omega)) dM_isBrokenAt_126 hlocks
          · refine lv_iconst (v := 1) hx hb dM_isBrokenAt_121 (by decide) ?_
            refine lv_goto (tgt := 126) hx hb dM_isBrokenAt_122 (by decide) ?_
            exact rd_zret hx hb hr rfl (z1_t (by unfold mPB; simp [c109, c118, r5, r6, r7] <;> omega)) dM_isBrokenAt_126 hlocks
end
section
/-! BASE 3: one step of the writing loops -/
theorem pu_cut_t {P : Nat → Bool} {k i : Nat} {x : Int64} (h : P i = true) : pu_cut P (k + 1) i x = pu_cut P k (i + 1) (x &&& (lbit i ^^^ (-1))) := by simp only [pu_cut]; rw [if_pos h]
theorem pu_cut_f {P : Nat → Bool} {k i : Nat} {x : Int64} (h : P i = false) : pu_cut P (k + 1) i x = pu_cut P k (i + 1) x := by simp only [pu_cut]; rw [if_neg (by rw [h]; decide)]
theorem pu_spread_t {a : Nat} {z : Int64} {k i : Nat} {r : Nat → Int64} (h : i = a ∨ lb (r i) a = true) : pu_spread a z (k + 1) i r = pu_spread a z k (i + 1) (vp_updL r i (r i ||| z)) := by simp only [pu_spread]; rw [if_pos h]
theorem pu_spread_f {a : Nat} {z : Int64} {k i : Nat} {r : Nat → Int64} (h : ¬ (i = a ∨ lb (r i) a = true)) : pu_spread a z (k + 1) i r = pu_spread a z k (i + 1) r := by simp only [pu_spread]; rw [if_neg h]
theorem va_up_id {α : Type} (f : Nat → α) (k : Nat) : va_up f k (f k) = f := by
  funext j
  unfold va_up
  split
  · rename_i h; rw [h]
  · rfl
theorem xSame (V : XV) : (xnp V, xnq V, xap V, xar V, xf V, xg V) = V := rfl
theorem mSame (V : MV) : (mnp V, mnq V, mco V, mkn V, mf V, mg V) = V := rfl
end
section
/-! X: the methods that write -/
set_option maxHeartbeats 4000000 in
set_option maxRecDepth 100000 in
theorem cx_addAtomicPort (l : Launch) (G : va_G) (cA : Nat → ClassId) (a : Nat → Nat) (V : XV) (j : Nat) (hj : j ≤ 60) : Met l yX0_addAtomicPort wsX0_addAtomicPort { frames := 1, cells := 0, slots := 0, locals := 20 } (mu_Pc G vwC2 (tT cA) (xW cA a V) [.ref (a 0), .int (nI j)]) (mu_Q G vwC2 (xW cA a V) (fun _ => none) (fun u9 : XV => u9 = xAdd V j) (fun u9 => xW cA a u9)) 0 0 (mu_A (xW cA a V)) := by
  refine Met.ofW (cc := cX0_addAtomicPort) (maxL := 2) (ret := none) (by decide) rfl ?_
  intro p e s m args below meth c s₁ B hml hv
  obtain ⟨rfl, hP, hK, hD0⟩ := hv
  have hx := B.exec
  have hb := B.bytes
  have hr := B.returns
  have hts := atoms_spec (ws := wsX0_addAtomicPort) B.pre
  have hown : s.vm.findClass RX0 = some m.cls := findClass_of_methodNamed B.named
  have hlocks := B.notSynchronized
  have hD := mu_own hD0
  have hS : va_S (mu_A (xW cA a V)) s.heap s.heap [] := va_S.rf
  have hfi : ∀ w ∈ u_ws RX0 TX0 19, w ∈ wsX0_addAtomicPort := by decide +kernel
  have hl := lv_entry ([.ref (a 0), .int (nI j)]) (n := 2) (Nat.le_of_ble_eq_true rfl)
  rw [lg_entry_eq]
  generalize (lg_sl ([.ref (a 0), .int (nI j)]) ++ List.replicate (2 - (lg_sl ([.ref (a 0), .int (nI j)])).length) Slot.unset).toArray = ls at hl ⊢
  have hl : lv_has ls 2 [(0, .ref (a 0)), (1, .int (nI j))] := hl
  refine lv_aload_n hx hb dX0_addAtomicPort_0 rfl (lv_at hl 0 rfl) ?_
  refine va_get (D := G) (ci := 0) (v := .ref (a 7)) (C := RX0) (T := TX0) (N := 19) hx hb hts hfi hown hK hP 0 rfl rfl 7 (by decide) (hts (.fieldLink RX0 26 "PortRules" "isProvided" "[Z") (by decide +kernel)) (fun _ h9 => h9) rfl dX0_addAtomicPort_1 ?_
  refine lv_iload_n hx hb dX0_addAtomicPort_4 rfl (lv_at hl 1 rfl) ?_
  refine rd_zald hx hb hK hP 6 1 rfl rfl (by omega) (by decide) dX0_addAtomicPort_5 ?_
  refine lv_if_eq (tgt := 25) hx hb dX0_addAtomicPort_6 (by decide) (fun c6 => ?_) (fun c6 => ?_)
  · refine lv_aload_n hx hb dX0_addAtomicPort_25 rfl (lv_at hl 0 rfl) ?_
    refine lv_dup hx hb dX0_addAtomicPort_26 rfl ?_
    refine va_get (D := G) (ci := 0) (v := .long (xar V)) (C := RX0) (T := TX0) (N := 19) hx hb hts hfi hown hK hP 0 rfl rfl 18 (by decide) (hts (.fieldLink RX0 134 "PortRules" "atomicRequired" "J") (by decide +kernel)) (fun _ h9 => h9) rfl dX0_addAtomicPort_27 ?_
    refine lv_iload_n hx hb dX0_addAtomicPort_30 rfl (lv_at hl 1 rfl) ?_
    refine rd_callS (As := [.int (nI j)]) (rest := [.long (xar V), .ref (a 0)]) ⟨hx, hb, hml, hown, hts⟩ (cx_bit l j) (va_cwS 1 hts gX0_addAtomicPort_X0_bit rfl rfl rfl (by decide +kernel) ⟨Nat.le_of_ble_eq_true rfl, Nat.le_of_ble_eq_true rfl⟩) rfl hl.1 rfl (Nat.le_of_ble_eq_true rfl) dX0_addAtomicPort_31 ⟨Nat.zero_le _, Nat.zero_le _⟩ ?_
    refine lv_lor hx hb dX0_addAtomicPort_34 ?_
    refine va_put (D := G) (ci := 0) (v := .long ((xar V) ||| (lbit j))) (ty := .long) (C := RX0) (T := TX0) (N := 19) hx hb hts hfi tyX0 tyX0_ok nmX0 hown hK hP hD hS 0 rfl rfl 18 (by decide) (hts (.fieldLink RX0 134 "PortRules" "atomicRequired" "J") (by decide +kernel)) (fun _ h9 => h9) rfl (by decide +kernel) rfl rfl (Nat.le_of_ble_eq_true rfl) dX0_addAtomicPort_35 (fun H locs hP hD hS => ?_)
    have hP : va_P G vwC2 (xW cA a (xnp V, xnq V, xap V, (xar V) ||| (lbit j), xf V, xg V)) H := hP
    have hD : va_D (mu_A (xW cA a V)) (xW cA a (xnp V, xnq V, xap V, (xar V) ||| (lbit j), xf V, xg V)) := hD
    exact mu_vret ((xnp V, xnq V, xap V, (xar V) ||| (lbit j), xf V, xg V)) hx hb hr hS hP (by unfold xAdd; rw [if_pos c6, if_pos c6]) (rfl) dX0_addAtomicPort_38 hlocks
  · refine lv_aload_n hx hb dX0_addAtomicPort_9 rfl (lv_at hl 0 rfl) ?_
    refine lv_dup hx hb dX0_addAtomicPort_10 rfl ?_
    refine va_get (D := G) (ci := 0) (v := .long (xap V)) (C := RX0) (T := TX0) (N := 19) hx hb hts hfi hown hK hP 0 rfl rfl 17 (by decide) (hts (.fieldLink RX0 146 "PortRules" "atomicProvided" "J") (by decide +kernel)) (fun _ h9 => h9) rfl dX0_addAtomicPort_11 ?_
    refine lv_iload_n hx hb dX0_addAtomicPort_14 rfl (lv_at hl 1 rfl) ?_
    refine rd_callS (As := [.int (nI j)]) (rest := [.long (xap V), .ref (a 0)]) ⟨hx, hb, hml, hown, hts⟩ (cx_bit l j) (va_cwS 1 hts gX0_addAtomicPort_X0_bit rfl rfl rfl (by decide +kernel) ⟨Nat.le_of_ble_eq_true rfl, Nat.le_of_ble_eq_true rfl⟩) rfl hl.1 rfl (Nat.le_of_ble_eq_true rfl) dX0_addAtomicPort_15 ⟨Nat.zero_le _, Nat.zero_le _⟩ ?_
    refine lv_lor hx hb dX0_addAtomicPort_18 ?_
    refine va_put (D := G) (ci := 0) (v := .long ((xap V) ||| (lbit j))) (ty := .long) (C := RX0) (T := TX0) (N := 19) hx hb hts hfi tyX0 tyX0_ok nmX0 hown hK hP hD hS 0 rfl rfl 17 (by decide) (hts (.fieldLink RX0 146 "PortRules" "atomicProvided" "J") (by decide +kernel)) (fun _ h9 => h9) rfl (by decide +kernel) rfl rfl (Nat.le_of_ble_eq_true rfl) dX0_addAtomicPort_19 (fun H locs hP hD hS => ?_)
    have hP : va_P G vwC2 (xW cA a (xnp V, xnq V, (xap V) ||| (lbit j), xar V, xf V, xg V)) H := hP
    have hD : va_D (mu_A (xW cA a V)) (xW cA a (xnp V, xnq V, (xap V) ||| (lbit j), xar V, xf V, xg V)) := hD
    refine lv_goto (tgt := 38) hx hb dX0_addAtomicPort_22 (by decide) ?_
    exact mu_vret ((xnp V, xnq V, (xap V) ||| (lbit j), xar V, xf V, xg V)) hx hb hr hS hP (by unfold xAdd; rw [if_neg c6, if_neg c6]) (rfl) dX0_addAtomicPort_38 hlocks
set_option maxHeartbeats 4000000 in
set_option maxRecDepth 100000 in
theorem cx_endAtomic (l : Launch) (G : va_G) (cA : Nat → ClassId) (a : Nat → Nat) (V : XV) (c0 : Nat) (h60 : xnq V ≤ 60) (hc0 : c0 ≤ 30) : Met l yX0_endAtomic wsX0_endAtomic { frames := 1, cells := 0, slots := 0, locals := 20 } (mu_Pc G vwC2 (tT cA) (xW cA a V) [.ref (a 0), .int (nI c0)]) (mu_Q G vwC2 (xW cA a V) (fun _ => none) (fun u9 : XV => u9 = xEnd V c0) (fun u9 => xW cA a u9)) 0 0 (mu_A (xW cA a V)) := by
  refine Met.ofW (cc := cX0_endAtomic) (maxL := 3) (ret := none) (by decide) rfl ?_
  intro p e s m args below meth c s₁ B hml hv
  obtain ⟨rfl, hP, hK, hD0⟩ := hv
  have hx := B.exec
  have hb := B.bytes
  have hr := B.returns
  have hts := atoms_spec (ws := wsX0_endAtomic) B.pre
  have hown : s.vm.findClass RX0 = some m.cls := findClass_of_methodNamed B.named
  have hlocks := B.notSynchronized
  have hD := mu_own hD0
  have hS : va_S (mu_A (xW cA a V)) s.heap s.heap [] := va_S.rf
  have hfi : ∀ w ∈ u_ws RX0 TX0 19, w ∈ wsX0_endAtomic := by decide +kernel
  have hl := lv_entry ([.ref (a 0), .int (nI c0)]) (n := 3) (Nat.le_of_ble_eq_true rfl)
  rw [lg_entry_eq]
  generalize (lg_sl ([.ref (a 0), .int (nI c0)]) ++ List.replicate (3 - (lg_sl ([.ref (a 0), .int (nI c0)])).length) Slot.unset).toArray = ls at hl ⊢
  have hl : lv_has ls 3 [(0, .ref (a 0)), (1, .int (nI c0))] := hl
  refine lv_aload_n hx hb dX0_endAtomic_0 rfl (lv_at hl 0 rfl) ?_
  refine va_get (D := G) (ci := 0) (v := .ref (a 2)) (C := RX0) (T := TX0) (N := 19) hx hb hts hfi hown hK hP 0 rfl rfl 2 (by decide) (hts (.fieldLink RX0 13 "PortRules" "hasInnerParts" "[Z") (by decide +kernel)) (fun _ h9 => h9) rfl dX0_endAtomic_1 ?_
  refine lv_iload_n hx hb dX0_endAtomic_4 rfl (lv_at hl 1 rfl) ?_
  refine lv_iconst (v := 1) hx hb dX0_endAtomic_5 (by decide) ?_
  refine mu_zast hx hb hK hP hD hS 2 1 rfl rfl (by omega) (by decide) rfl dX0_endAtomic_6 (ws1 := xW cA a (xnp V, xnq V, xap V, xar V, va_up (xf V) 2 (upd (xf V 2) c0 1), xg V)) rfl (fun H locs hP hD hS => ?_)
  refine lv_iconst (v := nI 1) hx hb dX0_endAtomic_7 (by decide) ?_
  refine lv_istore_n (lv' := [(2, .int (nI 1)), (0, .ref (a 0)), (1, .int (nI c0))]) hx hb dX0_endAtomic_8 rfl hl (by decide) rfl (fun ls hl => ?_)
  refine mu_loop (H0 := s.heap) (fun k ls H locs => ∃ (i : Nat) (x y : Int64), 1 ≤ i ∧ i + k = xnq V + 1 ∧ pu_cut (fun j => decide (xf V 5 j = nI c0)) k i x = pu_cut (fun j => decide (xf V 5 j = nI c0)) (xnq V) 1 (xap V) ∧ pu_cut (fun j => decide (xf V 5 j = nI c0)) k i y = pu_cut (fun j => decide (xf V 5 j = nI c0)) (xnq V) 1 (xar V) ∧ va_P G vwC2 (xW cA a (xnp V, xnq V, x, y, va_up (xf V) 2 (upd (xf V 2) c0 1), xg V)) H ∧ va_D (mu_A (xW cA a V)) (xW cA a (xnp V, xnq V, x, y, va_up (xf V) 2 (upd (xf V 2) c0 1), xg V)) ∧ va_S (mu_A (xW cA a V)) s.heap H locs ∧ lv_has ls 3 [(2, .int (nI i)), (0, .ref (a 0)), (1, .int (nI c0))]) ?_ (xnq V) ls H locs ⟨1, xap V, xar V, by omega, by omega, rfl, rfl, hP, hD, hS, (lv_sub hl [0, 1, 2] rfl)⟩
  intro k9 ls H locs ⟨i, x, y, hi, hk, h1, h2, hP, hD, hS, hl⟩ ih9
  refine lv_iload_n hx hb dX0_endAtomic_9 rfl (lv_at hl 0 rfl) ?_
  refine lv_aload_n hx hb dX0_endAtomic_10 rfl (lv_at hl 1 rfl) ?_
  refine va_get (D := G) (ci := 0) (v := .int (nI (xnq V))) (C := RX0) (T := TX0) (N := 19) hx hb hts hfi hown hK hP 0 rfl rfl 4 (by decide) (hts (.fieldLink RX0 75 "PortRules" "portCount" "I") (by decide +kernel)) (fun _ h9 => h9) rfl dX0_endAtomic_11 ?_
  refine nb_gt (tgt := 67) hx hb dX0_endAtomic_14 (by decide) (by omega) (by omega) (fun c14 => ?_) (fun c14 => ?_)
  · exact mu_vret ((xnp V, xnq V, x, y, va_up (xf V) 2 (upd (xf V 2) c0 1), xg V)) hx hb hr hS hP (by unfold xEnd; rw [← h1, ← h2, show k9 = 0 by omega]; rfl) (rfl) dX0_endAtomic_67 hlocks
  · obtain ⟨k9, rfl⟩ : ∃ z, k9 = z + 1 := ⟨k9 - 1, by omega⟩
    refine lv_aload_n hx hb dX0_endAtomic_17 rfl (lv_at hl 1 rfl) ?_
    refine va_get (D := G) (ci := 0) (v := .ref (a 5)) (C := RX0) (T := TX0) (N := 19) hx hb hts hfi hown hK hP 0 rfl rfl 5 (by decide) (hts (.fieldLink RX0 20 "PortRules" "partOf" "[I") (by decide +kernel)) (fun _ h9 => h9) rfl dX0_endAtomic_18 ?_
    refine lv_iload_n hx hb dX0_endAtomic_21 rfl (lv_at hl 0 rfl) ?_
    refine rd_iald hx hb hK hP 4 0 rfl rfl (by omega) (by decide) dX0_endAtomic_22 ?_
    refine lv_iload_n hx hb dX0_endAtomic_23 rfl (lv_at hl 2 rfl) ?_
    refine lv_icmp_ne (tgt := 61) hx hb dX0_endAtomic_24 (by decide) (fun c24 => ?_) (fun c24 => ?_)
    · refine lv_iinc (v := nI (i + 1)) (lv' := [(2, .int (nI (i + 1))), (0, .ref (a 0)), (1, .int (nI c0))]) hx hb dX0_endAtomic_61 hl (k := 0) rfl (ni_inc _) (by decide) rfl (fun ls hl => ?_)
      refine lv_goto (tgt := 9) hx hb dX0_endAtomic_64 (by decide) ?_
      exact ih9 k9 ls H locs (by omega) ⟨i + 1, x, y, by omega, by omega, (pu_cut_f (P := (fun j => decide (xf V 5 j = nI c0))) (decide_eq_false c24)).symm.trans h1, (pu_cut_f (P := (fun j => decide (xf V 5 j = nI c0))) (decide_eq_false c24)).symm.trans h2, hP, hD, hS, (lv_sub hl [0, 1, 2] rfl)⟩
    · refine lv_aload_n hx hb dX0_endAtomic_27 rfl (lv_at hl 1 rfl) ?_
      refine lv_dup hx hb dX0_endAtomic_28 rfl ?_
      refine va_get (D := G) (ci := 0) (v := .long x) (C := RX0) (T := TX0) (N := 19) hx hb hts hfi hown hK hP 0 rfl rfl 17 (by decide) (hts (.fieldLink RX0 146 "PortRules" "atomicProvided" "J") (by decide +kernel)) (fun _ h9 => h9) rfl dX0_endAtomic_29 ?_
      refine lv_iload_n hx hb dX0_endAtomic_32 rfl (lv_at hl 0 rfl) ?_
      refine rd_callS (As := [.int (nI i)]) (rest := [.long x, .ref (a 0)]) ⟨hx, hb, hml, hown, hts⟩ (cx_bit l i) (va_cwS 1 hts gX0_endAtomic_X0_bit rfl rfl rfl (by decide +kernel) ⟨Nat.le_of_ble_eq_true rfl, Nat.le_of_ble_eq_true rfl⟩) rfl hl.1 rfl (Nat.le_of_ble_eq_true rfl) dX0_endAtomic_33 ⟨Nat.zero_le _, Nat.zero_le _⟩ ?_
      refine lv_ldc2 (v := -1) hx hb hown (hts (.constantLong RX0 142 (-1)) (by decide +kernel)) dX0_endAtomic_36 ?_
      refine lv_lxor hx hb dX0_endAtomic_39 ?_
      refine lv_land hx hb dX0_endAtomic_40 ?_
      refine va_put (D := G) (ci := 0) (v := .long (x &&& ((lbit i) ^^^ (-1)))) (ty := .long) (C := RX0) (T := TX0) (N := 19) hx hb hts hfi tyX0 tyX0_ok nmX0 hown hK hP hD hS 0 rfl rfl 17 (by decide) (hts (.fieldLink RX0 146 "PortRules" "atomicProvided" "J") (by decide +kernel)) (fun _ h9 => h9) rfl (by decide +kernel) rfl rfl (Nat.le_of_ble_eq_true rfl) dX0_endAtomic_41 (fun H locs hP hD hS => ?_)
      have hP : va_P G vwC2 (xW cA a (xnp V, xnq V, x &&& ((lbit i) ^^^ (-1)), y, va_up (xf V) 2 (upd (xf V 2) c0 1), xg V)) H := hP
      have hD : va_D (mu_A (xW cA a V)) (xW cA a (xnp V, xnq V, x &&& ((lbit i) ^^^ (-1)), y, va_up (xf V) 2 (upd (xf V 2) c0 1), xg V)) := hD
      refine lv_aload_n hx hb dX0_endAtomic_44 rfl (lv_at hl 1 rfl) ?_
      refine lv_dup hx hb dX0_endAtomic_45 rfl ?_
      refine va_get (D := G) (ci := 0) (v := .long y) (C := RX0) (T := TX0) (N := 19) hx hb hts hfi hown hK hP 0 rfl rfl 18 (by decide) (hts (.fieldLink RX0 134 "PortRules" "atomicRequired" "J") (by decide +kernel)) (fun _ h9 => h9) rfl dX0_endAtomic_46 ?_
      refine lv_iload_n hx hb dX0_endAtomic_49 rfl (lv_at hl 0 rfl) ?_
      refine rd_callS (As := [.int (nI i)]) (rest := [.long y, .ref (a 0)]) ⟨hx, hb, hml, hown, hts⟩ (cx_bit l i) (va_cwS 1 hts gX0_endAtomic_X0_bit rfl rfl rfl (by decide +kernel) ⟨Nat.le_of_ble_eq_true rfl, Nat.le_of_ble_eq_true rfl⟩) rfl hl.1 rfl (Nat.le_of_ble_eq_true rfl) dX0_endAtomic_50 ⟨Nat.zero_le _, Nat.zero_le _⟩ ?_
      refine lv_ldc2 (v := -1) hx hb hown (hts (.constantLong RX0 142 (-1)) (by decide +kernel)) dX0_endAtomic_53 ?_
      refine lv_lxor hx hb dX0_endAtomic_56 ?_
      refine lv_land hx hb dX0_endAtomic_57 ?_
      refine va_put (D := G) (ci := 0) (v := .long (y &&& ((lbit i) ^^^ (-1)))) (ty := .long) (C := RX0) (T := TX0) (N := 19) hx hb hts hfi tyX0 tyX0_ok nmX0 hown hK hP hD hS 0 rfl rfl 18 (by decide) (hts (.fieldLink RX0 134 "PortRules" "atomicRequired" "J") (by decide +kernel)) (fun _ h9 => h9) rfl (by decide +kernel) rfl rfl (Nat.le_of_ble_eq_true rfl) dX0_endAtomic_58 (fun H locs hP hD hS => ?_)
      have hP : va_P G vwC2 (xW cA a (xnp V, xnq V, x &&& ((lbit i) ^^^ (-1)), y &&& ((lbit i) ^^^ (-1)), va_up (xf V) 2 (upd (xf V 2) c0 1), xg V)) H := hP
      have hD : va_D (mu_A (xW cA a V)) (xW cA a (xnp V, xnq V, x &&& ((lbit i) ^^^ (-1)), y &&& ((lbit i) ^^^ (-1)), va_up (xf V) 2 (upd (xf V 2) c0 1), xg V)) := hD
      refine lv_iinc (v := nI (i + 1)) (lv' := [(2, .int (nI (i + 1))), (0, .ref (a 0)), (1, .int (nI c0))]) hx hb dX0_endAtomic_61 hl (k := 0) rfl (ni_inc _) (by decide) rfl (fun ls hl => ?_)
      refine lv_goto (tgt := 9) hx hb dX0_endAtomic_64 (by decide) ?_
      exact ih9 k9 ls H locs (by omega) ⟨i + 1, x &&& (lbit i ^^^ (-1)), y &&& (lbit i ^^^ (-1)), by omega, by omega, (pu_cut_t (P := (fun j => decide (xf V 5 j = nI c0))) (decide_eq_true c24)).symm.trans h1, (pu_cut_t (P := (fun j => decide (xf V 5 j = nI c0))) (decide_eq_true c24)).symm.trans h2, hP, hD, hS, (lv_sub hl [0, 1, 2] rfl)⟩
set_option maxHeartbeats 4000000 in
set_option maxRecDepth 100000 in
theorem cx_spreadReach (l : Launch) (G : va_G) (cA : Nat → ClassId) (a : Nat → Nat) (V : XV) (p0 q0 : Nat) (h60 : xnq V ≤ 60) (hp : p0 ≤ 60) (hq : q0 ≤ 60) : Met l yX0_spreadReach wsX0_spreadReach { frames := 2, cells := 0, slots := 0, locals := 42 } (mu_Pc G vwC2 (tT cA) (xW cA a V) [.ref (a 0), .int (nI p0), .int (nI q0)]) (mu_Q G vwC2 (xW cA a V) (fun _ => none) (fun u9 : XV => u9 = xSpread V p0 q0) (fun u9 => xW cA a u9)) 0 0 (mu_A (xW cA a V)) := by
  refine Met.ofW (cc := cX0_spreadReach) (maxL := 6) (ret := none) (by decide) rfl ?_
  intro p e s m args below meth c s₁ B hml hv
  obtain ⟨rfl, hP, hK, hD0⟩ := hv
  have hx := B.exec
  have hb := B.bytes
  have hr := B.returns
  have hts := atoms_spec (ws := wsX0_spreadReach) B.pre
  have hown : s.vm.findClass RX0 = some m.cls := findClass_of_methodNamed B.named
  have hlocks := B.notSynchronized
  have hD := mu_own hD0
  have hS : va_S (mu_A (xW cA a V)) s.heap s.heap [] := va_S.rf
  have hfi : ∀ w ∈ u_ws RX0 TX0 19, w ∈ wsX0_spreadReach := by decide +kernel
  have hl := lv_entry ([.ref (a 0), .int (nI p0), .int (nI q0)]) (n := 6) (Nat.le_of_ble_eq_true rfl)
  rw [lg_entry_eq]
  generalize (lg_sl ([.ref (a 0), .int (nI p0), .int (nI q0)]) ++ List.replicate (6 - (lg_sl ([.ref (a 0), .int (nI p0), .int (nI q0)])).length) Slot.unset).toArray = ls at hl ⊢
  have hl : lv_has ls 6 [(0, .ref (a 0)), (1, .int (nI p0)), (2, .int (nI q0))] := hl
  refine lv_aload_n hx hb dX0_spreadReach_0 rfl (lv_at hl 0 rfl) ?_
  refine va_get (D := G) (ci := 0) (v := .ref (a 16)) (C := RX0) (T := TX0) (N := 19) hx hb hts hfi hown hK hP 0 rfl rfl 16 (by decide) (hts (.fieldLink RX0 54 "PortRules" "reachedFrom" "[J") (by decide +kernel)) (fun _ h9 => h9) rfl dX0_spreadReach_1 ?_
  refine lv_iload_n hx hb dX0_spreadReach_4 rfl (lv_at hl 2 rfl) ?_
  refine rd_lald hx hb hK hP 15 2 rfl rfl (by omega) (by decide) dX0_spreadReach_5 ?_
  refine lv_iload_n hx hb dX0_spreadReach_6 rfl (lv_at hl 2 rfl) ?_
  refine rd_callS (As := [.int (nI q0)]) (rest := [.long (xg V 16 q0)]) ⟨hx, hb, hml, hown, hts⟩ (cx_bit l q0) (va_cwS 1 hts gX0_spreadReach_X0_bit rfl rfl rfl (by decide +kernel) ⟨Nat.le_of_ble_eq_true rfl, Nat.le_of_ble_eq_true rfl⟩) rfl hl.1 rfl (Nat.le_of_ble_eq_true rfl) dX0_spreadReach_7 ⟨Nat.zero_le _, Nat.zero_le _⟩ ?_
  refine lv_lor hx hb dX0_spreadReach_10 ?_
  refine lv_lstore_n (lv' := [(3, .long ((xg V 16 q0) ||| (lbit q0))), (0, .ref (a 0)), (1, .int (nI p0)), (2, .int (nI q0))]) hx hb dX0_spreadReach_11 rfl hl (by decide) rfl (fun ls hl => ?_)
  refine lv_iconst (v := nI 1) hx hb dX0_spreadReach_12 (by decide) ?_
  refine lv_istore (lv' := [(5, .int (nI 1)), (3, .long ((xg V 16 q0) ||| (lbit q0))), (0, .ref (a 0)), (1, .int (nI p0)), (2, .int (nI q0))]) hx hb dX0_spreadReach_13 hl (by decide) rfl (fun ls hl => ?_)
  refine mu_loop (H0 := s.heap) (fun k ls H locs => ∃ (i : Nat) (r : Nat → Int64), 1 ≤ i ∧ i + k = xnq V + 1 ∧ pu_spread p0 (xg V 16 q0 ||| lbit q0) k i r = pu_spread p0 (xg V 16 q0 ||| lbit q0) (xnq V) 1 (xg V 16) ∧ va_P G vwC2 (xW cA a (xnp V, xnq V, xap V, xar V, xf V, va_up (xg V) 16 r)) H ∧ va_D (mu_A (xW cA a V)) (xW cA a (xnp V, xnq V, xap V, xar V, xf V, va_up (xg V) 16 r)) ∧ va_S (mu_A (xW cA a V)) s.heap H locs ∧ lv_has ls 6 [(5, .int (nI i)), (3, .long ((xg V 16 q0 ||| lbit q0))), (0, .ref (a 0)), (1, .int (nI p0)), (2, .int (nI q0))]) ?_ (xnq V) ls s.heap [] ⟨1, xg V 16, by omega, by omega, rfl, by rw [va_up_id]; exact hP, by rw [va_up_id]; exact hD, hS, (lv_sub hl [0, 1, 2, 3, 4] rfl)⟩
  intro k15 ls H locs ⟨i, r, hi, hk, h1, hP, hD, hS, hl⟩ ih15
  refine lv_iload hx hb dX0_spreadReach_15 (lv_at hl 0 rfl) ?_
  refine lv_aload_n hx hb dX0_spreadReach_17 rfl (lv_at hl 2 rfl) ?_
  refine va_get (D := G) (ci := 0) (v := .int (nI (xnq V))) (C := RX0) (T := TX0) (N := 19) hx hb hts hfi hown hK hP 0 rfl rfl 4 (by decide) (hts (.fieldLink RX0 75 "PortRules" "portCount" "I") (by decide +kernel)) (fun _ h9 => h9) rfl dX0_spreadReach_18 ?_
  refine nb_gt (tgt := 61) hx hb dX0_spreadReach_21 (by decide) (by omega) (by omega) (fun c21 => ?_) (fun c21 => ?_)
  · exact mu_vret ((xnp V, xnq V, xap V, xar V, xf V, va_up (xg V) 16 r)) hx hb hr hS hP (by unfold xSpread; rw [← h1, show k15 = 0 by omega]; rfl) (rfl) dX0_spreadReach_61 hlocks
  · obtain ⟨k15, rfl⟩ : ∃ z, k15 = z + 1 := ⟨k15 - 1, by omega⟩
    refine lv_iload hx hb dX0_spreadReach_24 (lv_at hl 0 rfl) ?_
    refine lv_iload_n hx hb dX0_spreadReach_26 rfl (lv_at hl 3 rfl) ?_
    refine nb_eq (tgt := 44) hx hb dX0_spreadReach_27 (by decide) (by omega) (by omega) (fun c27 => ?_) (fun c27 => ?_)
    · refine lv_aload_n hx hb dX0_spreadReach_44 rfl (lv_at hl 2 rfl) ?_
      refine va_get (D := G) (ci := 0) (v := .ref (a 16)) (C := RX0) (T := TX0) (N := 19) hx hb hts hfi hown hK hP 0 rfl rfl 16 (by decide) (hts (.fieldLink RX0 54 "PortRules" "reachedFrom" "[J") (by decide +kernel)) (fun _ h9 => h9) rfl dX0_spreadReach_45 ?_
      refine lv_iload hx hb dX0_spreadReach_48 (lv_at hl 0 rfl) ?_
      refine lv_dup2_11 hx hb dX0_spreadReach_50 rfl rfl ?_
      refine rd_lald hx hb hK hP 15 2 rfl rfl (by omega) (by decide) dX0_spreadReach_51 ?_
      refine lv_lload_n hx hb dX0_spreadReach_52 rfl (lv_at hl 1 rfl) ?_
      refine lv_lor hx hb dX0_spreadReach_53 ?_
      refine mu_last hx hb hK hP hD hS 15 2 rfl rfl (by omega) (by decide) dX0_spreadReach_54 (ws1 := xW cA a (xnp V, xnq V, xap V, xar V, xf V, va_up (xg V) 16 (vp_updL (r) i ((r i) ||| ((xg V 16 q0 ||| lbit q0)))))) rfl (fun H locs hP hD hS => ?_)
      refine lv_iinc (v := nI (i + 1)) (lv' := [(5, .int (nI (i + 1))), (3, .long ((xg V 16 q0 ||| lbit q0))), (0, .ref (a 0)), (1, .int (nI p0)), (2, .int (nI q0))]) hx hb dX0_spreadReach_55 hl (k := 0) rfl (ni_inc _) (by decide) rfl (fun ls hl => ?_)
      refine lv_goto (tgt := 15) hx hb dX0_spreadReach_58 (by decide) ?_
      exact ih15 k15 ls H locs (by omega) ⟨i + 1, vp_updL r i (r i ||| (xg V 16 q0 ||| lbit q0)), by omega, by omega, (pu_spread_t (Or.inl c27)).symm.trans h1, hP, hD, hS, (lv_sub hl [0, 1, 2, 3, 4] rfl)⟩
    · refine lv_aload_n hx hb dX0_spreadReach_30 rfl (lv_at hl 2 rfl) ?_
      refine va_get (D := G) (ci := 0) (v := .ref (a 16)) (C := RX0) (T := TX0) (N := 19) hx hb hts hfi hown hK hP 0 rfl rfl 16 (by decide) (hts (.fieldLink RX0 54 "PortRules" "reachedFrom" "[J") (by decide +kernel)) (fun _ h9 => h9) rfl dX0_spreadReach_31 ?_
      refine lv_iload hx hb dX0_spreadReach_34 (lv_at hl 0 rfl) ?_
      refine rd_lald hx hb hK hP 15 2 rfl rfl (by omega) (by decide) dX0_spreadReach_36 ?_
      refine lv_iload_n hx hb dX0_spreadReach_37 rfl (lv_at hl 3 rfl) ?_
      refine rd_callS (As := [.long (r i), .int (nI p0)]) (rest := []) ⟨hx, hb, hml, hown, hts⟩ (cx_holds l (r i) p0 (by omega)) (va_cwS 2 hts gX0_spreadReach_X0_holds rfl rfl rfl (by decide +kernel) ⟨Nat.le_of_ble_eq_true rfl, Nat.le_of_ble_eq_true rfl⟩) rfl hl.1 rfl (Nat.le_of_ble_eq_true rfl) dX0_spreadReach_38 ⟨Nat.zero_le _, Nat.zero_le _⟩ ?_
      refine bb_eq (tgt := 55) hx hb dX0_spreadReach_41 (by decide) (fun c41 => ?_) (fun c41 => ?_)
      · refine lv_iinc (v := nI (i + 1)) (lv' := [(5, .int (nI (i + 1))), (3, .long ((xg V 16 q0 ||| lbit q0))), (0, .ref (a 0)), (1, .int (nI p0)), (2, .int (nI q0))]) hx hb dX0_spreadReach_55 hl (k := 0) rfl (ni_inc _) (by decide) rfl (fun ls hl => ?_)
        refine lv_goto (tgt := 15) hx hb dX0_spreadReach_58 (by decide) ?_
        exact ih15 k15 ls H locs (by omega) ⟨i + 1, r, by omega, by omega, (pu_spread_f (fun z => z.elim c27 (fun z => by rw [c41] at z; cases z))).symm.trans h1, hP, hD, hS, (lv_sub hl [0, 1, 2, 3, 4] rfl)⟩
      · refine lv_aload_n hx hb dX0_spreadReach_44 rfl (lv_at hl 2 rfl) ?_
        refine va_get (D := G) (ci := 0) (v := .ref (a 16)) (C := RX0) (T := TX0) (N := 19) hx hb hts hfi hown hK hP 0 rfl rfl 16 (by decide) (hts (.fieldLink RX0 54 "PortRules" "reachedFrom" "[J") (by decide +kernel)) (fun _ h9 => h9) rfl dX0_spreadReach_45 ?_
        refine lv_iload hx hb dX0_spreadReach_48 (lv_at hl 0 rfl) ?_
        refine lv_dup2_11 hx hb dX0_spreadReach_50 rfl rfl ?_
        refine rd_lald hx hb hK hP 15 2 rfl rfl (by omega) (by decide) dX0_spreadReach_51 ?_
        refine lv_lload_n hx hb dX0_spreadReach_52 rfl (lv_at hl 1 rfl) ?_
        refine lv_lor hx hb dX0_spreadReach_53 ?_
        refine mu_last hx hb hK hP hD hS 15 2 rfl rfl (by omega) (by decide) dX0_spreadReach_54 (ws1 := xW cA a (xnp V, xnq V, xap V, xar V, xf V, va_up (xg V) 16 (vp_updL (r) i ((r i) ||| ((xg V 16 q0 ||| lbit q0)))))) rfl (fun H locs hP hD hS => ?_)
        refine lv_iinc (v := nI (i + 1)) (lv' := [(5, .int (nI (i + 1))), (3, .long ((xg V 16 q0 ||| lbit q0))), (0, .ref (a 0)), (1, .int (nI p0)), (2, .int (nI q0))]) hx hb dX0_spreadReach_55 hl (k := 0) rfl (ni_inc _) (by decide) rfl (fun ls hl => ?_)
        refine lv_goto (tgt := 15) hx hb dX0_spreadReach_58 (by decide) ?_
        exact ih15 k15 ls H locs (by omega) ⟨i + 1, vp_updL r i (r i ||| (xg V 16 q0 ||| lbit q0)), by omega, by omega, (pu_spread_t (Or.inr c41)).symm.trans h1, hP, hD, hS, (lv_sub hl [0, 1, 2, 3, 4] rfl)⟩
set_option maxHeartbeats 4000000 in
set_option maxRecDepth 100000 in
theorem cx_unit (l : Launch) (G : va_G) (cA : Nat → ClassId) (a : Nat → Nat) (V : XV) (x u0 : Int32) (y z : Int64) (h60 : xnq V ≤ 60) : Met l yX0_unit wsX0_unit { frames := 1, cells := 0, slots := 0, locals := 21 } (mu_Pc G vwC2 (tT cA) (xW cA a V) [.ref (a 0), .int x, .int u0, .long y, .long z]) (mu_Q G vwC2 (xW cA a V) (fun _ => some (.int ((xUnit V x u0 y z).1))) (fun u9 : XV => u9 = (xUnit V x u0 y z).2) (fun u9 => xW cA a u9)) 0 0 (mu_A (xW cA a V)) := by
  refine Met.ofW (cc := cX0_unit) (maxL := 7) (ret := some .int) (by decide) rfl ?_
  intro p e s m args below meth c s₁ B hml hv
  obtain ⟨rfl, hP, hK, hD0⟩ := hv
  have hx := B.exec
  have hb := B.bytes
  have hr := B.returns
  have hts := atoms_spec (ws := wsX0_unit) B.pre
  have hown : s.vm.findClass RX0 = some m.cls := findClass_of_methodNamed B.named
  have hlocks := B.notSynchronized
  have hD := mu_own hD0
  have hS : va_S (mu_A (xW cA a V)) s.heap s.heap [] := va_S.rf
  have hfi : ∀ w ∈ u_ws RX0 TX0 19, w ∈ wsX0_unit := by decide +kernel
  have hl := lv_entry ([.ref (a 0), .int x, .int u0, .long y, .long z]) (n := 7) (Nat.le_of_ble_eq_true rfl)
  rw [lg_entry_eq]
  generalize (lg_sl ([.ref (a 0), .int x, .int u0, .long y, .long z]) ++ List.replicate (7 - (lg_sl ([.ref (a 0), .int x, .int u0, .long y, .long z])).length) Slot.unset).toArray = ls at hl ⊢
  have hl : lv_has ls 7 [(0, .ref (a 0)), (1, .int x), (2, .int u0), (3, .long y), (5, .long z)] := hl
  refine lv_aload_n hx hb dX0_unit_0 rfl (lv_at hl 0 rfl) ?_
  refine lv_iload_n hx hb dX0_unit_1 rfl (lv_at hl 1 rfl) ?_
  refine rd_callV (As := [.int x]) (rest := []) (b := a 0) (q0 := 0) (ci := 0) ⟨hx, hb, hml, hown, hts⟩ (cx_isPort l G cA a V x h60) (cwV 1 hts gX0_unit_X0_isPort rfl rfl rfl (by decide +kernel) ⟨Nat.le_of_ble_eq_true rfl, Nat.le_of_ble_eq_true rfl⟩) hK hP rfl rfl rfl rfl hl.1 rfl (Nat.le_of_ble_eq_true rfl) dX0_unit_2 ⟨Nat.zero_le _, Nat.zero_le _⟩ ?_
  refine bb_ne (tgt := 10) hx hb dX0_unit_5 (by decide) (fun c5 => ?_) (fun c5 => ?_)
  · obtain ⟨p0, hp01, hp02, rfl⟩ := inB_nI (by omega) c5
    refine lv_iload_n hx hb dX0_unit_10 rfl (lv_at hl 2 rfl) ?_
    refine bz_lt (a := u0.toInt) (tgt := 35) hx hb dX0_unit_11 (by decide) rfl (fun c11 => ?_) (fun c11 => ?_)
    · refine lv_bipush (v := -2) hx hb dX0_unit_35 (by decide) ?_
      have hE : xUnit V (nI p0) u0 y z = (-2, V) := by unfold xUnit; rw [if_pos c5, if_neg (fun h => by have h0 := inB_of h.1; omega)]; try rfl
      exact mu_iret (V) hx hb hr hS hP (by rw [hE]) (by rw [hE]) dX0_unit_37 hlocks
    · refine lv_iload_n hx hb dX0_unit_14 rfl (lv_at hl 2 rfl) ?_
      refine lv_bipush (v := 20) hx hb dX0_unit_15 (by decide) ?_
      refine bi_gt (a := u0.toInt) (b := 20) (tgt := 35) hx hb dX0_unit_17 (by decide) rfl (by decide) (fun c17 => ?_) (fun c17 => ?_)
      · refine lv_bipush (v := -2) hx hb dX0_unit_35 (by decide) ?_
        have hE : xUnit V (nI p0) u0 y z = (-2, V) := by unfold xUnit; rw [if_pos c5, if_neg (fun h => by have h0 := inB_of h.1; omega)]; try rfl
        exact mu_iret (V) hx hb hr hS hP (by rw [hE]) (by rw [hE]) dX0_unit_37 hlocks
      · refine lv_lload_n hx hb dX0_unit_20 rfl (lv_at hl 3 rfl) ?_
        refine rd_callS (As := [.long y]) (rest := []) ⟨hx, hb, hml, hown, hts⟩ (cx_isScaling l y) (va_cwS 1 hts gX0_unit_X0_isScaling rfl rfl rfl (by decide +kernel) ⟨Nat.le_of_ble_eq_true rfl, Nat.le_of_ble_eq_true rfl⟩) rfl hl.1 rfl (Nat.le_of_ble_eq_true rfl) dX0_unit_21 ⟨Nat.zero_le _, Nat.zero_le _⟩ ?_
        refine bb_eq (tgt := 35) hx hb dX0_unit_24 (by decide) (fun c24 => ?_) (fun c24 => ?_)
        · refine lv_bipush (v := -2) hx hb dX0_unit_35 (by decide) ?_
          have hE : xUnit V (nI p0) u0 y z = (-2, V) := by unfold xUnit; rw [if_pos c5, if_neg (fun h => by rw [c24] at h; exact absurd h.2.1 (by decide))]; try rfl
          exact mu_iret (V) hx hb hr hS hP (by rw [hE]) (by rw [hE]) dX0_unit_37 hlocks
        · refine lv_lload hx hb dX0_unit_27 (lv_at hl 4 rfl) ?_
          refine rd_callS (As := [.long z]) (rest := []) ⟨hx, hb, hml, hown, hts⟩ (cx_isScaling l z) (va_cwS 1 hts gX0_unit_X0_isScaling rfl rfl rfl (by decide +kernel) ⟨Nat.le_of_ble_eq_true rfl, Nat.le_of_ble_eq_true rfl⟩) rfl hl.1 rfl (Nat.le_of_ble_eq_true rfl) dX0_unit_29 ⟨Nat.zero_le _, Nat.zero_le _⟩ ?_
          refine bb_ne (tgt := 38) hx hb dX0_unit_32 (by decide) (fun c32 => ?_) (fun c32 => ?_)
          · refine lv_aload_n hx hb dX0_unit_38 rfl (lv_at hl 0 rfl) ?_
            refine va_get (D := G) (ci := 0) (v := .ref (a 8)) (C := RX0) (T := TX0) (N := 19) hx hb hts hfi hown hK hP 0 rfl rfl 8 (by decide) (hts (.fieldLink RX0 29 "PortRules" "unitOf" "[I") (by decide +kernel)) (fun _ h9 => h9) rfl dX0_unit_39 ?_
            refine lv_iload_n hx hb dX0_unit_42 rfl (lv_at hl 1 rfl) ?_
            refine lv_iload_n hx hb dX0_unit_43 rfl (lv_at hl 2 rfl) ?_
            refine mu_iast hx hb hK hP hD hS 7 0 rfl rfl (by omega) (by decide) dX0_unit_44 (ws1 := xW cA a (xnp V, xnq V, xap V, xar V, va_up (xf V) 8 (upd (xf V 8) p0 u0), xg V)) rfl (fun H locs hP hD hS => ?_)
            refine lv_aload_n hx hb dX0_unit_45 rfl (lv_at hl 0 rfl) ?_
            refine va_get (D := G) (ci := 0) (v := .ref (a 9)) (C := RX0) (T := TX0) (N := 19) hx hb hts hfi hown hK hP 0 rfl rfl 9 (by decide) (hts (.fieldLink RX0 32 "PortRules" "upOf" "[J") (by decide +kernel)) (fun _ h9 => h9) rfl dX0_unit_46 ?_
            refine lv_iload_n hx hb dX0_unit_49 rfl (lv_at hl 1 rfl) ?_
            refine lv_lload_n hx hb dX0_unit_50 rfl (lv_at hl 3 rfl) ?_
            refine mu_last hx hb hK hP hD hS 8 2 rfl rfl (by omega) (by decide) dX0_unit_51 (ws1 := xW cA a (xnp V, xnq V, xap V, xar V, va_up (xf V) 8 (upd (xf V 8) p0 u0), va_up (xg V) 9 (vp_updL (xg V 9) p0 y))) rfl (fun H locs hP hD hS => ?_)
            refine lv_aload_n hx hb dX0_unit_52 rfl (lv_at hl 0 rfl) ?_
            refine va_get (D := G) (ci := 0) (v := .ref (a 10)) (C := RX0) (T := TX0) (N := 19) hx hb hts hfi hown hK hP 0 rfl rfl 10 (by decide) (hts (.fieldLink RX0 36 "PortRules" "downOf" "[J") (by decide +kernel)) (fun _ h9 => h9) rfl dX0_unit_53 ?_
            refine lv_iload_n hx hb dX0_unit_56 rfl (lv_at hl 1 rfl) ?_
            refine lv_lload hx hb dX0_unit_57 (lv_at hl 4 rfl) ?_
            refine mu_last hx hb hK hP hD hS 9 2 rfl rfl (by omega) (by decide) dX0_unit_59 (ws1 := xW cA a (xnp V, xnq V, xap V, xar V, va_up (xf V) 8 (upd (xf V 8) p0 u0), va_up (va_up (xg V) 9 (vp_updL (xg V 9) p0 y)) 10 (vp_updL (xg V 10) p0 z))) rfl (fun H locs hP hD hS => ?_)
            refine lv_iconst (v := 1) hx hb dX0_unit_60 (by decide) ?_
            have hE : xUnit V (nI p0) u0 y z = (1, (xnp V, xnq V, xap V, xar V, va_up (xf V) 8 (upd (xf V 8) p0 u0), va_up (va_up (xg V) 9 (vp_updL (xg V 9) p0 y)) 10 (vp_updL (xg V 10) p0 z))) := by unfold xUnit; rw [if_pos c5, if_pos ⟨inB_t c11 c17, c24, c32⟩, nI_clamp (by omega)]; try rfl
            exact mu_iret ((xnp V, xnq V, xap V, xar V, va_up (xf V) 8 (upd (xf V 8) p0 u0), va_up (va_up (xg V) 9 (vp_updL (xg V 9) p0 y)) 10 (vp_updL (xg V 10) p0 z))) hx hb hr hS hP (by rw [hE]) (by rw [hE]) dX0_unit_61 hlocks
          · refine lv_bipush (v := -2) hx hb dX0_unit_35 (by decide) ?_
            have hE : xUnit V (nI p0) u0 y z = (-2, V) := by unfold xUnit; rw [if_pos c5, if_neg (fun h => by rw [c32] at h; exact absurd h.2.2 (by decide))]; try rfl
            exact mu_iret (V) hx hb hr hS hP (by rw [hE]) (by rw [hE]) dX0_unit_37 hlocks
  · refine lv_iconst (v := -1) hx hb dX0_unit_8 (by decide) ?_
    have hE : xUnit V x u0 y z = (-1, V) := by unfold xUnit; rw [if_neg (by rw [c5]; decide)]; try rfl
    exact mu_iret (V) hx hb hr hS hP (by rw [hE]) (by rw [hE]) dX0_unit_9 hlocks
set_option maxHeartbeats 4000000 in
set_option maxRecDepth 100000 in
theorem cx_manager (l : Launch) (G : va_G) (cA : Nat → ClassId) (a : Nat → Nat) (V : XV) (k0 x : Int32) (h30 : xnp V ≤ 30) : Met l yX0_manager wsX0_manager { frames := 1, cells := 0, slots := 0, locals := 21 } (mu_Pc G vwC2 (tT cA) (xW cA a V) [.ref (a 0), .int k0, .int x]) (mu_Q G vwC2 (xW cA a V) (fun _ => some (.int ((xMan V k0 x).1))) (fun u9 : XV => u9 = (xMan V k0 x).2) (fun u9 => xW cA a u9)) 0 0 (mu_A (xW cA a V)) := by
  refine Met.ofW (cc := cX0_manager) (maxL := 3) (ret := some .int) (by decide) rfl ?_
  intro p e s m args below meth c s₁ B hml hv
  obtain ⟨rfl, hP, hK, hD0⟩ := hv
  have hx := B.exec
  have hb := B.bytes
  have hr := B.returns
  have hts := atoms_spec (ws := wsX0_manager) B.pre
  have hown : s.vm.findClass RX0 = some m.cls := findClass_of_methodNamed B.named
  have hlocks := B.notSynchronized
  have hD := mu_own hD0
  have hS : va_S (mu_A (xW cA a V)) s.heap s.heap [] := va_S.rf
  have hfi : ∀ w ∈ u_ws RX0 TX0 19, w ∈ wsX0_manager := by decide +kernel
  have hl := lv_entry ([.ref (a 0), .int k0, .int x]) (n := 3) (Nat.le_of_ble_eq_true rfl)
  rw [lg_entry_eq]
  generalize (lg_sl ([.ref (a 0), .int k0, .int x]) ++ List.replicate (3 - (lg_sl ([.ref (a 0), .int k0, .int x])).length) Slot.unset).toArray = ls at hl ⊢
  have hl : lv_has ls 3 [(0, .ref (a 0)), (1, .int k0), (2, .int x)] := hl
  refine lv_aload_n hx hb dX0_manager_0 rfl (lv_at hl 0 rfl) ?_
  refine lv_iload_n hx hb dX0_manager_1 rfl (lv_at hl 2 rfl) ?_
  refine rd_callV (As := [.int x]) (rest := []) (b := a 0) (q0 := 0) (ci := 0) ⟨hx, hb, hml, hown, hts⟩ (cx_isPart l G cA a V x h30) (cwV 1 hts gX0_manager_X0_isPart rfl rfl rfl (by decide +kernel) ⟨Nat.le_of_ble_eq_true rfl, Nat.le_of_ble_eq_true rfl⟩) hK hP rfl rfl rfl rfl hl.1 rfl (Nat.le_of_ble_eq_true rfl) dX0_manager_2 ⟨Nat.zero_le _, Nat.zero_le _⟩ ?_
  refine bb_ne (tgt := 10) hx hb dX0_manager_5 (by decide) (fun c5 => ?_) (fun c5 => ?_)
  · obtain ⟨p0, hp01, hp02, rfl⟩ := inB_nI (by omega) c5
    refine lv_iload_n hx hb dX0_manager_10 rfl (lv_at hl 1 rfl) ?_
    refine bz_lt (a := k0.toInt) (tgt := 20) hx hb dX0_manager_11 (by decide) rfl (fun c11 => ?_) (fun c11 => ?_)
    · refine lv_bipush (v := -2) hx hb dX0_manager_20 (by decide) ?_
      have hE : xMan V k0 (nI p0) = (-2, V) := by unfold xMan; rw [if_pos c5, if_neg (by rw [inB_lo c11]; decide)]; try rfl
      exact mu_iret (V) hx hb hr hS hP (by rw [hE]) (by rw [hE]) dX0_manager_22 hlocks
    · refine lv_iload_n hx hb dX0_manager_14 rfl (lv_at hl 1 rfl) ?_
      refine lv_bipush (v := 10) hx hb dX0_manager_15 (by decide) ?_
      refine bi_lt (a := k0.toInt) (b := 10) (tgt := 23) hx hb dX0_manager_17 (by decide) rfl (by decide) (fun c17 => ?_) (fun c17 => ?_)
      · obtain ⟨k1, hk1, rfl⟩ := ni_pos c11
        rw [nI_toInt hk1] at c17
        refine lv_aload_n hx hb dX0_manager_23 rfl (lv_at hl 0 rfl) ?_
        refine va_get (D := G) (ci := 0) (v := .ref (a 3)) (C := RX0) (T := TX0) (N := 19) hx hb hts hfi hown hK hP 0 rfl rfl 3 (by decide) (hts (.fieldLink RX0 17 "PortRules" "managerOf" "[I") (by decide +kernel)) (fun _ h9 => h9) rfl dX0_manager_24 ?_
        refine lv_iload_n hx hb dX0_manager_27 rfl (lv_at hl 1 rfl) ?_
        refine rd_iald hx hb hK hP 3 0 rfl rfl (by omega) (by decide) dX0_manager_28 ?_
        refine lv_if_eq (tgt := 44) hx hb dX0_manager_29 (by decide) (fun c29 => ?_) (fun c29 => ?_)
        · refine lv_aload_n hx hb dX0_manager_44 rfl (lv_at hl 0 rfl) ?_
          refine va_get (D := G) (ci := 0) (v := .ref (a 3)) (C := RX0) (T := TX0) (N := 19) hx hb hts hfi hown hK hP 0 rfl rfl 3 (by decide) (hts (.fieldLink RX0 17 "PortRules" "managerOf" "[I") (by decide +kernel)) (fun _ h9 => h9) rfl dX0_manager_45 ?_
          refine lv_iload_n hx hb dX0_manager_48 rfl (lv_at hl 1 rfl) ?_
          refine lv_iload_n hx hb dX0_manager_49 rfl (lv_at hl 2 rfl) ?_
          refine mu_iast hx hb hK hP hD hS 3 0 rfl rfl (by omega) (by decide) dX0_manager_50 (ws1 := xW cA a (xnp V, xnq V, xap V, xar V, va_up (xf V) 3 (upd (xf V 3) k1 (nI p0)), xg V)) rfl (fun H locs hP hD hS => ?_)
          refine lv_iconst (v := 1) hx hb dX0_manager_51 (by decide) ?_
          have hE : xMan V (nI k1) (nI p0) = (1, (xnp V, xnq V, xap V, xar V, va_up (xf V) 3 (upd (xf V 3) k1 (nI p0)), xg V)) := by unfold xMan; rw [if_pos c5, if_pos (inB_t c11 (by rw [nI_toInt (by omega)]; omega)), nI_clamp (by omega), if_pos (Or.inl c29)]; try rfl
          exact mu_iret ((xnp V, xnq V, xap V, xar V, va_up (xf V) 3 (upd (xf V 3) k1 (nI p0)), xg V)) hx hb hr hS hP (by rw [hE]) (by rw [hE]) dX0_manager_52 hlocks
        · refine lv_aload_n hx hb dX0_manager_32 rfl (lv_at hl 0 rfl) ?_
          refine va_get (D := G) (ci := 0) (v := .ref (a 3)) (C := RX0) (T := TX0) (N := 19) hx hb hts hfi hown hK hP 0 rfl rfl 3 (by decide) (hts (.fieldLink RX0 17 "PortRules" "managerOf" "[I") (by decide +kernel)) (fun _ h9 => h9) rfl dX0_manager_33 ?_
          refine lv_iload_n hx hb dX0_manager_36 rfl (lv_at hl 1 rfl) ?_
          refine rd_iald hx hb hK hP 3 0 rfl rfl (by omega) (by decide) dX0_manager_37 ?_
          refine lv_iload_n hx hb dX0_manager_38 rfl (lv_at hl 2 rfl) ?_
          refine lv_icmp_eq (tgt := 44) hx hb dX0_manager_39 (by decide) (fun c39 => ?_) (fun c39 => ?_)
          · refine lv_aload_n hx hb dX0_manager_44 rfl (lv_at hl 0 rfl) ?_
            refine va_get (D := G) (ci := 0) (v := .ref (a 3)) (C := RX0) (T := TX0) (N := 19) hx hb hts hfi hown hK hP 0 rfl rfl 3 (by decide) (hts (.fieldLink RX0 17 "PortRules" "managerOf" "[I") (by decide +kernel)) (fun _ h9 => h9) rfl dX0_manager_45 ?_
            refine lv_iload_n hx hb dX0_manager_48 rfl (lv_at hl 1 rfl) ?_
            refine lv_iload_n hx hb dX0_manager_49 rfl (lv_at hl 2 rfl) ?_
            refine mu_iast hx hb hK hP hD hS 3 0 rfl rfl (by omega) (by decide) dX0_manager_50 (ws1 := xW cA a (xnp V, xnq V, xap V, xar V, va_up (xf V) 3 (upd (xf V 3) k1 (nI p0)), xg V)) rfl (fun H locs hP hD hS => ?_)
            refine lv_iconst (v := 1) hx hb dX0_manager_51 (by decide) ?_
            have hE : xMan V (nI k1) (nI p0) = (1, (xnp V, xnq V, xap V, xar V, va_up (xf V) 3 (upd (xf V 3) k1 (nI p0)), xg V)) := by unfold xMan; rw [if_pos c5, if_pos (inB_t c11 (by rw [nI_toInt (by omega)]; omega)), nI_clamp (by omega), if_pos (Or.inr c39)]; try rfl
            exact mu_iret ((xnp V, xnq V, xap V, xar V, va_up (xf V) 3 (upd (xf V 3) k1 (nI p0)), xg V)) hx hb hr hS hP (by rw [hE]) (by rw [hE]) dX0_manager_52 hlocks
          · refine lv_iconst (v := 0) hx hb dX0_manager_42 (by decide) ?_
            have hE : xMan V (nI k1) (nI p0) = (0, V) := by unfold xMan; rw [if_pos c5, if_pos (inB_t c11 (by rw [nI_toInt (by omega)]; omega)), nI_clamp (by omega), if_neg (fun h => h.elim c29 c39)]; try rfl
            exact mu_iret (V) hx hb hr hS hP (by rw [hE]) (by rw [hE]) dX0_manager_43 hlocks
      · refine lv_bipush (v := -2) hx hb dX0_manager_20 (by decide) ?_
        have hE : xMan V k0 (nI p0) = (-2, V) := by unfold xMan; rw [if_pos c5, if_neg (by rw [inB_hi (by omega)]; decide)]; try rfl
        exact mu_iret (V) hx hb hr hS hP (by rw [hE]) (by rw [hE]) dX0_manager_22 hlocks
  · refine lv_iconst (v := -1) hx hb dX0_manager_8 (by decide) ?_
    have hE : xMan V k0 x = (-1, V) := by unfold xMan; rw [if_neg (by rw [c5]; decide)]; try rfl
    exact mu_iret (V) hx hb hr hS hP (by rw [hE]) (by rw [hE]) dX0_manager_9 hlocks
set_option maxHeartbeats 4000000 in
set_option maxRecDepth 100000 in
theorem cx_fallback (l : Launch) (G : va_G) (cA : Nat → ClassId) (a : Nat → Nat) (V : XV) (x v0 : Int32) (h60 : xnq V ≤ 60) : Met l yX0_fallback wsX0_fallback { frames := 1, cells := 0, slots := 0, locals := 21 } (mu_Pc G vwC2 (tT cA) (xW cA a V) [.ref (a 0), .int x, .int v0]) (mu_Q G vwC2 (xW cA a V) (fun _ => some (.int ((xFall V x v0).1))) (fun u9 : XV => u9 = (xFall V x v0).2) (fun u9 => xW cA a u9)) 0 0 (mu_A (xW cA a V)) := by
  refine Met.ofW (cc := cX0_fallback) (maxL := 4) (ret := some .int) (by decide) rfl ?_
  intro p e s m args below meth c s₁ B hml hv
  obtain ⟨rfl, hP, hK, hD0⟩ := hv
  have hx := B.exec
  have hb := B.bytes
  have hr := B.returns
  have hts := atoms_spec (ws := wsX0_fallback) B.pre
  have hown : s.vm.findClass RX0 = some m.cls := findClass_of_methodNamed B.named
  have hlocks := B.notSynchronized
  have hD := mu_own hD0
  have hS : va_S (mu_A (xW cA a V)) s.heap s.heap [] := va_S.rf
  have hfi : ∀ w ∈ u_ws RX0 TX0 19, w ∈ wsX0_fallback := by decide +kernel
  have hl := lv_entry ([.ref (a 0), .int x, .int v0]) (n := 4) (Nat.le_of_ble_eq_true rfl)
  rw [lg_entry_eq]
  generalize (lg_sl ([.ref (a 0), .int x, .int v0]) ++ List.replicate (4 - (lg_sl ([.ref (a 0), .int x, .int v0])).length) Slot.unset).toArray = ls at hl ⊢
  have hl : lv_has ls 4 [(0, .ref (a 0)), (1, .int x), (2, .int v0)] := hl
  refine lv_aload_n hx hb dX0_fallback_0 rfl (lv_at hl 0 rfl) ?_
  refine lv_iload_n hx hb dX0_fallback_1 rfl (lv_at hl 1 rfl) ?_
  refine rd_callV (As := [.int x]) (rest := []) (b := a 0) (q0 := 0) (ci := 0) ⟨hx, hb, hml, hown, hts⟩ (cx_isPort l G cA a V x h60) (cwV 1 hts gX0_fallback_X0_isPort rfl rfl rfl (by decide +kernel) ⟨Nat.le_of_ble_eq_true rfl, Nat.le_of_ble_eq_true rfl⟩) hK hP rfl rfl rfl rfl hl.1 rfl (Nat.le_of_ble_eq_true rfl) dX0_fallback_2 ⟨Nat.zero_le _, Nat.zero_le _⟩ ?_
  refine bb_ne (tgt := 10) hx hb dX0_fallback_5 (by decide) (fun c5 => ?_) (fun c5 => ?_)
  · obtain ⟨p0, hp01, hp02, rfl⟩ := inB_nI (by omega) c5
    refine lv_aload_n hx hb dX0_fallback_10 rfl (lv_at hl 0 rfl) ?_
    refine va_get (D := G) (ci := 0) (v := .ref (a 7)) (C := RX0) (T := TX0) (N := 19) hx hb hts hfi hown hK hP 0 rfl rfl 7 (by decide) (hts (.fieldLink RX0 26 "PortRules" "isProvided" "[Z") (by decide +kernel)) (fun _ h9 => h9) rfl dX0_fallback_11 ?_
    refine lv_iload_n hx hb dX0_fallback_14 rfl (lv_at hl 1 rfl) ?_
    refine rd_zald hx hb hK hP 6 1 rfl rfl (by omega) (by decide) dX0_fallback_15 ?_
    refine lv_if_eq (tgt := 22) hx hb dX0_fallback_16 (by decide) (fun c16 => ?_) (fun c16 => ?_)
    · refine lv_aload_n hx hb dX0_fallback_22 rfl (lv_at hl 0 rfl) ?_
      refine va_get (D := G) (ci := 0) (v := .ref (a 13)) (C := RX0) (T := TX0) (N := 19) hx hb hts hfi hown hK hP 0 rfl rfl 13 (by decide) (hts (.fieldLink RX0 45 "PortRules" "fallbackOf" "[I") (by decide +kernel)) (fun _ h9 => h9) rfl dX0_fallback_23 ?_
      refine lv_iload_n hx hb dX0_fallback_26 rfl (lv_at hl 1 rfl) ?_
      refine rd_iald hx hb hK hP 12 0 rfl rfl (by omega) (by decide) dX0_fallback_27 ?_
      refine lv_istore_n (lv' := [(3, .int (xf V 13 p0)), (0, .ref (a 0)), (1, .int (nI p0)), (2, .int v0)]) hx hb dX0_fallback_28 rfl hl (by decide) rfl (fun ls hl => ?_)
      refine lv_aload_n hx hb dX0_fallback_29 rfl (lv_at hl 1 rfl) ?_
      refine va_get (D := G) (ci := 0) (v := .ref (a 12)) (C := RX0) (T := TX0) (N := 19) hx hb hts hfi hown hK hP 0 rfl rfl 12 (by decide) (hts (.fieldLink RX0 42 "PortRules" "hasFallback" "[Z") (by decide +kernel)) (fun _ h9 => h9) rfl dX0_fallback_30 ?_
      refine lv_iload_n hx hb dX0_fallback_33 rfl (lv_at hl 2 rfl) ?_
      refine lv_iconst (v := 1) hx hb dX0_fallback_34 (by decide) ?_
      refine mu_zast hx hb hK hP hD hS 11 1 rfl rfl (by omega) (by decide) rfl dX0_fallback_35 (ws1 := xW cA a (xnp V, xnq V, xap V, xar V, va_up (xf V) 12 (upd (xf V 12) p0 1), xg V)) rfl (fun H locs hP hD hS => ?_)
      refine lv_aload_n hx hb dX0_fallback_36 rfl (lv_at hl 1 rfl) ?_
      refine va_get (D := G) (ci := 0) (v := .ref (a 13)) (C := RX0) (T := TX0) (N := 19) hx hb hts hfi hown hK hP 0 rfl rfl 13 (by decide) (hts (.fieldLink RX0 45 "PortRules" "fallbackOf" "[I") (by decide +kernel)) (fun _ h9 => h9) rfl dX0_fallback_37 ?_
      refine lv_iload_n hx hb dX0_fallback_40 rfl (lv_at hl 2 rfl) ?_
      refine lv_iload_n hx hb dX0_fallback_41 rfl (lv_at hl 3 rfl) ?_
      refine mu_iast hx hb hK hP hD hS 12 0 rfl rfl (by omega) (by decide) dX0_fallback_42 (ws1 := xW cA a (xnp V, xnq V, xap V, xar V, va_up (va_up (xf V) 12 (upd (xf V 12) p0 1)) 13 (upd (xf V 13) p0 v0), xg V)) rfl (fun H locs hP hD hS => ?_)
      refine lv_iload_n hx hb dX0_fallback_43 rfl (lv_at hl 0 rfl) ?_
      have hE : xFall V (nI p0) v0 = (xf V 13 p0, (xnp V, xnq V, xap V, xar V, va_up (va_up (xf V) 12 (upd (xf V 12) p0 1)) 13 (upd (xf V 13) p0 v0), xg V)) := by unfold xFall; rw [if_pos c5, nI_clamp (by omega), if_pos c16]; try rfl
      exact mu_iret ((xnp V, xnq V, xap V, xar V, va_up (va_up (xf V) 12 (upd (xf V 12) p0 1)) 13 (upd (xf V 13) p0 v0), xg V)) hx hb hr hS hP (by rw [hE]) (by rw [hE]) dX0_fallback_44 hlocks
    · refine lv_bipush (v := -3) hx hb dX0_fallback_19 (by decide) ?_
      have hE : xFall V (nI p0) v0 = (-3, V) := by unfold xFall; rw [if_pos c5, nI_clamp (by omega), if_neg c16]; try rfl
      exact mu_iret (V) hx hb hr hS hP (by rw [hE]) (by rw [hE]) dX0_fallback_21 hlocks
  · refine lv_iconst (v := -1) hx hb dX0_fallback_8 (by decide) ?_
    have hE : xFall V x v0 = (-1, V) := by unfold xFall; rw [if_neg (by rw [c5]; decide)]; try rfl
    exact mu_iret (V) hx hb hr hS hP (by rw [hE]) (by rw [hE]) dX0_fallback_9 hlocks
set_option maxHeartbeats 4000000 in
set_option maxRecDepth 100000 in
theorem cx_queue (l : Launch) (G : va_G) (cA : Nat → ClassId) (a : Nat → Nat) (V : XV) (x n0 : Int32) (h60 : xnq V ≤ 60) : Met l yX0_queue wsX0_queue { frames := 1, cells := 0, slots := 0, locals := 21 } (mu_Pc G vwC2 (tT cA) (xW cA a V) [.ref (a 0), .int x, .int n0]) (mu_Q G vwC2 (xW cA a V) (fun _ => some (.int ((xQue V x n0).1))) (fun u9 : XV => u9 = (xQue V x n0).2) (fun u9 => xW cA a u9)) 0 0 (mu_A (xW cA a V)) := by
  refine Met.ofW (cc := cX0_queue) (maxL := 3) (ret := some .int) (by decide) rfl ?_
  intro p e s m args below meth c s₁ B hml hv
  obtain ⟨rfl, hP, hK, hD0⟩ := hv
  have hx := B.exec
  have hb := B.bytes
  have hr := B.returns
  have hts := atoms_spec (ws := wsX0_queue) B.pre
  have hown : s.vm.findClass RX0 = some m.cls := findClass_of_methodNamed B.named
  have hlocks := B.notSynchronized
  have hD := mu_own hD0
  have hS : va_S (mu_A (xW cA a V)) s.heap s.heap [] := va_S.rf
  have hfi : ∀ w ∈ u_ws RX0 TX0 19, w ∈ wsX0_queue := by decide +kernel
  have hl := lv_entry ([.ref (a 0), .int x, .int n0]) (n := 3) (Nat.le_of_ble_eq_true rfl)
  rw [lg_entry_eq]
  generalize (lg_sl ([.ref (a 0), .int x, .int n0]) ++ List.replicate (3 - (lg_sl ([.ref (a 0), .int x, .int n0])).length) Slot.unset).toArray = ls at hl ⊢
  have hl : lv_has ls 3 [(0, .ref (a 0)), (1, .int x), (2, .int n0)] := hl
  refine lv_aload_n hx hb dX0_queue_0 rfl (lv_at hl 0 rfl) ?_
  refine lv_iload_n hx hb dX0_queue_1 rfl (lv_at hl 1 rfl) ?_
  refine rd_callV (As := [.int x]) (rest := []) (b := a 0) (q0 := 0) (ci := 0) ⟨hx, hb, hml, hown, hts⟩ (cx_isPort l G cA a V x h60) (cwV 1 hts gX0_queue_X0_isPort rfl rfl rfl (by decide +kernel) ⟨Nat.le_of_ble_eq_true rfl, Nat.le_of_ble_eq_true rfl⟩) hK hP rfl rfl rfl rfl hl.1 rfl (Nat.le_of_ble_eq_true rfl) dX0_queue_2 ⟨Nat.zero_le _, Nat.zero_le _⟩ ?_
  refine bb_ne (tgt := 10) hx hb dX0_queue_5 (by decide) (fun c5 => ?_) (fun c5 => ?_)
  · obtain ⟨p0, hp01, hp02, rfl⟩ := inB_nI (by omega) c5
    refine lv_iload_n hx hb dX0_queue_10 rfl (lv_at hl 2 rfl) ?_
    refine lv_iconst (v := 1) hx hb dX0_queue_11 (by decide) ?_
    refine bi_lt (a := n0.toInt) (b := 1) (tgt := 21) hx hb dX0_queue_12 (by decide) rfl (by decide) (fun c12 => ?_) (fun c12 => ?_)
    · refine lv_bipush (v := -2) hx hb dX0_queue_21 (by decide) ?_
      have hE : xQue V (nI p0) n0 = (-2, V) := by unfold xQue; rw [if_pos c5, if_neg (by rw [inB_lo c12]; decide)]; try rfl
      exact mu_iret (V) hx hb hr hS hP (by rw [hE]) (by rw [hE]) dX0_queue_23 hlocks
    · refine lv_iload_n hx hb dX0_queue_15 rfl (lv_at hl 2 rfl) ?_
      refine lv_bipush (v := 100) hx hb dX0_queue_16 (by decide) ?_
      refine bi_le (a := n0.toInt) (b := 100) (tgt := 24) hx hb dX0_queue_18 (by decide) rfl (by decide) (fun c18 => ?_) (fun c18 => ?_)
      · refine lv_aload_n hx hb dX0_queue_24 rfl (lv_at hl 0 rfl) ?_
        refine va_get (D := G) (ci := 0) (v := .ref (a 6)) (C := RX0) (T := TX0) (N := 19) hx hb hts hfi hown hK hP 0 rfl rfl 6 (by decide) (hts (.fieldLink RX0 23 "PortRules" "kindOf" "[I") (by decide +kernel)) (fun _ h9 => h9) rfl dX0_queue_25 ?_
        refine lv_iload_n hx hb dX0_queue_28 rfl (lv_at hl 1 rfl) ?_
        refine rd_iald hx hb hK hP 5 0 rfl rfl (by omega) (by decide) dX0_queue_29 ?_
        refine lv_iconst (v := 1) hx hb dX0_queue_30 (by decide) ?_
        refine lv_icmp_eq (tgt := 37) hx hb dX0_queue_31 (by decide) (fun c31 => ?_) (fun c31 => ?_)
        · refine lv_aload_n hx hb dX0_queue_37 rfl (lv_at hl 0 rfl) ?_
          refine va_get (D := G) (ci := 0) (v := .ref (a 14)) (C := RX0) (T := TX0) (N := 19) hx hb hts hfi hown hK hP 0 rfl rfl 14 (by decide) (hts (.fieldLink RX0 48 "PortRules" "queueOf" "[I") (by decide +kernel)) (fun _ h9 => h9) rfl dX0_queue_38 ?_
          refine lv_iload_n hx hb dX0_queue_41 rfl (lv_at hl 1 rfl) ?_
          refine lv_iload_n hx hb dX0_queue_42 rfl (lv_at hl 2 rfl) ?_
          refine mu_iast hx hb hK hP hD hS 13 0 rfl rfl (by omega) (by decide) dX0_queue_43 (ws1 := xW cA a (xnp V, xnq V, xap V, xar V, va_up (xf V) 14 (upd (xf V 14) p0 n0), xg V)) rfl (fun H locs hP hD hS => ?_)
          refine lv_iconst (v := 1) hx hb dX0_queue_44 (by decide) ?_
          have hE : xQue V (nI p0) n0 = (1, (xnp V, xnq V, xap V, xar V, va_up (xf V) 14 (upd (xf V 14) p0 n0), xg V)) := by unfold xQue; rw [if_pos c5, if_pos (inB_t c12 c18), nI_clamp (by omega), if_pos c31]; try rfl
          exact mu_iret ((xnp V, xnq V, xap V, xar V, va_up (xf V) 14 (upd (xf V 14) p0 n0), xg V)) hx hb hr hS hP (by rw [hE]) (by rw [hE]) dX0_queue_45 hlocks
        · refine lv_bipush (v := -3) hx hb dX0_queue_34 (by decide) ?_
          have hE : xQue V (nI p0) n0 = (-3, V) := by unfold xQue; rw [if_pos c5, if_pos (inB_t c12 c18), nI_clamp (by omega), if_neg c31]; try rfl
          exact mu_iret (V) hx hb hr hS hP (by rw [hE]) (by rw [hE]) dX0_queue_36 hlocks
      · refine lv_bipush (v := -2) hx hb dX0_queue_21 (by decide) ?_
        have hE : xQue V (nI p0) n0 = (-2, V) := by unfold xQue; rw [if_pos c5, if_neg (by rw [inB_hi c18]; decide)]; try rfl
        exact mu_iret (V) hx hb hr hS hP (by rw [hE]) (by rw [hE]) dX0_queue_23 hlocks
  · refine lv_iconst (v := -1) hx hb dX0_queue_8 (by decide) ?_
    have hE : xQue V x n0 = (-1, V) := by unfold xQue; rw [if_neg (by rw [c5]; decide)]; try rfl
    exact mu_iret (V) hx hb hr hS hP (by rw [hE]) (by rw [hE]) dX0_queue_9 hlocks
set_option maxHeartbeats 4000000 in
set_option maxRecDepth 100000 in
theorem cx_version (l : Launch) (G : va_G) (cA : Nat → ClassId) (a : Nat → Nat) (V : XV) (x v0 : Int32) (h60 : xnq V ≤ 60) : Met l yX0_version wsX0_version { frames := 1, cells := 0, slots := 0, locals := 21 } (mu_Pc G vwC2 (tT cA) (xW cA a V) [.ref (a 0), .int x, .int v0]) (mu_Q G vwC2 (xW cA a V) (fun _ => some (.int ((xVer V x v0).1))) (fun u9 : XV => u9 = (xVer V x v0).2) (fun u9 => xW cA a u9)) 0 0 (mu_A (xW cA a V)) := by
  refine Met.ofW (cc := cX0_version) (maxL := 3) (ret := some .int) (by decide) rfl ?_
  intro p e s m args below meth c s₁ B hml hv
  obtain ⟨rfl, hP, hK, hD0⟩ := hv
  have hx := B.exec
  have hb := B.bytes
  have hr := B.returns
  have hts := atoms_spec (ws := wsX0_version) B.pre
  have hown : s.vm.findClass RX0 = some m.cls := findClass_of_methodNamed B.named
  have hlocks := B.notSynchronized
  have hD := mu_own hD0
  have hS : va_S (mu_A (xW cA a V)) s.heap s.heap [] := va_S.rf
  have hfi : ∀ w ∈ u_ws RX0 TX0 19, w ∈ wsX0_version := by decide +kernel
  have hl := lv_entry ([.ref (a 0), .int x, .int v0]) (n := 3) (Nat.le_of_ble_eq_true rfl)
  rw [lg_entry_eq]
  generalize (lg_sl ([.ref (a 0), .int x, .int v0]) ++ List.replicate (3 - (lg_sl ([.ref (a 0), .int x, .int v0])).length) Slot.unset).toArray = ls at hl ⊢
  have hl : lv_has ls 3 [(0, .ref (a 0)), (1, .int x), (2, .int v0)] := hl
  refine lv_aload_n hx hb dX0_version_0 rfl (lv_at hl 0 rfl) ?_
  refine lv_iload_n hx hb dX0_version_1 rfl (lv_at hl 1 rfl) ?_
  refine rd_callV (As := [.int x]) (rest := []) (b := a 0) (q0 := 0) (ci := 0) ⟨hx, hb, hml, hown, hts⟩ (cx_isPort l G cA a V x h60) (cwV 1 hts gX0_version_X0_isPort rfl rfl rfl (by decide +kernel) ⟨Nat.le_of_ble_eq_true rfl, Nat.le_of_ble_eq_true rfl⟩) hK hP rfl rfl rfl rfl hl.1 rfl (Nat.le_of_ble_eq_true rfl) dX0_version_2 ⟨Nat.zero_le _, Nat.zero_le _⟩ ?_
  refine bb_ne (tgt := 10) hx hb dX0_version_5 (by decide) (fun c5 => ?_) (fun c5 => ?_)
  · obtain ⟨p0, hp01, hp02, rfl⟩ := inB_nI (by omega) c5
    refine lv_iload_n hx hb dX0_version_10 rfl (lv_at hl 2 rfl) ?_
    refine bz_lt (a := v0.toInt) (tgt := 21) hx hb dX0_version_11 (by decide) rfl (fun c11 => ?_) (fun c11 => ?_)
    · refine lv_bipush (v := -2) hx hb dX0_version_21 (by decide) ?_
      have hE : xVer V (nI p0) v0 = (-2, V) := by unfold xVer; rw [if_pos c5, if_neg (by rw [inB_lo c11]; decide)]; try rfl
      exact mu_iret (V) hx hb hr hS hP (by rw [hE]) (by rw [hE]) dX0_version_23 hlocks
    · refine lv_iload_n hx hb dX0_version_14 rfl (lv_at hl 2 rfl) ?_
      refine lv_sipush (v := 9999) hx hb dX0_version_15 (by decide) ?_
      refine bi_le (a := v0.toInt) (b := 9999) (tgt := 24) hx hb dX0_version_18 (by decide) rfl (by decide) (fun c18 => ?_) (fun c18 => ?_)
      · refine lv_aload_n hx hb dX0_version_24 rfl (lv_at hl 0 rfl) ?_
        refine va_get (D := G) (ci := 0) (v := .ref (a 11)) (C := RX0) (T := TX0) (N := 19) hx hb hts hfi hown hK hP 0 rfl rfl 11 (by decide) (hts (.fieldLink RX0 39 "PortRules" "versionOf" "[I") (by decide +kernel)) (fun _ h9 => h9) rfl dX0_version_25 ?_
        refine lv_iload_n hx hb dX0_version_28 rfl (lv_at hl 1 rfl) ?_
        refine lv_iload_n hx hb dX0_version_29 rfl (lv_at hl 2 rfl) ?_
        refine mu_iast hx hb hK hP hD hS 10 0 rfl rfl (by omega) (by decide) dX0_version_30 (ws1 := xW cA a (xnp V, xnq V, xap V, xar V, va_up (xf V) 11 (upd (xf V 11) p0 v0), xg V)) rfl (fun H locs hP hD hS => ?_)
        refine lv_iconst (v := 1) hx hb dX0_version_31 (by decide) ?_
        have hE : xVer V (nI p0) v0 = (1, (xnp V, xnq V, xap V, xar V, va_up (xf V) 11 (upd (xf V 11) p0 v0), xg V)) := by unfold xVer; rw [if_pos c5, if_pos (inB_t c11 c18), nI_clamp (by omega)]; try rfl
        exact mu_iret ((xnp V, xnq V, xap V, xar V, va_up (xf V) 11 (upd (xf V 11) p0 v0), xg V)) hx hb hr hS hP (by rw [hE]) (by rw [hE]) dX0_version_32 hlocks
      · refine lv_bipush (v := -2) hx hb dX0_version_21 (by decide) ?_
        have hE : xVer V (nI p0) v0 = (-2, V) := by unfold xVer; rw [if_pos c5, if_neg (by rw [inB_hi c18]; decide)]; try rfl
        exact mu_iret (V) hx hb hr hS hP (by rw [hE]) (by rw [hE]) dX0_version_23 hlocks
  · refine lv_iconst (v := -1) hx hb dX0_version_8 (by decide) ?_
    have hE : xVer V x v0 = (-1, V) := by unfold xVer; rw [if_neg (by rw [c5]; decide)]; try rfl
    exact mu_iret (V) hx hb hr hS hP (by rw [hE]) (by rw [hE]) dX0_version_9 hlocks
set_option maxHeartbeats 4000000 in
set_option maxRecDepth 100000 in
theorem cx_connect (l : Launch) (G : va_G) (cA : Nat → ClassId) (a : Nat → Nat) (V : XV) (x y : Int32) (hok : xOK V) : Met l yX0_connect wsX0_connect { frames := 3, cells := 0, slots := 0, locals := 67 } (mu_Pc G vwC2 (tT cA) (xW cA a V) [.ref (a 0), .int x, .int y]) (mu_Q G vwC2 (xW cA a V) (fun _ => some (.int ((xConn V x y).1))) (fun u9 : XV => u9 = (xConn V x y).2) (fun u9 => xW cA a u9)) 0 0 (mu_A (xW cA a V)) := by
  refine Met.ofW (cc := cX0_connect) (maxL := 3) (ret := some .int) (by decide) rfl ?_
  intro p e s m args below meth c s₁ B hml hv
  obtain ⟨rfl, hP, hK, hD0⟩ := hv
  have hx := B.exec
  have hb := B.bytes
  have hr := B.returns
  have hts := atoms_spec (ws := wsX0_connect) B.pre
  have hown : s.vm.findClass RX0 = some m.cls := findClass_of_methodNamed B.named
  have hlocks := B.notSynchronized
  have hD := mu_own hD0
  have hS : va_S (mu_A (xW cA a V)) s.heap s.heap [] := va_S.rf
  have hfi : ∀ w ∈ u_ws RX0 TX0 19, w ∈ wsX0_connect := by decide +kernel
  have hl := lv_entry ([.ref (a 0), .int x, .int y]) (n := 3) (Nat.le_of_ble_eq_true rfl)
  rw [lg_entry_eq]
  generalize (lg_sl ([.ref (a 0), .int x, .int y]) ++ List.replicate (3 - (lg_sl ([.ref (a 0), .int x, .int y])).length) Slot.unset).toArray = ls at hl ⊢
  have hl : lv_has ls 3 [(0, .ref (a 0)), (1, .int x), (2, .int y)] := hl
  have h60 : xnq V ≤ 60 := hok.2.1
  have h30 : xnp V ≤ 30 := hok.1
  refine lv_aload_n hx hb dX0_connect_0 rfl (lv_at hl 0 rfl) ?_
  refine lv_iload_n hx hb dX0_connect_1 rfl (lv_at hl 1 rfl) ?_
  refine rd_callV (As := [.int x]) (rest := []) (b := a 0) (q0 := 0) (ci := 0) ⟨hx, hb, hml, hown, hts⟩ (cx_isPort l G cA a V x h60) (cwV 1 hts gX0_connect_X0_isPort rfl rfl rfl (by decide +kernel) ⟨Nat.le_of_ble_eq_true rfl, Nat.le_of_ble_eq_true rfl⟩) hK hP rfl rfl rfl rfl hl.1 rfl (Nat.le_of_ble_eq_true rfl) dX0_connect_2 ⟨Nat.zero_le _, Nat.zero_le _⟩ ?_
  refine bb_eq (tgt := 16) hx hb dX0_connect_5 (by decide) (fun c5 => ?_) (fun c5 => ?_)
  · refine lv_iconst (v := -1) hx hb dX0_connect_16 (by decide) ?_
    have hE : xConn V x y = (-1, V) := by unfold xConn; rw [if_neg (fun h => by rw [c5] at h; exact absurd h.1 (by decide))]; try rfl
    exact mu_iret (V) hx hb hr hS hP (by rw [hE]) (by rw [hE]) dX0_connect_17 hlocks
  · obtain ⟨p0, hp01, hp02, rfl⟩ := inB_nI (by omega) c5
    refine lv_aload_n hx hb dX0_connect_8 rfl (lv_at hl 0 rfl) ?_
    refine lv_iload_n hx hb dX0_connect_9 rfl (lv_at hl 2 rfl) ?_
    refine rd_callV (As := [.int y]) (rest := []) (b := a 0) (q0 := 0) (ci := 0) ⟨hx, hb, hml, hown, hts⟩ (cx_isPort l G cA a V y h60) (cwV 1 hts gX0_connect_X0_isPort rfl rfl rfl (by decide +kernel) ⟨Nat.le_of_ble_eq_true rfl, Nat.le_of_ble_eq_true rfl⟩) hK hP rfl rfl rfl rfl hl.1 rfl (Nat.le_of_ble_eq_true rfl) dX0_connect_10 ⟨Nat.zero_le _, Nat.zero_le _⟩ ?_
    refine bb_ne (tgt := 18) hx hb dX0_connect_13 (by decide) (fun c13 => ?_) (fun c13 => ?_)
    · obtain ⟨q0, hq01, hq02, rfl⟩ := inB_nI (by omega) c13
      obtain ⟨u, hu1, hu2, eu⟩ := hok.2.2.1 p0 hp01 hp02
      obtain ⟨v, hv1, hv2, ev⟩ := hok.2.2.1 q0 hq01 hq02
      refine lv_aload_n hx hb dX0_connect_18 rfl (lv_at hl 0 rfl) ?_
      refine va_get (D := G) (ci := 0) (v := .ref (a 6)) (C := RX0) (T := TX0) (N := 19) hx hb hts hfi hown hK hP 0 rfl rfl 6 (by decide) (hts (.fieldLink RX0 23 "PortRules" "kindOf" "[I") (by decide +kernel)) (fun _ h9 => h9) rfl dX0_connect_19 ?_
      refine lv_iload_n hx hb dX0_connect_22 rfl (lv_at hl 1 rfl) ?_
      refine rd_iald hx hb hK hP 5 0 rfl rfl (by omega) (by decide) dX0_connect_23 ?_
      refine lv_aload_n hx hb dX0_connect_24 rfl (lv_at hl 0 rfl) ?_
      refine va_get (D := G) (ci := 0) (v := .ref (a 6)) (C := RX0) (T := TX0) (N := 19) hx hb hts hfi hown hK hP 0 rfl rfl 6 (by decide) (hts (.fieldLink RX0 23 "PortRules" "kindOf" "[I") (by decide +kernel)) (fun _ h9 => h9) rfl dX0_connect_25 ?_
      refine lv_iload_n hx hb dX0_connect_28 rfl (lv_at hl 2 rfl) ?_
      refine rd_iald hx hb hK hP 5 0 rfl rfl (by omega) (by decide) dX0_connect_29 ?_
      refine lv_icmp_ne (tgt := 42) hx hb dX0_connect_30 (by decide) (fun c30 => ?_) (fun c30 => ?_)
      · refine lv_bipush (v := -2) hx hb dX0_connect_42 (by decide) ?_
        have hE : xConn V (nI p0) (nI q0) = (-2, V) := by unfold xConn; rw [if_pos ⟨c5, c13⟩, nI_clamp (show p0 < 2 ^ 31 by omega), nI_clamp (show q0 < 2 ^ 31 by omega), eu, ev, nI_clamp (show u < 2 ^ 31 by omega), nI_clamp (show v < 2 ^ 31 by omega), if_neg (fun h => c30 h.1)]; try rfl
        exact mu_iret (V) hx hb hr hS hP (by rw [hE]) (by rw [hE]) dX0_connect_44 hlocks
      · refine lv_aload_n hx hb dX0_connect_33 rfl (lv_at hl 0 rfl) ?_
        refine lv_iload_n hx hb dX0_connect_34 rfl (lv_at hl 1 rfl) ?_
        refine lv_iload_n hx hb dX0_connect_35 rfl (lv_at hl 2 rfl) ?_
        refine rd_callV (As := [.int (nI p0), .int (nI q0)]) (rest := []) (b := a 0) (q0 := 0) (ci := 0) ⟨hx, hb, hml, hown, hts⟩ (cx_isWay l G cA a V p0 q0 u v (by omega) (by omega) (by omega) (by omega) eu ev) (cwV 2 hts gX0_connect_X0_isWay rfl rfl rfl (by decide +kernel) ⟨Nat.le_of_ble_eq_true rfl, Nat.le_of_ble_eq_true rfl⟩) hK hP rfl rfl rfl rfl hl.1 rfl (Nat.le_of_ble_eq_true rfl) dX0_connect_36 ⟨Nat.zero_le _, Nat.zero_le _⟩ ?_
        refine bb_ne (tgt := 45) hx hb dX0_connect_39 (by decide) (fun c39 => ?_) (fun c39 => ?_)
        · refine lv_aload_n hx hb dX0_connect_45 rfl (lv_at hl 0 rfl) ?_
          refine va_get (D := G) (ci := 0) (v := .ref (a 15)) (C := RX0) (T := TX0) (N := 19) hx hb hts hfi hown hK hP 0 rfl rfl 15 (by decide) (hts (.fieldLink RX0 51 "PortRules" "connectedTo" "[J") (by decide +kernel)) (fun _ h9 => h9) rfl dX0_connect_46 ?_
          refine lv_iload_n hx hb dX0_connect_49 rfl (lv_at hl 1 rfl) ?_
          refine rd_lald hx hb hK hP 14 2 rfl rfl (by omega) (by decide) dX0_connect_50 ?_
          refine lv_iload_n hx hb dX0_connect_51 rfl (lv_at hl 2 rfl) ?_
          refine rd_callS (As := [.long (xg V 15 p0), .int (nI q0)]) (rest := []) ⟨hx, hb, hml, hown, hts⟩ (cx_holds l (xg V 15 p0) q0 (by omega)) (va_cwS 2 hts gX0_connect_X0_holds rfl rfl rfl (by decide +kernel) ⟨Nat.le_of_ble_eq_true rfl, Nat.le_of_ble_eq_true rfl⟩) rfl hl.1 rfl (Nat.le_of_ble_eq_true rfl) dX0_connect_52 ⟨Nat.zero_le _, Nat.zero_le _⟩ ?_
          refine bb_eq (tgt := 60) hx hb dX0_connect_55 (by decide) (fun c55 => ?_) (fun c55 => ?_)
          · refine lv_aload_n hx hb dX0_connect_60 rfl (lv_at hl 0 rfl) ?_
            refine va_get (D := G) (ci := 0) (v := .ref (a 15)) (C := RX0) (T := TX0) (N := 19) hx hb hts hfi hown hK hP 0 rfl rfl 15 (by decide) (hts (.fieldLink RX0 51 "PortRules" "connectedTo" "[J") (by decide +kernel)) (fun _ h9 => h9) rfl dX0_connect_61 ?_
            refine lv_iload_n hx hb dX0_connect_64 rfl (lv_at hl 1 rfl) ?_
            refine lv_dup2_11 hx hb dX0_connect_65 rfl rfl ?_
            refine rd_lald hx hb hK hP 14 2 rfl rfl (by omega) (by decide) dX0_connect_66 ?_
            refine lv_iload_n hx hb dX0_connect_67 rfl (lv_at hl 2 rfl) ?_
            refine rd_callS (As := [.int (nI q0)]) (rest := [.long (xg V 15 p0), .int (nI p0), .ref (a 15)]) ⟨hx, hb, hml, hown, hts⟩ (cx_bit l q0) (va_cwS 1 hts gX0_connect_X0_bit rfl rfl rfl (by decide +kernel) ⟨Nat.le_of_ble_eq_true rfl, Nat.le_of_ble_eq_true rfl⟩) rfl hl.1 rfl (Nat.le_of_ble_eq_true rfl) dX0_connect_68 ⟨Nat.zero_le _, Nat.zero_le _⟩ ?_
            refine lv_lor hx hb dX0_connect_71 ?_
            refine mu_last hx hb hK hP hD hS 14 2 rfl rfl (by omega) (by decide) dX0_connect_72 (ws1 := xW cA a (xnp V, xnq V, xap V, xar V, xf V, va_up (xg V) 15 (vp_updL (xg V 15) p0 ((xg V 15 p0) ||| (lbit q0))))) rfl (fun H locs hP hD hS => ?_)
            refine lv_aload_n hx hb dX0_connect_73 rfl (lv_at hl 0 rfl) ?_
            refine lv_iload_n hx hb dX0_connect_74 rfl (lv_at hl 1 rfl) ?_
            refine lv_iload_n hx hb dX0_connect_75 rfl (lv_at hl 2 rfl) ?_
            refine mu_callV (As := [.int (nI p0), .int (nI q0)]) (rest := []) (b := a 0) (q0 := 0) (ci := 0) ⟨hx, hb, hml, hown, hts⟩ (cx_spreadReach l G cA a ((xnp V, xnq V, xap V, xar V, xf V, va_up (xg V) 15 (vp_updL (xg V 15) p0 ((xg V 15 p0) ||| (lbit q0))))) p0 q0 h60 (by omega) (by omega)) (cwV 2 hts gX0_connect_X0_spreadReach rfl rfl rfl (by decide +kernel) ⟨Nat.le_of_ble_eq_true rfl, Nat.le_of_ble_eq_true rfl⟩) hK hP hD hS rfl rfl rfl (fun _ _ => rfl) rfl hl.1 rfl (Nat.le_of_ble_eq_true rfl) dX0_connect_76 ⟨Nat.zero_le _, Nat.zero_le _⟩ (fun u9 H locs hu9 hP hD hS => ?_)
            subst hu9
            have hP : va_P G vwC2 (xW cA a (xSpread ((xnp V, xnq V, xap V, xar V, xf V, va_up (xg V) 15 (vp_updL (xg V 15) p0 ((xg V 15 p0) ||| (lbit q0))))) p0 q0)) H := hP
            have hD : va_D (mu_A (xW cA a V)) (xW cA a (xSpread ((xnp V, xnq V, xap V, xar V, xf V, va_up (xg V) 15 (vp_updL (xg V 15) p0 ((xg V 15 p0) ||| (lbit q0))))) p0 q0)) := hD
            refine W.eq (g2 := F0 m 79 ls []) rfl ?_
            refine lv_iconst (v := 1) hx hb dX0_connect_79 (by decide) ?_
            have hE : xConn V (nI p0) (nI q0) = (1, (xSpread ((xnp V, xnq V, xap V, xar V, xf V, va_up (xg V) 15 (vp_updL (xg V 15) p0 ((xg V 15 p0) ||| (lbit q0))))) p0 q0)) := by unfold xConn; rw [if_pos ⟨c5, c13⟩, nI_clamp (show p0 < 2 ^ 31 by omega), nI_clamp (show q0 < 2 ^ 31 by omega), eu, ev, nI_clamp (show u < 2 ^ 31 by omega), nI_clamp (show v < 2 ^ 31 by omega), if_pos ⟨c30, c39⟩, if_neg (by rw [c55]; decide)]; try rfl
            exact mu_iret ((xSpread ((xnp V, xnq V, xap V, xar V, xf V, va_up (xg V) 15 (vp_updL (xg V 15) p0 ((xg V 15 p0) ||| (lbit q0))))) p0 q0)) hx hb hr hS hP (by rw [hE]) (by rw [hE]) dX0_connect_80 hlocks
          · refine lv_iconst (v := 0) hx hb dX0_connect_58 (by decide) ?_
            have hE : xConn V (nI p0) (nI q0) = (0, V) := by unfold xConn; rw [if_pos ⟨c5, c13⟩, nI_clamp (show p0 < 2 ^ 31 by omega), nI_clamp (show q0 < 2 ^ 31 by omega), eu, ev, nI_clamp (show u < 2 ^ 31 by omega), nI_clamp (show v < 2 ^ 31 by omega), if_pos ⟨c30, c39⟩, if_pos c55]; try rfl
            exact mu_iret (V) hx hb hr hS hP (by rw [hE]) (by rw [hE]) dX0_connect_59 hlocks
        · refine lv_bipush (v := -2) hx hb dX0_connect_42 (by decide) ?_
          have hE : xConn V (nI p0) (nI q0) = (-2, V) := by unfold xConn; rw [if_pos ⟨c5, c13⟩, nI_clamp (show p0 < 2 ^ 31 by omega), nI_clamp (show q0 < 2 ^ 31 by omega), eu, ev, nI_clamp (show u < 2 ^ 31 by omega), nI_clamp (show v < 2 ^ 31 by omega), if_neg (fun h => by rw [c39] at h; exact absurd h.2 (by decide))]; try rfl
          exact mu_iret (V) hx hb hr hS hP (by rw [hE]) (by rw [hE]) dX0_connect_44 hlocks
    · refine lv_iconst (v := -1) hx hb dX0_connect_16 (by decide) ?_
      have hE : xConn V (nI p0) y = (-1, V) := by unfold xConn; rw [if_neg (fun h => by rw [c13] at h; exact absurd h.2 (by decide))]; try rfl
      exact mu_iret (V) hx hb hr hS hP (by rw [hE]) (by rw [hE]) dX0_connect_17 hlocks
set_option maxHeartbeats 4000000 in
set_option maxRecDepth 100000 in
theorem cx_part (l : Launch) (G : va_G) (cA : Nat → ClassId) (a : Nat → Nat) (V : XV) (x : Int32) (h30 : xnp V ≤ 30) (h60 : xnq V ≤ 60) : Met l yX0_part wsX0_part { frames := 2, cells := 0, slots := 0, locals := 42 } (mu_Pc G vwC2 (tT cA) (xW cA a V) [.ref (a 0), .int x]) (mu_Q G vwC2 (xW cA a V) (fun _ => some (.int ((xPart V x).1))) (fun u9 : XV => u9 = (xPart V x).2) (fun u9 => xW cA a u9)) 0 0 (mu_A (xW cA a V)) := by
  refine Met.ofW (cc := cX0_part) (maxL := 2) (ret := some .int) (by decide) rfl ?_
  intro p e s m args below meth c s₁ B hml hv
  obtain ⟨rfl, hP, hK, hD0⟩ := hv
  have hx := B.exec
  have hb := B.bytes
  have hr := B.returns
  have hts := atoms_spec (ws := wsX0_part) B.pre
  have hown : s.vm.findClass RX0 = some m.cls := findClass_of_methodNamed B.named
  have hlocks := B.notSynchronized
  have hD := mu_own hD0
  have hS : va_S (mu_A (xW cA a V)) s.heap s.heap [] := va_S.rf
  have hfi : ∀ w ∈ u_ws RX0 TX0 19, w ∈ wsX0_part := by decide +kernel
  have hl := lv_entry ([.ref (a 0), .int x]) (n := 2) (Nat.le_of_ble_eq_true rfl)
  rw [lg_entry_eq]
  generalize (lg_sl ([.ref (a 0), .int x]) ++ List.replicate (2 - (lg_sl ([.ref (a 0), .int x])).length) Slot.unset).toArray = ls at hl ⊢
  have hl : lv_has ls 2 [(0, .ref (a 0)), (1, .int x)] := hl
  refine lv_iload_n hx hb dX0_part_0 rfl (lv_at hl 1 rfl) ?_
  refine lv_if_eq (tgt := 14) hx hb dX0_part_1 (by decide) (fun c1 => ?_) (fun c1 => ?_)
  · refine lv_aload_n hx hb dX0_part_14 rfl (lv_at hl 0 rfl) ?_
    refine va_get (D := G) (ci := 0) (v := .int (nI (xnp V))) (C := RX0) (T := TX0) (N := 19) hx hb hts hfi hown hK hP 0 rfl rfl 0 (by decide) (hts (.fieldLink RX0 67 "PortRules" "partCount" "I") (by decide +kernel)) (fun _ h9 => h9) rfl dX0_part_15 ?_
    refine lv_bipush (v := nI 30) hx hb dX0_part_18 (by decide) ?_
    refine bi_lt (a := (((xnp V) : Nat) : Int)) (b := ((30 : Nat) : Int)) (tgt := 26) hx hb dX0_part_20 (by decide) (nI_toInt (by omega)) (nI_toInt (by omega)) (fun c20 => ?_) (fun c20 => ?_)
    · refine lv_aload_n hx hb dX0_part_26 rfl (lv_at hl 0 rfl) ?_
      refine lv_dup hx hb dX0_part_27 rfl ?_
      refine va_get (D := G) (ci := 0) (v := .int (nI (xnp V))) (C := RX0) (T := TX0) (N := 19) hx hb hts hfi hown hK hP 0 rfl rfl 0 (by decide) (hts (.fieldLink RX0 67 "PortRules" "partCount" "I") (by decide +kernel)) (fun _ h9 => h9) rfl dX0_part_28 ?_
      refine lv_iconst (v := 1) hx hb dX0_part_31 (by decide) ?_
      refine lv_iadd hx hb dX0_part_32 ?_
      refine rd_topi (y := nI (xnp V + 1)) (nI_1 _) ?_
      refine va_put (D := G) (ci := 0) (v := .int (nI (xnp V + 1))) (ty := .int) (C := RX0) (T := TX0) (N := 19) hx hb hts hfi tyX0 tyX0_ok nmX0 hown hK hP hD hS 0 rfl rfl 0 (by decide) (hts (.fieldLink RX0 67 "PortRules" "partCount" "I") (by decide +kernel)) (fun _ h9 => h9) rfl (by decide +kernel) rfl rfl (Nat.le_of_ble_eq_true rfl) dX0_part_33 (fun H locs hP hD hS => ?_)
      have hP : va_P G vwC2 (xW cA a (xnp V + 1, xnq V, xap V, xar V, xf V, xg V)) H := hP
      have hD : va_D (mu_A (xW cA a V)) (xW cA a (xnp V + 1, xnq V, xap V, xar V, xf V, xg V)) := hD
      refine lv_aload_n hx hb dX0_part_36 rfl (lv_at hl 0 rfl) ?_
      refine va_get (D := G) (ci := 0) (v := .ref (a 1)) (C := RX0) (T := TX0) (N := 19) hx hb hts hfi hown hK hP 0 rfl rfl 1 (by decide) (hts (.fieldLink RX0 9 "PortRules" "compositionOf" "[I") (by decide +kernel)) (fun _ h9 => h9) rfl dX0_part_37 ?_
      refine lv_aload_n hx hb dX0_part_40 rfl (lv_at hl 0 rfl) ?_
      refine va_get (D := G) (ci := 0) (v := .int (nI (xnp V + 1))) (C := RX0) (T := TX0) (N := 19) hx hb hts hfi hown hK hP 0 rfl rfl 0 (by decide) (hts (.fieldLink RX0 67 "PortRules" "partCount" "I") (by decide +kernel)) (fun _ h9 => h9) rfl dX0_part_41 ?_
      refine lv_iload_n hx hb dX0_part_44 rfl (lv_at hl 1 rfl) ?_
      refine mu_iast hx hb hK hP hD hS 1 0 rfl rfl (by omega) (by decide) dX0_part_45 (ws1 := xW cA a (xnp V + 1, xnq V, xap V, xar V, va_up (xf V) 1 (upd (xf V 1) (xnp V + 1) x), xg V)) rfl (fun H locs hP hD hS => ?_)
      refine lv_iload_n hx hb dX0_part_46 rfl (lv_at hl 1 rfl) ?_
      refine lv_if_eq (tgt := 55) hx hb dX0_part_47 (by decide) (fun c47 => ?_) (fun c47 => ?_)
      · refine lv_aload_n hx hb dX0_part_55 rfl (lv_at hl 0 rfl) ?_
        refine va_get (D := G) (ci := 0) (v := .int (nI (xnp V + 1))) (C := RX0) (T := TX0) (N := 19) hx hb hts hfi hown hK hP 0 rfl rfl 0 (by decide) (hts (.fieldLink RX0 67 "PortRules" "partCount" "I") (by decide +kernel)) (fun _ h9 => h9) rfl dX0_part_56 ?_
        have hE : xPart V x = (nI (xnp V + 1), (xnp V + 1, xnq V, xap V, xar V, va_up (xf V) 1 (upd (xf V 1) (xnp V + 1) x), xg V)) := by unfold xPart; rw [if_pos (Or.inl c1), if_neg (by omega), if_pos c1]; try rfl
        exact mu_iret ((xnp V + 1, xnq V, xap V, xar V, va_up (xf V) 1 (upd (xf V 1) (xnp V + 1) x), xg V)) hx hb hr hS hP (by rw [hE]) (by rw [hE]) dX0_part_59 hlocks
      · exact absurd c1 c47
    · refine lv_bipush (v := -4) hx hb dX0_part_23 (by decide) ?_
      have hE : xPart V x = (-4, V) := by unfold xPart; rw [if_pos (Or.inl c1), if_pos (by omega)]; try rfl
      exact mu_iret (V) hx hb hr hS hP (by rw [hE]) (by rw [hE]) dX0_part_25 hlocks
  · refine lv_aload_n hx hb dX0_part_4 rfl (lv_at hl 0 rfl) ?_
    refine lv_iload_n hx hb dX0_part_5 rfl (lv_at hl 1 rfl) ?_
    refine rd_callV (As := [.int x]) (rest := []) (b := a 0) (q0 := 0) (ci := 0) ⟨hx, hb, hml, hown, hts⟩ (cx_isPart l G cA a V x h30) (cwV 1 hts gX0_part_X0_isPart rfl rfl rfl (by decide +kernel) ⟨Nat.le_of_ble_eq_true rfl, Nat.le_of_ble_eq_true rfl⟩) hK hP rfl rfl rfl rfl hl.1 rfl (Nat.le_of_ble_eq_true rfl) dX0_part_6 ⟨Nat.zero_le _, Nat.zero_le _⟩ ?_
    refine bb_ne (tgt := 14) hx hb dX0_part_9 (by decide) (fun c9 => ?_) (fun c9 => ?_)
    · obtain ⟨c0, hc01, hc02, rfl⟩ := inB_nI (by omega) c9
      refine lv_aload_n hx hb dX0_part_14 rfl (lv_at hl 0 rfl) ?_
      refine va_get (D := G) (ci := 0) (v := .int (nI (xnp V))) (C := RX0) (T := TX0) (N := 19) hx hb hts hfi hown hK hP 0 rfl rfl 0 (by decide) (hts (.fieldLink RX0 67 "PortRules" "partCount" "I") (by decide +kernel)) (fun _ h9 => h9) rfl dX0_part_15 ?_
      refine lv_bipush (v := nI 30) hx hb dX0_part_18 (by decide) ?_
      refine bi_lt (a := (((xnp V) : Nat) : Int)) (b := ((30 : Nat) : Int)) (tgt := 26) hx hb dX0_part_20 (by decide) (nI_toInt (by omega)) (nI_toInt (by omega)) (fun c20 => ?_) (fun c20 => ?_)
      · refine lv_aload_n hx hb dX0_part_26 rfl (lv_at hl 0 rfl) ?_
        refine lv_dup hx hb dX0_part_27 rfl ?_
        refine va_get (D := G) (ci := 0) (v := .int (nI (xnp V))) (C := RX0) (T := TX0) (N := 19) hx hb hts hfi hown hK hP 0 rfl rfl 0 (by decide) (hts (.fieldLink RX0 67 "PortRules" "partCount" "I") (by decide +kernel)) (fun _ h9 => h9) rfl dX0_part_28 ?_
        refine lv_iconst (v := 1) hx hb dX0_part_31 (by decide) ?_
        refine lv_iadd hx hb dX0_part_32 ?_
        refine rd_topi (y := nI (xnp V + 1)) (nI_1 _) ?_
        refine va_put (D := G) (ci := 0) (v := .int (nI (xnp V + 1))) (ty := .int) (C := RX0) (T := TX0) (N := 19) hx hb hts hfi tyX0 tyX0_ok nmX0 hown hK hP hD hS 0 rfl rfl 0 (by decide) (hts (.fieldLink RX0 67 "PortRules" "partCount" "I") (by decide +kernel)) (fun _ h9 => h9) rfl (by decide +kernel) rfl rfl (Nat.le_of_ble_eq_true rfl) dX0_part_33 (fun H locs hP hD hS => ?_)
        have hP : va_P G vwC2 (xW cA a (xnp V + 1, xnq V, xap V, xar V, xf V, xg V)) H := hP
        have hD : va_D (mu_A (xW cA a V)) (xW cA a (xnp V + 1, xnq V, xap V, xar V, xf V, xg V)) := hD
        refine lv_aload_n hx hb dX0_part_36 rfl (lv_at hl 0 rfl) ?_
        refine va_get (D := G) (ci := 0) (v := .ref (a 1)) (C := RX0) (T := TX0) (N := 19) hx hb hts hfi hown hK hP 0 rfl rfl 1 (by decide) (hts (.fieldLink RX0 9 "PortRules" "compositionOf" "[I") (by decide +kernel)) (fun _ h9 => h9) rfl dX0_part_37 ?_
        refine lv_aload_n hx hb dX0_part_40 rfl (lv_at hl 0 rfl) ?_
        refine va_get (D := G) (ci := 0) (v := .int (nI (xnp V + 1))) (C := RX0) (T := TX0) (N := 19) hx hb hts hfi hown hK hP 0 rfl rfl 0 (by decide) (hts (.fieldLink RX0 67 "PortRules" "partCount" "I") (by decide +kernel)) (fun _ h9 => h9) rfl dX0_part_41 ?_
        refine lv_iload_n hx hb dX0_part_44 rfl (lv_at hl 1 rfl) ?_
        refine mu_iast hx hb hK hP hD hS 1 0 rfl rfl (by omega) (by decide) dX0_part_45 (ws1 := xW cA a (xnp V + 1, xnq V, xap V, xar V, va_up (xf V) 1 (upd (xf V 1) (xnp V + 1) (nI c0)), xg V)) rfl (fun H locs hP hD hS => ?_)
        refine lv_iload_n hx hb dX0_part_46 rfl (lv_at hl 1 rfl) ?_
        refine bn_eq (tgt := 55) hx hb dX0_part_47 (by decide) (by omega) (fun c47 => ?_) (fun c47 => ?_)
        · exact absurd c47 (by omega)
        · refine lv_aload_n hx hb dX0_part_50 rfl (lv_at hl 0 rfl) ?_
          refine lv_iload_n hx hb dX0_part_51 rfl (lv_at hl 1 rfl) ?_
          refine mu_callV (As := [.int (nI c0)]) (rest := []) (b := a 0) (q0 := 0) (ci := 0) ⟨hx, hb, hml, hown, hts⟩ (cx_endAtomic l G cA a ((xnp V + 1, xnq V, xap V, xar V, va_up (xf V) 1 (upd (xf V 1) (xnp V + 1) (nI c0)), xg V)) c0 h60 (by omega)) (cwV 1 hts gX0_part_X0_endAtomic rfl rfl rfl (by decide +kernel) ⟨Nat.le_of_ble_eq_true rfl, Nat.le_of_ble_eq_true rfl⟩) hK hP hD hS rfl rfl rfl (fun _ _ => rfl) rfl hl.1 rfl (Nat.le_of_ble_eq_true rfl) dX0_part_52 ⟨Nat.zero_le _, Nat.zero_le _⟩ (fun u9 H locs hu9 hP hD hS => ?_)
          subst hu9
          have hP : va_P G vwC2 (xW cA a (xEnd ((xnp V + 1, xnq V, xap V, xar V, va_up (xf V) 1 (upd (xf V 1) (xnp V + 1) (nI c0)), xg V)) c0)) H := hP
          have hD : va_D (mu_A (xW cA a V)) (xW cA a (xEnd ((xnp V + 1, xnq V, xap V, xar V, va_up (xf V) 1 (upd (xf V 1) (xnp V + 1) (nI c0)), xg V)) c0)) := hD
          refine W.eq (g2 := F0 m 55 ls []) rfl ?_
          refine lv_aload_n hx hb dX0_part_55 rfl (lv_at hl 0 rfl) ?_
          refine va_get (D := G) (ci := 0) (v := .int (nI (xnp V + 1))) (C := RX0) (T := TX0) (N := 19) hx hb hts hfi hown hK hP 0 rfl rfl 0 (by decide) (hts (.fieldLink RX0 67 "PortRules" "partCount" "I") (by decide +kernel)) (fun _ h9 => h9) rfl dX0_part_56 ?_
          have hE : xPart V (nI c0) = (nI (xnp V + 1), (xEnd ((xnp V + 1, xnq V, xap V, xar V, va_up (xf V) 1 (upd (xf V 1) (xnp V + 1) (nI c0)), xg V)) c0)) := by unfold xPart; rw [if_pos (Or.inr c9), if_neg (by omega), if_neg c1, nI_clamp (by omega)]; try rfl
          exact mu_iret ((xEnd ((xnp V + 1, xnq V, xap V, xar V, va_up (xf V) 1 (upd (xf V 1) (xnp V + 1) (nI c0)), xg V)) c0)) hx hb hr hS hP (by rw [hE]) (by rw [hE]) dX0_part_59 hlocks
      · refine lv_bipush (v := -4) hx hb dX0_part_23 (by decide) ?_
        have hE : xPart V (nI c0) = (-4, V) := by unfold xPart; rw [if_pos (Or.inr c9), if_pos (by omega)]; try rfl
        exact mu_iret (V) hx hb hr hS hP (by rw [hE]) (by rw [hE]) dX0_part_25 hlocks
    · refine lv_iconst (v := -1) hx hb dX0_part_12 (by decide) ?_
      have hE : xPart V x = (-1, V) := by unfold xPart; rw [if_neg (fun h => h.elim c1 (fun h => by rw [c9] at h; cases h))]; try rfl
      exact mu_iret (V) hx hb hr hS hP (by rw [hE]) (by rw [hE]) dX0_part_13 hlocks
set_option maxHeartbeats 4000000 in
set_option maxRecDepth 100000 in
theorem cx_port (l : Launch) (G : va_G) (cA : Nat → ClassId) (a : Nat → Nat) (V : XV) (x k0 b0 : Int32) (h30 : xnp V ≤ 30) (h60 : xnq V ≤ 60) (hnb : vp_nar .boolean b0 = b0) : Met l yX0_port wsX0_port { frames := 2, cells := 0, slots := 0, locals := 41 } (mu_Pc G vwC2 (tT cA) (xW cA a V) [.ref (a 0), .int x, .int k0, .int b0]) (mu_Q G vwC2 (xW cA a V) (fun _ => some (.int ((xPort V x k0 b0).1))) (fun u9 : XV => u9 = (xPort V x k0 b0).2) (fun u9 => xW cA a u9)) 0 0 (mu_A (xW cA a V)) := by
  refine Met.ofW (cc := cX0_port) (maxL := 4) (ret := some .int) (by decide) rfl ?_
  intro p e s m args below meth c s₁ B hml hv
  obtain ⟨rfl, hP, hK, hD0⟩ := hv
  have hx := B.exec
  have hb := B.bytes
  have hr := B.returns
  have hts := atoms_spec (ws := wsX0_port) B.pre
  have hown : s.vm.findClass RX0 = some m.cls := findClass_of_methodNamed B.named
  have hlocks := B.notSynchronized
  have hD := mu_own hD0
  have hS : va_S (mu_A (xW cA a V)) s.heap s.heap [] := va_S.rf
  have hfi : ∀ w ∈ u_ws RX0 TX0 19, w ∈ wsX0_port := by decide +kernel
  have hl := lv_entry ([.ref (a 0), .int x, .int k0, .int b0]) (n := 4) (Nat.le_of_ble_eq_true rfl)
  rw [lg_entry_eq]
  generalize (lg_sl ([.ref (a 0), .int x, .int k0, .int b0]) ++ List.replicate (4 - (lg_sl ([.ref (a 0), .int x, .int k0, .int b0])).length) Slot.unset).toArray = ls at hl ⊢
  have hl : lv_has ls 4 [(0, .ref (a 0)), (1, .int x), (2, .int k0), (3, .int b0)] := hl
  refine lv_aload_n hx hb dX0_port_0 rfl (lv_at hl 0 rfl) ?_
  refine lv_iload_n hx hb dX0_port_1 rfl (lv_at hl 1 rfl) ?_
  refine rd_callV (As := [.int x]) (rest := []) (b := a 0) (q0 := 0) (ci := 0) ⟨hx, hb, hml, hown, hts⟩ (cx_isPart l G cA a V x h30) (cwV 1 hts gX0_port_X0_isPart rfl rfl rfl (by decide +kernel) ⟨Nat.le_of_ble_eq_true rfl, Nat.le_of_ble_eq_true rfl⟩) hK hP rfl rfl rfl rfl hl.1 rfl (Nat.le_of_ble_eq_true rfl) dX0_port_2 ⟨Nat.zero_le _, Nat.zero_le _⟩ ?_
  refine bb_ne (tgt := 10) hx hb dX0_port_5 (by decide) (fun c5 => ?_) (fun c5 => ?_)
  · obtain ⟨p0, hp01, hp02, rfl⟩ := inB_nI (by omega) c5
    refine lv_iload_n hx hb dX0_port_10 rfl (lv_at hl 2 rfl) ?_
    refine bz_lt (a := k0.toInt) (tgt := 19) hx hb dX0_port_11 (by decide) rfl (fun c11 => ?_) (fun c11 => ?_)
    · refine lv_bipush (v := -2) hx hb dX0_port_19 (by decide) ?_
      have hE : xPort V (nI p0) k0 b0 = (-2, V) := by unfold xPort; rw [if_pos c5, if_neg (by rw [inB_lo c11]; decide)]; try rfl
      exact mu_iret (V) hx hb hr hS hP (by rw [hE]) (by rw [hE]) dX0_port_21 hlocks
    · refine lv_iload_n hx hb dX0_port_14 rfl (lv_at hl 2 rfl) ?_
      refine lv_iconst (v := 3) hx hb dX0_port_15 (by decide) ?_
      refine bi_le (a := k0.toInt) (b := 3) (tgt := 22) hx hb dX0_port_16 (by decide) rfl (by decide) (fun c16 => ?_) (fun c16 => ?_)
      · refine lv_aload_n hx hb dX0_port_22 rfl (lv_at hl 0 rfl) ?_
        refine va_get (D := G) (ci := 0) (v := .int (nI (xnq V))) (C := RX0) (T := TX0) (N := 19) hx hb hts hfi hown hK hP 0 rfl rfl 4 (by decide) (hts (.fieldLink RX0 75 "PortRules" "portCount" "I") (by decide +kernel)) (fun _ h9 => h9) rfl dX0_port_23 ?_
        refine lv_bipush (v := nI 60) hx hb dX0_port_26 (by decide) ?_
        refine bi_lt (a := (((xnq V) : Nat) : Int)) (b := ((60 : Nat) : Int)) (tgt := 34) hx hb dX0_port_28 (by decide) (nI_toInt (by omega)) (nI_toInt (by omega)) (fun c28 => ?_) (fun c28 => ?_)
        · refine lv_aload_n hx hb dX0_port_34 rfl (lv_at hl 0 rfl) ?_
          refine lv_dup hx hb dX0_port_35 rfl ?_
          refine va_get (D := G) (ci := 0) (v := .int (nI (xnq V))) (C := RX0) (T := TX0) (N := 19) hx hb hts hfi hown hK hP 0 rfl rfl 4 (by decide) (hts (.fieldLink RX0 75 "PortRules" "portCount" "I") (by decide +kernel)) (fun _ h9 => h9) rfl dX0_port_36 ?_
          refine lv_iconst (v := 1) hx hb dX0_port_39 (by decide) ?_
          refine lv_iadd hx hb dX0_port_40 ?_
          refine rd_topi (y := nI (xnq V + 1)) (nI_1 _) ?_
          refine va_put (D := G) (ci := 0) (v := .int (nI (xnq V + 1))) (ty := .int) (C := RX0) (T := TX0) (N := 19) hx hb hts hfi tyX0 tyX0_ok nmX0 hown hK hP hD hS 0 rfl rfl 4 (by decide) (hts (.fieldLink RX0 75 "PortRules" "portCount" "I") (by decide +kernel)) (fun _ h9 => h9) rfl (by decide +kernel) rfl rfl (Nat.le_of_ble_eq_true rfl) dX0_port_41 (fun H locs hP hD hS => ?_)
          have hP : va_P G vwC2 (xW cA a (xnp V, xnq V + 1, xap V, xar V, xf V, xg V)) H := hP
          have hD : va_D (mu_A (xW cA a V)) (xW cA a (xnp V, xnq V + 1, xap V, xar V, xf V, xg V)) := hD
          refine lv_aload_n hx hb dX0_port_44 rfl (lv_at hl 0 rfl) ?_
          refine va_get (D := G) (ci := 0) (v := .ref (a 5)) (C := RX0) (T := TX0) (N := 19) hx hb hts hfi hown hK hP 0 rfl rfl 5 (by decide) (hts (.fieldLink RX0 20 "PortRules" "partOf" "[I") (by decide +kernel)) (fun _ h9 => h9) rfl dX0_port_45 ?_
          refine lv_aload_n hx hb dX0_port_48 rfl (lv_at hl 0 rfl) ?_
          refine va_get (D := G) (ci := 0) (v := .int (nI (xnq V + 1))) (C := RX0) (T := TX0) (N := 19) hx hb hts hfi hown hK hP 0 rfl rfl 4 (by decide) (hts (.fieldLink RX0 75 "PortRules" "portCount" "I") (by decide +kernel)) (fun _ h9 => h9) rfl dX0_port_49 ?_
          refine lv_iload_n hx hb dX0_port_52 rfl (lv_at hl 1 rfl) ?_
          refine mu_iast hx hb hK hP hD hS 4 0 rfl rfl (by omega) (by decide) dX0_port_53 (ws1 := xW cA a (xnp V, xnq V + 1, xap V, xar V, va_up (xf V) 5 (upd (xf V 5) (xnq V + 1) (nI p0)), xg V)) rfl (fun H locs hP hD hS => ?_)
          refine lv_aload_n hx hb dX0_port_54 rfl (lv_at hl 0 rfl) ?_
          refine va_get (D := G) (ci := 0) (v := .ref (a 6)) (C := RX0) (T := TX0) (N := 19) hx hb hts hfi hown hK hP 0 rfl rfl 6 (by decide) (hts (.fieldLink RX0 23 "PortRules" "kindOf" "[I") (by decide +kernel)) (fun _ h9 => h9) rfl dX0_port_55 ?_
          refine lv_aload_n hx hb dX0_port_58 rfl (lv_at hl 0 rfl) ?_
          refine va_get (D := G) (ci := 0) (v := .int (nI (xnq V + 1))) (C := RX0) (T := TX0) (N := 19) hx hb hts hfi hown hK hP 0 rfl rfl 4 (by decide) (hts (.fieldLink RX0 75 "PortRules" "portCount" "I") (by decide +kernel)) (fun _ h9 => h9) rfl dX0_port_59 ?_
          refine lv_iload_n hx hb dX0_port_62 rfl (lv_at hl 2 rfl) ?_
          refine mu_iast hx hb hK hP hD hS 5 0 rfl rfl (by omega) (by decide) dX0_port_63 (ws1 := xW cA a (xnp V, xnq V + 1, xap V, xar V, va_up (va_up (xf V) 5 (upd (xf V 5) (xnq V + 1) (nI p0))) 6 (upd (xf V 6) (xnq V + 1) k0), xg V)) rfl (fun H locs hP hD hS => ?_)
          refine lv_aload_n hx hb dX0_port_64 rfl (lv_at hl 0 rfl) ?_
          refine va_get (D := G) (ci := 0) (v := .ref (a 7)) (C := RX0) (T := TX0) (N := 19) hx hb hts hfi hown hK hP 0 rfl rfl 7 (by decide) (hts (.fieldLink RX0 26 "PortRules" "isProvided" "[Z") (by decide +kernel)) (fun _ h9 => h9) rfl dX0_port_65 ?_
          refine lv_aload_n hx hb dX0_port_68 rfl (lv_at hl 0 rfl) ?_
          refine va_get (D := G) (ci := 0) (v := .int (nI (xnq V + 1))) (C := RX0) (T := TX0) (N := 19) hx hb hts hfi hown hK hP 0 rfl rfl 4 (by decide) (hts (.fieldLink RX0 75 "PortRules" "portCount" "I") (by decide +kernel)) (fun _ h9 => h9) rfl dX0_port_69 ?_
          refine lv_iload_n hx hb dX0_port_72 rfl (lv_at hl 3 rfl) ?_
          refine mu_zast hx hb hK hP hD hS 6 1 rfl rfl (by omega) (by decide) hnb dX0_port_73 (ws1 := xW cA a (xnp V, xnq V + 1, xap V, xar V, va_up (va_up (va_up (xf V) 5 (upd (xf V 5) (xnq V + 1) (nI p0))) 6 (upd (xf V 6) (xnq V + 1) k0)) 7 (upd (xf V 7) (xnq V + 1) b0), xg V)) rfl (fun H locs hP hD hS => ?_)
          refine lv_aload_n hx hb dX0_port_74 rfl (lv_at hl 0 rfl) ?_
          refine va_get (D := G) (ci := 0) (v := .ref (a 2)) (C := RX0) (T := TX0) (N := 19) hx hb hts hfi hown hK hP 0 rfl rfl 2 (by decide) (hts (.fieldLink RX0 13 "PortRules" "hasInnerParts" "[Z") (by decide +kernel)) (fun _ h9 => h9) rfl dX0_port_75 ?_
          refine lv_iload_n hx hb dX0_port_78 rfl (lv_at hl 1 rfl) ?_
          refine rd_zald hx hb hK hP 2 1 rfl rfl (by omega) (by decide) dX0_port_79 ?_
          refine lv_if_ne (tgt := 91) hx hb dX0_port_80 (by decide) (fun c80 => ?_) (fun c80 => ?_)
          · refine lv_aload_n hx hb dX0_port_91 rfl (lv_at hl 0 rfl) ?_
            refine va_get (D := G) (ci := 0) (v := .int (nI (xnq V + 1))) (C := RX0) (T := TX0) (N := 19) hx hb hts hfi hown hK hP 0 rfl rfl 4 (by decide) (hts (.fieldLink RX0 75 "PortRules" "portCount" "I") (by decide +kernel)) (fun _ h9 => h9) rfl dX0_port_92 ?_
            have hE : xPort V (nI p0) k0 b0 = (nI (xnq V + 1), (xnp V, xnq V + 1, xap V, xar V, va_up (va_up (va_up (xf V) 5 (upd (xf V 5) (xnq V + 1) (nI p0))) 6 (upd (xf V 6) (xnq V + 1) k0)) 7 (upd (xf V 7) (xnq V + 1) b0), xg V)) := by unfold xPort; rw [if_pos c5, if_pos (inB_t c11 c16), if_neg (by omega), nI_clamp (by omega), if_neg (show ¬ xf V 2 p0 = 0 from c80)]; try rfl
            exact mu_iret ((xnp V, xnq V + 1, xap V, xar V, va_up (va_up (va_up (xf V) 5 (upd (xf V 5) (xnq V + 1) (nI p0))) 6 (upd (xf V 6) (xnq V + 1) k0)) 7 (upd (xf V 7) (xnq V + 1) b0), xg V)) hx hb hr hS hP (by rw [hE]) (by rw [hE]) dX0_port_95 hlocks
          · refine lv_aload_n hx hb dX0_port_83 rfl (lv_at hl 0 rfl) ?_
            refine lv_aload_n hx hb dX0_port_84 rfl (lv_at hl 0 rfl) ?_
            refine va_get (D := G) (ci := 0) (v := .int (nI (xnq V + 1))) (C := RX0) (T := TX0) (N := 19) hx hb hts hfi hown hK hP 0 rfl rfl 4 (by decide) (hts (.fieldLink RX0 75 "PortRules" "portCount" "I") (by decide +kernel)) (fun _ h9 => h9) rfl dX0_port_85 ?_
            refine mu_callV (As := [.int (nI (xnq V + 1))]) (rest := []) (b := a 0) (q0 := 0) (ci := 0) ⟨hx, hb, hml, hown, hts⟩ (cx_addAtomicPort l G cA a ((xnp V, xnq V + 1, xap V, xar V, va_up (va_up (va_up (xf V) 5 (upd (xf V 5) (xnq V + 1) (nI p0))) 6 (upd (xf V 6) (xnq V + 1) k0)) 7 (upd (xf V 7) (xnq V + 1) b0), xg V)) (xnq V + 1) (by omega)) (cwV 1 hts gX0_port_X0_addAtomicPort rfl rfl rfl (by decide +kernel) ⟨Nat.le_of_ble_eq_true rfl, Nat.le_of_ble_eq_true rfl⟩) hK hP hD hS rfl rfl rfl (fun _ _ => rfl) rfl hl.1 rfl (Nat.le_of_ble_eq_true rfl) dX0_port_88 ⟨Nat.zero_le _, Nat.zero_le _⟩ (fun u9 H locs hu9 hP hD hS => ?_)
            subst hu9
            have hP : va_P G vwC2 (xW cA a (xAdd ((xnp V, xnq V + 1, xap V, xar V, va_up (va_up (va_up (xf V) 5 (upd (xf V 5) (xnq V + 1) (nI p0))) 6 (upd (xf V 6) (xnq V + 1) k0)) 7 (upd (xf V 7) (xnq V + 1) b0), xg V)) (xnq V + 1))) H := hP
            have hD : va_D (mu_A (xW cA a V)) (xW cA a (xAdd ((xnp V, xnq V + 1, xap V, xar V, va_up (va_up (va_up (xf V) 5 (upd (xf V 5) (xnq V + 1) (nI p0))) 6 (upd (xf V 6) (xnq V + 1) k0)) 7 (upd (xf V 7) (xnq V + 1) b0), xg V)) (xnq V + 1))) := hD
            refine W.eq (g2 := F0 m 91 ls []) rfl ?_
            refine lv_aload_n hx hb dX0_port_91 rfl (lv_at hl 0 rfl) ?_
            refine va_get (D := G) (ci := 0) (v := .int (nI (xnq V + 1))) (C := RX0) (T := TX0) (N := 19) hx hb hts hfi hown hK hP 0 rfl rfl 4 (by decide) (hts (.fieldLink RX0 75 "PortRules" "portCount" "I") (by decide +kernel)) (fun _ h9 => h9) rfl dX0_port_92 ?_
            have hE : xPort V (nI p0) k0 b0 = (nI (xnq V + 1), (xAdd (xPort1 V (nI p0) k0 b0) (xnq V + 1))) := by unfold xPort; rw [if_pos c5, if_pos (inB_t c11 c16), if_neg (by omega), nI_clamp (by omega), if_pos (show xf V 2 p0 = 0 from c80)]; try rfl
            exact mu_iret ((xAdd (xPort1 V (nI p0) k0 b0) (xnq V + 1))) hx hb hr hS hP (by rw [hE]) (by rw [hE]) dX0_port_95 hlocks
        · refine lv_bipush (v := -4) hx hb dX0_port_31 (by decide) ?_
          have hE : xPort V (nI p0) k0 b0 = (-4, V) := by unfold xPort; rw [if_pos c5, if_pos (inB_t c11 c16), if_pos (by omega)]; try rfl
          exact mu_iret (V) hx hb hr hS hP (by rw [hE]) (by rw [hE]) dX0_port_33 hlocks
      · refine lv_bipush (v := -2) hx hb dX0_port_19 (by decide) ?_
        have hE : xPort V (nI p0) k0 b0 = (-2, V) := by unfold xPort; rw [if_pos c5, if_neg (by rw [inB_hi c16]; decide)]; try rfl
        exact mu_iret (V) hx hb hr hS hP (by rw [hE]) (by rw [hE]) dX0_port_21 hlocks
  · refine lv_iconst (v := -1) hx hb dX0_port_8 (by decide) ?_
    have hE : xPort V x k0 b0 = (-1, V) := by unfold xPort; rw [if_neg (by rw [c5]; decide)]; try rfl
    exact mu_iret (V) hx hb hr hS hP (by rw [hE]) (by rw [hE]) dX0_port_9 hlocks
end
section
section NB
variable {p : Program} {l : Launch} {e : Env} {R : Room} {s : State} {m : MethodId} {args : Array Value} {below : List Frame} {meth : Method} {c : Code} {H : Heap} {locs : List Loc} {cells slots : Nat} {Q : State → Prop}
variable {cc : ByteArray} {pc : Nat} {ls : Array Slot} {rest st0 : List Value}
theorem nb_ne (hexec : p.tables.exec = Jvm.exec) (hb : c.code = cc) {x y : Nat} {off : Int} {tgt : Nat} (hdg : decode cc pc = .ok (.if_icmp .ne off, 3)) (ht : (pc : Int) + off = (tgt : Int)) (hx : x < 2 ^ 31) (hy : y < 2 ^ 31)
    (kt : x ≠ y → W p l e R s m args below meth c H locs cells slots Q (F0 m tgt ls rest)) (kf : x = y → W p l e R s m args below meth c H locs cells slots Q (F0 m (pc + 3) ls rest)) : W p l e R s m args below meth c H locs cells slots Q (F0 m pc ls (.int (nI y) :: .int (nI x) :: rest)) :=
  lv_icmp_ne hexec hb hdg ht (fun h => kt (fun q => h ((nI_eq hx hy).mpr q))) (fun h => kf ((nI_eq hx hy).mp h))
end NB
end
section
/-! M: the methods that write -/
set_option maxHeartbeats 4000000 in
set_option maxRecDepth 100000 in
theorem cm_part (l : Launch) (G : va_G) (cA : Nat → ClassId) (a : Nat → Nat) (V : MV) (x : Int32) (h30 : mnp V ≤ 30) : Met l yM_part wsM_part { frames := 1, cells := 0, slots := 0, locals := 25 } (mu_Pc G vwC2 (tT cA) (mW cA a V) [.ref (a 0), .int x]) (mu_Q G vwC2 (mW cA a V) (fun _ => some (.int ((mPart V x).1))) (fun u9 : MV => u9 = (mPart V x).2) (fun u9 => mW cA a u9)) 0 0 (mu_A (mW cA a V)) := by
  refine Met.ofW (cc := cM_part) (maxL := 2) (ret := some .int) (by decide) rfl ?_
  intro p e s m args below meth c s₁ B hml hv
  obtain ⟨rfl, hP, hK, hD0⟩ := hv
  have hx := B.exec
  have hb := B.bytes
  have hr := B.returns
  have hts := atoms_spec (ws := wsM_part) B.pre
  have hown : s.vm.findClass RX1 = some m.cls := findClass_of_methodNamed B.named
  have hlocks := B.notSynchronized
  have hD := mu_own hD0
  have hS : va_S (mu_A (mW cA a V)) s.heap s.heap [] := va_S.rf
  have hfi : ∀ w ∈ u_ws RX1 TM 18, w ∈ wsM_part := fun w h => List.mem_cons_of_mem _ (wMA_f w h)
  have hl := lv_entry ([.ref (a 0), .int x]) (n := 2) (Nat.le_of_ble_eq_true rfl)
  rw [lg_entry_eq]
  generalize (lg_sl ([.ref (a 0), .int x]) ++ List.replicate (2 - (lg_sl ([.ref (a 0), .int x])).length) Slot.unset).toArray = ls at hl ⊢
  have hl : lv_has ls 2 [(0, .ref (a 0)), (1, .int x)] := hl
  refine lv_aload_n hx hb dM_part_0 rfl (lv_at hl 0 rfl) ?_
  refine lv_iconst (v := 0) hx hb dM_part_1 (by decide) ?_
  refine va_put (D := G) (ci := 1) (v := .int 0) (ty := .int) (C := RX1) (T := TM) (N := 18) hx hb hts hfi tyM tyM_ok nmM hown hK hP hD hS 0 rfl rfl 0 (by decide) (hts (.fieldLink RX1 54 "PortRulesModel" "code" "I") (by decide +kernel)) (fun _ h9 => h9) rfl (by decide +kernel) rfl rfl (Nat.le_of_ble_eq_true rfl) dM_part_2 (fun H locs hP hD hS => ?_)
  have hP : va_P G vwC2 (mW cA a (mnp V, mnq V, 0, mkn V, mf V, mg V)) H := hP
  have hD : va_D (mu_A (mW cA a V)) (mW cA a (mnp V, mnq V, 0, mkn V, mf V, mg V)) := hD
  refine lv_iload_n hx hb dM_part_5 rfl (lv_at hl 1 rfl) ?_
  refine lv_i2l (v := x.toInt64) hx hb dM_part_6 (rfl) ?_
  refine lv_lconst (v := 0) hx hb dM_part_7 (by decide) ?_
  refine lv_aload_n hx hb dM_part_8 rfl (lv_at hl 0 rfl) ?_
  refine va_get (D := G) (ci := 1) (v := .int (nI (mnp V))) (C := RX1) (T := TM) (N := 18) hx hb hts hfi hown hK hP 0 rfl rfl 1 (by decide) (hts (.fieldLink RX1 58 "PortRulesModel" "parts" "I") (by decide +kernel)) (fun _ h9 => h9) rfl dM_part_9 ?_
  refine lv_i2l (v := (nI (mnp V)).toInt64) hx hb dM_part_12 (rfl) ?_
  refine rd_callS (As := [.long (x.toInt64), .long 0, .long ((nI (mnp V)).toInt64)]) (rest := []) ⟨hx, hb, hml, hown, hts⟩ (cm_isIn l x.toInt64 0 ((nI (mnp V)).toInt64)) (va_cwS 3 hts gM_part_M_isIn rfl rfl rfl (by decide +kernel) ⟨Nat.le_of_ble_eq_true rfl, Nat.le_of_ble_eq_true rfl⟩) rfl hl.1 rfl (Nat.le_of_ble_eq_true rfl) dM_part_13 ⟨Nat.zero_le _, Nat.zero_le _⟩ ?_
  refine rd_topi (y := z1 (inB x 0 (mnp V))) (z1_ne (isI_b (by decide) (ni_l (show mnp V < 2 ^ 31 by omega)))) ?_
  refine bb_ne (b := (inB x 0 (mnp V))) (tgt := 21) hx hb dM_part_16 (by decide) (fun c16 => ?_) (fun c16 => ?_)
  · refine lv_aload_n hx hb dM_part_21 rfl (lv_at hl 0 rfl) ?_
    refine va_get (D := G) (ci := 1) (v := .int (nI (mnp V))) (C := RX1) (T := TM) (N := 18) hx hb hts hfi hown hK hP 0 rfl rfl 1 (by decide) (hts (.fieldLink RX1 58 "PortRulesModel" "parts" "I") (by decide +kernel)) (fun _ h9 => h9) rfl dM_part_22 ?_
    refine lv_bipush (v := nI 30) hx hb dM_part_25 (by decide) ?_
    refine nb_ne (tgt := 33) hx hb dM_part_27 (by decide) (by omega) (by omega) (fun c27 => ?_) (fun c27 => ?_)
    · refine lv_aload_n hx hb dM_part_33 rfl (lv_at hl 0 rfl) ?_
      refine lv_dup hx hb dM_part_34 rfl ?_
      refine va_get (D := G) (ci := 1) (v := .int (nI (mnp V))) (C := RX1) (T := TM) (N := 18) hx hb hts hfi hown hK hP 0 rfl rfl 1 (by decide) (hts (.fieldLink RX1 58 "PortRulesModel" "parts" "I") (by decide +kernel)) (fun _ h9 => h9) rfl dM_part_35 ?_
      refine lv_iconst (v := 1) hx hb dM_part_38 (by decide) ?_
      refine lv_iadd hx hb dM_part_39 ?_
      refine rd_topi (y := nI (mnp V + 1)) (nI_1 _) ?_
      refine va_put (D := G) (ci := 1) (v := .int (nI (mnp V + 1))) (ty := .int) (C := RX1) (T := TM) (N := 18) hx hb hts hfi tyM tyM_ok nmM hown hK hP hD hS 0 rfl rfl 1 (by decide) (hts (.fieldLink RX1 58 "PortRulesModel" "parts" "I") (by decide +kernel)) (fun _ h9 => h9) rfl (by decide +kernel) rfl rfl (Nat.le_of_ble_eq_true rfl) dM_part_40 (fun H locs hP hD hS => ?_)
      have hP : va_P G vwC2 (mW cA a (mnp V + 1, mnq V, 0, mkn V, mf V, mg V)) H := hP
      have hD : va_D (mu_A (mW cA a V)) (mW cA a (mnp V + 1, mnq V, 0, mkn V, mf V, mg V)) := hD
      refine lv_aload_n hx hb dM_part_43 rfl (lv_at hl 0 rfl) ?_
      refine va_get (D := G) (ci := 1) (v := .ref (a 2)) (C := RX1) (T := TM) (N := 18) hx hb hts hfi hown hK hP 0 rfl rfl 2 (by decide) (hts (.fieldLink RX1 7 "PortRulesModel" "in" "[I") (by decide +kernel)) (fun _ h9 => h9) rfl dM_part_44 ?_
      refine lv_aload_n hx hb dM_part_47 rfl (lv_at hl 0 rfl) ?_
      refine va_get (D := G) (ci := 1) (v := .int (nI (mnp V + 1))) (C := RX1) (T := TM) (N := 18) hx hb hts hfi hown hK hP 0 rfl rfl 1 (by decide) (hts (.fieldLink RX1 58 "PortRulesModel" "parts" "I") (by decide +kernel)) (fun _ h9 => h9) rfl dM_part_48 ?_
      refine lv_iload_n hx hb dM_part_51 rfl (lv_at hl 1 rfl) ?_
      refine mu_iast hx hb hK hP hD hS 1 0 rfl rfl (by omega) (by decide) dM_part_52 (ws1 := mW cA a (mnp V + 1, mnq V, 0, mkn V, va_up (mf V) 2 (upd (mf V 2) (mnp V + 1) x), mg V)) rfl (fun H locs hP hD hS => ?_)
      refine lv_aload_n hx hb dM_part_53 rfl (lv_at hl 0 rfl) ?_
      refine lv_iconst (v := 0) hx hb dM_part_54 (by decide) ?_
      refine va_put (D := G) (ci := 1) (v := .int 0) (ty := .boolean) (C := RX1) (T := TM) (N := 18) hx hb hts hfi tyM tyM_ok nmM hown hK hP hD hS 0 rfl rfl 17 (by decide) (hts (.fieldLink RX1 65 "PortRulesModel" "known" "Z") (by decide +kernel)) (fun _ h9 => h9) rfl (by decide +kernel) rfl rfl (Nat.le_of_ble_eq_true rfl) dM_part_55 (fun H locs hP hD hS => ?_)
      have hP : va_P G vwC2 (mW cA a (mnp V + 1, mnq V, 0, 0, va_up (mf V) 2 (upd (mf V 2) (mnp V + 1) x), mg V)) H := hP
      have hD : va_D (mu_A (mW cA a V)) (mW cA a (mnp V + 1, mnq V, 0, 0, va_up (mf V) 2 (upd (mf V 2) (mnp V + 1) x), mg V)) := hD
      refine lv_aload_n hx hb dM_part_58 rfl (lv_at hl 0 rfl) ?_
      refine va_get (D := G) (ci := 1) (v := .int (nI (mnp V + 1))) (C := RX1) (T := TM) (N := 18) hx hb hts hfi hown hK hP 0 rfl rfl 1 (by decide) (hts (.fieldLink RX1 58 "PortRulesModel" "parts" "I") (by decide +kernel)) (fun _ h9 => h9) rfl dM_part_59 ?_
      have hE : mPart V x = (nI (mnp V + 1), (mnp V + 1, mnq V, 0, 0, va_up (mf V) 2 (upd (mf V 2) (mnp V + 1) x), mg V)) := by unfold mPart; rw [if_pos c16, if_neg c27]; try rfl
      exact mu_iret ((mnp V + 1, mnq V, 0, 0, va_up (mf V) 2 (upd (mf V 2) (mnp V + 1) x), mg V)) hx hb hr hS hP (by rw [hE]) (by rw [hE]) dM_part_62 hlocks
    · refine lv_bipush (v := -4) hx hb dM_part_30 (by decide) ?_
      have hE : mPart V x = (-4, (mnp V, mnq V, 0, mkn V, mf V, mg V)) := by unfold mPart; rw [if_pos c16, if_pos c27]; try rfl
      exact mu_iret ((mnp V, mnq V, 0, mkn V, mf V, mg V)) hx hb hr hS hP (by rw [hE]) (by rw [hE]) dM_part_32 hlocks
  · refine lv_iconst (v := -1) hx hb dM_part_19 (by decide) ?_
    have hE : mPart V x = (-1, (mnp V, mnq V, 0, mkn V, mf V, mg V)) := by unfold mPart; rw [if_neg (by rw [c16]; decide)]; try rfl
    exact mu_iret ((mnp V, mnq V, 0, mkn V, mf V, mg V)) hx hb hr hS hP (by rw [hE]) (by rw [hE]) dM_part_20 hlocks
set_option maxHeartbeats 4000000 in
set_option maxRecDepth 100000 in
theorem cm_port (l : Launch) (G : va_G) (cA : Nat → ClassId) (a : Nat → Nat) (V : MV) (x k0 b0 : Int32) (h30 : mnp V ≤ 30) (h60 : mnq V ≤ 60) (hnb : vp_nar .boolean b0 = b0) : Met l yM_port wsM_port { frames := 1, cells := 0, slots := 0, locals := 25 } (mu_Pc G vwC2 (tT cA) (mW cA a V) [.ref (a 0), .int x, .int k0, .int b0]) (mu_Q G vwC2 (mW cA a V) (fun _ => some (.int ((mPort V x k0 b0).1))) (fun u9 : MV => u9 = (mPort V x k0 b0).2) (fun u9 => mW cA a u9)) 0 0 (mu_A (mW cA a V)) := by
  refine Met.ofW (cc := cM_port) (maxL := 4) (ret := some .int) (by decide) rfl ?_
  intro p e s m args below meth c s₁ B hml hv
  obtain ⟨rfl, hP, hK, hD0⟩ := hv
  have hx := B.exec
  have hb := B.bytes
  have hr := B.returns
  have hts := atoms_spec (ws := wsM_port) B.pre
  have hown : s.vm.findClass RX1 = some m.cls := findClass_of_methodNamed B.named
  have hlocks := B.notSynchronized
  have hD := mu_own hD0
  have hS : va_S (mu_A (mW cA a V)) s.heap s.heap [] := va_S.rf
  have hfi : ∀ w ∈ u_ws RX1 TM 18, w ∈ wsM_port := fun w h => List.mem_cons_of_mem _ (wMA_f w h)
  have hl := lv_entry ([.ref (a 0), .int x, .int k0, .int b0]) (n := 4) (Nat.le_of_ble_eq_true rfl)
  rw [lg_entry_eq]
  generalize (lg_sl ([.ref (a 0), .int x, .int k0, .int b0]) ++ List.replicate (4 - (lg_sl ([.ref (a 0), .int x, .int k0, .int b0])).length) Slot.unset).toArray = ls at hl ⊢
  have hl : lv_has ls 4 [(0, .ref (a 0)), (1, .int x), (2, .int k0), (3, .int b0)] := hl
  refine lv_aload_n hx hb dM_port_0 rfl (lv_at hl 0 rfl) ?_
  refine lv_iconst (v := 0) hx hb dM_port_1 (by decide) ?_
  refine va_put (D := G) (ci := 1) (v := .int 0) (ty := .int) (C := RX1) (T := TM) (N := 18) hx hb hts hfi tyM tyM_ok nmM hown hK hP hD hS 0 rfl rfl 0 (by decide) (hts (.fieldLink RX1 54 "PortRulesModel" "code" "I") (by decide +kernel)) (fun _ h9 => h9) rfl (by decide +kernel) rfl rfl (Nat.le_of_ble_eq_true rfl) dM_port_2 (fun H locs hP hD hS => ?_)
  have hP : va_P G vwC2 (mW cA a (mnp V, mnq V, 0, mkn V, mf V, mg V)) H := hP
  have hD : va_D (mu_A (mW cA a V)) (mW cA a (mnp V, mnq V, 0, mkn V, mf V, mg V)) := hD
  refine lv_iload_n hx hb dM_port_5 rfl (lv_at hl 1 rfl) ?_
  refine lv_i2l (v := x.toInt64) hx hb dM_port_6 (rfl) ?_
  refine lv_lconst (v := 1) hx hb dM_port_7 (by decide) ?_
  refine lv_aload_n hx hb dM_port_8 rfl (lv_at hl 0 rfl) ?_
  refine va_get (D := G) (ci := 1) (v := .int (nI (mnp V))) (C := RX1) (T := TM) (N := 18) hx hb hts hfi hown hK hP 0 rfl rfl 1 (by decide) (hts (.fieldLink RX1 58 "PortRulesModel" "parts" "I") (by decide +kernel)) (fun _ h9 => h9) rfl dM_port_9 ?_
  refine lv_i2l (v := (nI (mnp V)).toInt64) hx hb dM_port_12 (rfl) ?_
  refine rd_callS (As := [.long (x.toInt64), .long 1, .long ((nI (mnp V)).toInt64)]) (rest := []) ⟨hx, hb, hml, hown, hts⟩ (cm_isIn l x.toInt64 1 ((nI (mnp V)).toInt64)) (va_cwS 3 hts gM_port_M_isIn rfl rfl rfl (by decide +kernel) ⟨Nat.le_of_ble_eq_true rfl, Nat.le_of_ble_eq_true rfl⟩) rfl hl.1 rfl (Nat.le_of_ble_eq_true rfl) dM_port_13 ⟨Nat.zero_le _, Nat.zero_le _⟩ ?_
  refine rd_topi (y := z1 (inB x 1 (mnp V))) (z1_ne (isI_b (by decide) (ni_l (show mnp V < 2 ^ 31 by omega)))) ?_
  refine bb_ne (b := (inB x 1 (mnp V))) (tgt := 21) hx hb dM_port_16 (by decide) (fun c16 => ?_) (fun c16 => ?_)
  · refine lv_iload_n hx hb dM_port_21 rfl (lv_at hl 2 rfl) ?_
    refine lv_i2l (v := k0.toInt64) hx hb dM_port_22 (rfl) ?_
    refine lv_lconst (v := 0) hx hb dM_port_23 (by decide) ?_
    refine lv_ldc2 (v := 3) hx hb hown (hts (.constantLong RX1 69 3) (by decide +kernel)) dM_port_24 ?_
    refine rd_callS (As := [.long (k0.toInt64), .long 0, .long 3]) (rest := []) ⟨hx, hb, hml, hown, hts⟩ (cm_isIn l k0.toInt64 0 3) (va_cwS 3 hts gM_port_M_isIn rfl rfl rfl (by decide +kernel) ⟨Nat.le_of_ble_eq_true rfl, Nat.le_of_ble_eq_true rfl⟩) rfl hl.1 rfl (Nat.le_of_ble_eq_true rfl) dM_port_27 ⟨Nat.zero_le _, Nat.zero_le _⟩ ?_
    refine rd_topi (y := z1 (inB k0 0 3)) (z1_ne (isI_b (by decide) (by decide))) ?_
    refine bb_ne (b := (inB k0 0 3)) (tgt := 36) hx hb dM_port_30 (by decide) (fun c30 => ?_) (fun c30 => ?_)
    · refine lv_aload_n hx hb dM_port_36 rfl (lv_at hl 0 rfl) ?_
      refine va_get (D := G) (ci := 1) (v := .int (nI (mnq V))) (C := RX1) (T := TM) (N := 18) hx hb hts hfi hown hK hP 0 rfl rfl 3 (by decide) (hts (.fieldLink RX1 71 "PortRulesModel" "ports" "I") (by decide +kernel)) (fun _ h9 => h9) rfl dM_port_37 ?_
      refine lv_bipush (v := nI 60) hx hb dM_port_40 (by decide) ?_
      refine nb_ne (tgt := 48) hx hb dM_port_42 (by decide) (by omega) (by omega) (fun c42 => ?_) (fun c42 => ?_)
      · refine lv_aload_n hx hb dM_port_48 rfl (lv_at hl 0 rfl) ?_
        refine lv_dup hx hb dM_port_49 rfl ?_
        refine va_get (D := G) (ci := 1) (v := .int (nI (mnq V))) (C := RX1) (T := TM) (N := 18) hx hb hts hfi hown hK hP 0 rfl rfl 3 (by decide) (hts (.fieldLink RX1 71 "PortRulesModel" "ports" "I") (by decide +kernel)) (fun _ h9 => h9) rfl dM_port_50 ?_
        refine lv_iconst (v := 1) hx hb dM_port_53 (by decide) ?_
        refine lv_iadd hx hb dM_port_54 ?_
        refine rd_topi (y := nI (mnq V + 1)) (nI_1 _) ?_
        refine va_put (D := G) (ci := 1) (v := .int (nI (mnq V + 1))) (ty := .int) (C := RX1) (T := TM) (N := 18) hx hb hts hfi tyM tyM_ok nmM hown hK hP hD hS 0 rfl rfl 3 (by decide) (hts (.fieldLink RX1 71 "PortRulesModel" "ports" "I") (by decide +kernel)) (fun _ h9 => h9) rfl (by decide +kernel) rfl rfl (Nat.le_of_ble_eq_true rfl) dM_port_55 (fun H locs hP hD hS => ?_)
        have hP : va_P G vwC2 (mW cA a (mnp V, mnq V + 1, 0, mkn V, mf V, mg V)) H := hP
        have hD : va_D (mu_A (mW cA a V)) (mW cA a (mnp V, mnq V + 1, 0, mkn V, mf V, mg V)) := hD
        refine lv_aload_n hx hb dM_port_58 rfl (lv_at hl 0 rfl) ?_
        refine va_get (D := G) (ci := 1) (v := .ref (a 4)) (C := RX1) (T := TM) (N := 18) hx hb hts hfi hown hK hP 0 rfl rfl 4 (by decide) (hts (.fieldLink RX1 13 "PortRulesModel" "partOf" "[I") (by decide +kernel)) (fun _ h9 => h9) rfl dM_port_59 ?_
        refine lv_aload_n hx hb dM_port_62 rfl (lv_at hl 0 rfl) ?_
        refine va_get (D := G) (ci := 1) (v := .int (nI (mnq V + 1))) (C := RX1) (T := TM) (N := 18) hx hb hts hfi hown hK hP 0 rfl rfl 3 (by decide) (hts (.fieldLink RX1 71 "PortRulesModel" "ports" "I") (by decide +kernel)) (fun _ h9 => h9) rfl dM_port_63 ?_
        refine lv_iload_n hx hb dM_port_66 rfl (lv_at hl 1 rfl) ?_
        refine mu_iast hx hb hK hP hD hS 2 0 rfl rfl (by omega) (by decide) dM_port_67 (ws1 := mW cA a (mnp V, mnq V + 1, 0, mkn V, va_up (mf V) 4 (upd (mf V 4) (mnq V + 1) x), mg V)) rfl (fun H locs hP hD hS => ?_)
        refine lv_aload_n hx hb dM_port_68 rfl (lv_at hl 0 rfl) ?_
        refine va_get (D := G) (ci := 1) (v := .ref (a 5)) (C := RX1) (T := TM) (N := 18) hx hb hts hfi hown hK hP 0 rfl rfl 5 (by decide) (hts (.fieldLink RX1 16 "PortRulesModel" "kindOf" "[I") (by decide +kernel)) (fun _ h9 => h9) rfl dM_port_69 ?_
        refine lv_aload_n hx hb dM_port_72 rfl (lv_at hl 0 rfl) ?_
        refine va_get (D := G) (ci := 1) (v := .int (nI (mnq V + 1))) (C := RX1) (T := TM) (N := 18) hx hb hts hfi hown hK hP 0 rfl rfl 3 (by decide) (hts (.fieldLink RX1 71 "PortRulesModel" "ports" "I") (by decide +kernel)) (fun _ h9 => h9) rfl dM_port_73 ?_
        refine lv_iload_n hx hb dM_port_76 rfl (lv_at hl 2 rfl) ?_
        refine mu_iast hx hb hK hP hD hS 3 0 rfl rfl (by omega) (by decide) dM_port_77 (ws1 := mW cA a (mnp V, mnq V + 1, 0, mkn V, va_up (va_up (mf V) 4 (upd (mf V 4) (mnq V + 1) x)) 5 (upd (mf V 5) (mnq V + 1) k0), mg V)) rfl (fun H locs hP hD hS => ?_)
        refine lv_aload_n hx hb dM_port_78 rfl (lv_at hl 0 rfl) ?_
        refine va_get (D := G) (ci := 1) (v := .ref (a 6)) (C := RX1) (T := TM) (N := 18) hx hb hts hfi hown hK hP 0 rfl rfl 6 (by decide) (hts (.fieldLink RX1 19 "PortRulesModel" "provides" "[Z") (by decide +kernel)) (fun _ h9 => h9) rfl dM_port_79 ?_
        refine lv_aload_n hx hb dM_port_82 rfl (lv_at hl 0 rfl) ?_
        refine va_get (D := G) (ci := 1) (v := .int (nI (mnq V + 1))) (C := RX1) (T := TM) (N := 18) hx hb hts hfi hown hK hP 0 rfl rfl 3 (by decide) (hts (.fieldLink RX1 71 "PortRulesModel" "ports" "I") (by decide +kernel)) (fun _ h9 => h9) rfl dM_port_83 ?_
        refine lv_iload_n hx hb dM_port_86 rfl (lv_at hl 3 rfl) ?_
        refine mu_zast hx hb hK hP hD hS 4 1 rfl rfl (by omega) (by decide) hnb dM_port_87 (ws1 := mW cA a (mnp V, mnq V + 1, 0, mkn V, va_up (va_up (va_up (mf V) 4 (upd (mf V 4) (mnq V + 1) x)) 5 (upd (mf V 5) (mnq V + 1) k0)) 6 (upd (mf V 6) (mnq V + 1) b0), mg V)) rfl (fun H locs hP hD hS => ?_)
        refine lv_aload_n hx hb dM_port_88 rfl (lv_at hl 0 rfl) ?_
        refine va_get (D := G) (ci := 1) (v := .ref (a 7)) (C := RX1) (T := TM) (N := 18) hx hb hts hfi hown hK hP 0 rfl rfl 7 (by decide) (hts (.fieldLink RX1 23 "PortRulesModel" "unit" "[I") (by decide +kernel)) (fun _ h9 => h9) rfl dM_port_89 ?_
        refine lv_aload_n hx hb dM_port_92 rfl (lv_at hl 0 rfl) ?_
        refine va_get (D := G) (ci := 1) (v := .int (nI (mnq V + 1))) (C := RX1) (T := TM) (N := 18) hx hb hts hfi hown hK hP 0 rfl rfl 3 (by decide) (hts (.fieldLink RX1 71 "PortRulesModel" "ports" "I") (by decide +kernel)) (fun _ h9 => h9) rfl dM_port_93 ?_
        refine lv_iconst (v := -1) hx hb dM_port_96 (by decide) ?_
        refine mu_iast hx hb hK hP hD hS 5 0 rfl rfl (by omega) (by decide) dM_port_97 (ws1 := mW cA a (mnp V, mnq V + 1, 0, mkn V, va_up (va_up (va_up (va_up (mf V) 4 (upd (mf V 4) (mnq V + 1) x)) 5 (upd (mf V 5) (mnq V + 1) k0)) 6 (upd (mf V 6) (mnq V + 1) b0)) 7 (upd (mf V 7) (mnq V + 1) (-1)), mg V)) rfl (fun H locs hP hD hS => ?_)
        refine lv_aload_n hx hb dM_port_98 rfl (lv_at hl 0 rfl) ?_
        refine va_get (D := G) (ci := 1) (v := .ref (a 10)) (C := RX1) (T := TM) (N := 18) hx hb hts hfi hown hK hP 0 rfl rfl 10 (by decide) (hts (.fieldLink RX1 33 "PortRulesModel" "version" "[I") (by decide +kernel)) (fun _ h9 => h9) rfl dM_port_99 ?_
        refine lv_aload_n hx hb dM_port_102 rfl (lv_at hl 0 rfl) ?_
        refine va_get (D := G) (ci := 1) (v := .int (nI (mnq V + 1))) (C := RX1) (T := TM) (N := 18) hx hb hts hfi hown hK hP 0 rfl rfl 3 (by decide) (hts (.fieldLink RX1 71 "PortRulesModel" "ports" "I") (by decide +kernel)) (fun _ h9 => h9) rfl dM_port_103 ?_
        refine lv_iconst (v := -1) hx hb dM_port_106 (by decide) ?_
        refine mu_iast hx hb hK hP hD hS 8 0 rfl rfl (by omega) (by decide) dM_port_107 (ws1 := mW cA a (mnp V, mnq V + 1, 0, mkn V, va_up (va_up (va_up (va_up (va_up (mf V) 4 (upd (mf V 4) (mnq V + 1) x)) 5 (upd (mf V 5) (mnq V + 1) k0)) 6 (upd (mf V 6) (mnq V + 1) b0)) 7 (upd (mf V 7) (mnq V + 1) (-1))) 10 (upd (mf V 10) (mnq V + 1) (-1)), mg V)) rfl (fun H locs hP hD hS => ?_)
        refine lv_aload_n hx hb dM_port_108 rfl (lv_at hl 0 rfl) ?_
        refine lv_iconst (v := 0) hx hb dM_port_109 (by decide) ?_
        refine va_put (D := G) (ci := 1) (v := .int 0) (ty := .boolean) (C := RX1) (T := TM) (N := 18) hx hb hts hfi tyM tyM_ok nmM hown hK hP hD hS 0 rfl rfl 17 (by decide) (hts (.fieldLink RX1 65 "PortRulesModel" "known" "Z") (by decide +kernel)) (fun _ h9 => h9) rfl (by decide +kernel) rfl rfl (Nat.le_of_ble_eq_true rfl) dM_port_110 (fun H locs hP hD hS => ?_)
        have hP : va_P G vwC2 (mW cA a (mnp V, mnq V + 1, 0, 0, va_up (va_up (va_up (va_up (va_up (mf V) 4 (upd (mf V 4) (mnq V + 1) x)) 5 (upd (mf V 5) (mnq V + 1) k0)) 6 (upd (mf V 6) (mnq V + 1) b0)) 7 (upd (mf V 7) (mnq V + 1) (-1))) 10 (upd (mf V 10) (mnq V + 1) (-1)), mg V)) H := hP
        have hD : va_D (mu_A (mW cA a V)) (mW cA a (mnp V, mnq V + 1, 0, 0, va_up (va_up (va_up (va_up (va_up (mf V) 4 (upd (mf V 4) (mnq V + 1) x)) 5 (upd (mf V 5) (mnq V + 1) k0)) 6 (upd (mf V 6) (mnq V + 1) b0)) 7 (upd (mf V 7) (mnq V + 1) (-1))) 10 (upd (mf V 10) (mnq V + 1) (-1)), mg V)) := hD
        refine lv_aload_n hx hb dM_port_113 rfl (lv_at hl 0 rfl) ?_
        refine va_get (D := G) (ci := 1) (v := .int (nI (mnq V + 1))) (C := RX1) (T := TM) (N := 18) hx hb hts hfi hown hK hP 0 rfl rfl 3 (by decide) (hts (.fieldLink RX1 71 "PortRulesModel" "ports" "I") (by decide +kernel)) (fun _ h9 => h9) rfl dM_port_114 ?_
        have hE : mPort V x k0 b0 = (nI (mnq V + 1), (mnp V, mnq V + 1, 0, 0, va_up (va_up (va_up (va_up (va_up (mf V) 4 (upd (mf V 4) (mnq V + 1) x)) 5 (upd (mf V 5) (mnq V + 1) k0)) 6 (upd (mf V 6) (mnq V + 1) b0)) 7 (upd (mf V 7) (mnq V + 1) (-1))) 10 (upd (mf V 10) (mnq V + 1) (-1)), mg V)) := by unfold mPort; rw [if_pos c16, if_pos c30, if_neg c42]; try rfl
        exact mu_iret ((mnp V, mnq V + 1, 0, 0, va_up (va_up (va_up (va_up (va_up (mf V) 4 (upd (mf V 4) (mnq V + 1) x)) 5 (upd (mf V 5) (mnq V + 1) k0)) 6 (upd (mf V 6) (mnq V + 1) b0)) 7 (upd (mf V 7) (mnq V + 1) (-1))) 10 (upd (mf V 10) (mnq V + 1) (-1)), mg V)) hx hb hr hS hP (by rw [hE]) (by rw [hE]) dM_port_117 hlocks
      · refine lv_bipush (v := -4) hx hb dM_port_45 (by decide) ?_
        have hE : mPort V x k0 b0 = (-4, (mnp V, mnq V, 0, mkn V, mf V, mg V)) := by unfold mPort; rw [if_pos c16, if_pos c30, if_pos c42]; try rfl
        exact mu_iret ((mnp V, mnq V, 0, mkn V, mf V, mg V)) hx hb hr hS hP (by rw [hE]) (by rw [hE]) dM_port_47 hlocks
    · refine lv_bipush (v := -2) hx hb dM_port_33 (by decide) ?_
      have hE : mPort V x k0 b0 = (-2, (mnp V, mnq V, 0, mkn V, mf V, mg V)) := by unfold mPort; rw [if_pos c16, if_neg (by rw [c30]; decide)]; try rfl
      exact mu_iret ((mnp V, mnq V, 0, mkn V, mf V, mg V)) hx hb hr hS hP (by rw [hE]) (by rw [hE]) dM_port_35 hlocks
  · refine lv_iconst (v := -1) hx hb dM_port_19 (by decide) ?_
    have hE : mPort V x k0 b0 = (-1, (mnp V, mnq V, 0, mkn V, mf V, mg V)) := by unfold mPort; rw [if_neg (by rw [c16]; decide)]; try rfl
    exact mu_iret ((mnp V, mnq V, 0, mkn V, mf V, mg V)) hx hb hr hS hP (by rw [hE]) (by rw [hE]) dM_port_20 hlocks
set_option maxHeartbeats 4000000 in
set_option maxRecDepth 100000 in
theorem cm_unit (l : Launch) (G : va_G) (cA : Nat → ClassId) (a : Nat → Nat) (V : MV) (x u0 : Int32) (y z : Int64) (h60 : mnq V ≤ 60) : Met l yM_unit wsM_unit { frames := 2, cells := 0, slots := 0, locals := 46 } (mu_Pc G vwC2 (tT cA) (mW cA a V) [.ref (a 0), .int x, .int u0, .long y, .long z]) (mu_Q G vwC2 (mW cA a V) (fun _ => some (.int ((mUnit V x u0 y z).1))) (fun u9 : MV => u9 = (mUnit V x u0 y z).2) (fun u9 => mW cA a u9)) 0 0 (mu_A (mW cA a V)) := by
  refine Met.ofW (cc := cM_unit) (maxL := 7) (ret := some .int) (by decide) rfl ?_
  intro p e s m args below meth c s₁ B hml hv
  obtain ⟨rfl, hP, hK, hD0⟩ := hv
  have hx := B.exec
  have hb := B.bytes
  have hr := B.returns
  have hts := atoms_spec (ws := wsM_unit) B.pre
  have hown : s.vm.findClass RX1 = some m.cls := findClass_of_methodNamed B.named
  have hlocks := B.notSynchronized
  have hD := mu_own hD0
  have hS : va_S (mu_A (mW cA a V)) s.heap s.heap [] := va_S.rf
  have hfi : ∀ w ∈ u_ws RX1 TM 18, w ∈ wsM_unit := fun w h => List.mem_cons_of_mem _ (wMA_f w h)
  have hl := lv_entry ([.ref (a 0), .int x, .int u0, .long y, .long z]) (n := 7) (Nat.le_of_ble_eq_true rfl)
  rw [lg_entry_eq]
  generalize (lg_sl ([.ref (a 0), .int x, .int u0, .long y, .long z]) ++ List.replicate (7 - (lg_sl ([.ref (a 0), .int x, .int u0, .long y, .long z])).length) Slot.unset).toArray = ls at hl ⊢
  have hl : lv_has ls 7 [(0, .ref (a 0)), (1, .int x), (2, .int u0), (3, .long y), (5, .long z)] := hl
  refine lv_aload_n hx hb dM_unit_0 rfl (lv_at hl 0 rfl) ?_
  refine lv_iconst (v := 0) hx hb dM_unit_1 (by decide) ?_
  refine va_put (D := G) (ci := 1) (v := .int 0) (ty := .int) (C := RX1) (T := TM) (N := 18) hx hb hts hfi tyM tyM_ok nmM hown hK hP hD hS 0 rfl rfl 0 (by decide) (hts (.fieldLink RX1 54 "PortRulesModel" "code" "I") (by decide +kernel)) (fun _ h9 => h9) rfl (by decide +kernel) rfl rfl (Nat.le_of_ble_eq_true rfl) dM_unit_2 (fun H locs hP hD hS => ?_)
  have hP : va_P G vwC2 (mW cA a (mnp V, mnq V, 0, mkn V, mf V, mg V)) H := hP
  have hD : va_D (mu_A (mW cA a V)) (mW cA a (mnp V, mnq V, 0, mkn V, mf V, mg V)) := hD
  refine lv_aload_n hx hb dM_unit_5 rfl (lv_at hl 0 rfl) ?_
  refine lv_iload_n hx hb dM_unit_6 rfl (lv_at hl 1 rfl) ?_
  refine rd_callV (As := [.int x]) (rest := []) (b := a 0) (q0 := 0) (ci := 1) ⟨hx, hb, hml, hown, hts⟩ (cm_isPort l G cA a ((mnp V, mnq V, 0, mkn V, mf V, mg V)) x h60) (cwV 1 hts gM_unit_M_isPort rfl rfl rfl (by decide +kernel) ⟨Nat.le_of_ble_eq_true rfl, Nat.le_of_ble_eq_true rfl⟩) hK hP rfl rfl rfl rfl hl.1 rfl (Nat.le_of_ble_eq_true rfl) dM_unit_7 ⟨Nat.zero_le _, Nat.zero_le _⟩ ?_
  refine bb_ne (b := (inB x 1 (mnq V))) (tgt := 15) hx hb dM_unit_10 (by decide) (fun c10 => ?_) (fun c10 => ?_)
  · obtain ⟨p0, hp01, hp02, rfl⟩ := inB_nI (by omega) c10
    refine lv_iload_n hx hb dM_unit_15 rfl (lv_at hl 2 rfl) ?_
    refine lv_i2l (v := u0.toInt64) hx hb dM_unit_16 (rfl) ?_
    refine lv_lconst (v := 0) hx hb dM_unit_17 (by decide) ?_
    refine lv_ldc2 (v := 20) hx hb hown (hts (.constantLong RX1 78 20) (by decide +kernel)) dM_unit_18 ?_
    refine rd_callS (As := [.long (u0.toInt64), .long 0, .long 20]) (rest := []) ⟨hx, hb, hml, hown, hts⟩ (cm_isIn l u0.toInt64 0 20) (va_cwS 3 hts gM_unit_M_isIn rfl rfl rfl (by decide +kernel) ⟨Nat.le_of_ble_eq_true rfl, Nat.le_of_ble_eq_true rfl⟩) rfl hl.1 rfl (Nat.le_of_ble_eq_true rfl) dM_unit_21 ⟨Nat.zero_le _, Nat.zero_le _⟩ ?_
    refine rd_topi (y := z1 (inB u0 0 20)) (z1_ne (isI_b (by decide) (by decide))) ?_
    refine bb_eq (b := (inB u0 0 20)) (tgt := 50) hx hb dM_unit_24 (by decide) (fun c24 => ?_) (fun c24 => ?_)
    · refine lv_bipush (v := -2) hx hb dM_unit_50 (by decide) ?_
      have hE : mUnit V (nI p0) u0 y z = (-2, (mnp V, mnq V, 0, mkn V, mf V, mg V)) := by unfold mUnit; rw [if_pos c10, if_neg (fun h => by rw [c24] at h; exact absurd h.1 (by decide))]; try rfl
      exact mu_iret ((mnp V, mnq V, 0, mkn V, mf V, mg V)) hx hb hr hS hP (by rw [hE]) (by rw [hE]) dM_unit_52 hlocks
    · refine lv_lload_n hx hb dM_unit_27 rfl (lv_at hl 3 rfl) ?_
      refine lv_lconst (v := 1) hx hb dM_unit_28 (by decide) ?_
      refine lv_ldc2 (v := 1000) hx hb hown (hts (.constantLong RX1 80 1000) (by decide +kernel)) dM_unit_29 ?_
      refine rd_callS (As := [.long y, .long 1, .long 1000]) (rest := []) ⟨hx, hb, hml, hown, hts⟩ (cm_isIn l y 1 1000) (va_cwS 3 hts gM_unit_M_isIn rfl rfl rfl (by decide +kernel) ⟨Nat.le_of_ble_eq_true rfl, Nat.le_of_ble_eq_true rfl⟩) rfl hl.1 rfl (Nat.le_of_ble_eq_true rfl) dM_unit_32 ⟨Nat.zero_le _, Nat.zero_le _⟩ ?_
      refine rd_topi (y := z1 (inL y 1 1000)) (z1_ne (isI_l (by decide) (by decide))) ?_
      refine bb_eq (b := (inL y 1 1000)) (tgt := 50) hx hb dM_unit_35 (by decide) (fun c35 => ?_) (fun c35 => ?_)
      · refine lv_bipush (v := -2) hx hb dM_unit_50 (by decide) ?_
        have hE : mUnit V (nI p0) u0 y z = (-2, (mnp V, mnq V, 0, mkn V, mf V, mg V)) := by unfold mUnit; rw [if_pos c10, if_neg (fun h => by rw [c35] at h; exact absurd h.2.1 (by decide))]; try rfl
        exact mu_iret ((mnp V, mnq V, 0, mkn V, mf V, mg V)) hx hb hr hS hP (by rw [hE]) (by rw [hE]) dM_unit_52 hlocks
      · refine lv_lload hx hb dM_unit_38 (lv_at hl 4 rfl) ?_
        refine lv_lconst (v := 1) hx hb dM_unit_40 (by decide) ?_
        refine lv_ldc2 (v := 1000) hx hb hown (hts (.constantLong RX1 80 1000) (by decide +kernel)) dM_unit_41 ?_
        refine rd_callS (As := [.long z, .long 1, .long 1000]) (rest := []) ⟨hx, hb, hml, hown, hts⟩ (cm_isIn l z 1 1000) (va_cwS 3 hts gM_unit_M_isIn rfl rfl rfl (by decide +kernel) ⟨Nat.le_of_ble_eq_true rfl, Nat.le_of_ble_eq_true rfl⟩) rfl hl.1 rfl (Nat.le_of_ble_eq_true rfl) dM_unit_44 ⟨Nat.zero_le _, Nat.zero_le _⟩ ?_
        refine rd_topi (y := z1 (inL z 1 1000)) (z1_ne (isI_l (by decide) (by decide))) ?_
        refine bb_ne (b := (inL z 1 1000)) (tgt := 53) hx hb dM_unit_47 (by decide) (fun c47 => ?_) (fun c47 => ?_)
        · refine lv_aload_n hx hb dM_unit_53 rfl (lv_at hl 0 rfl) ?_
          refine va_get (D := G) (ci := 1) (v := .ref (a 7)) (C := RX1) (T := TM) (N := 18) hx hb hts hfi hown hK hP 0 rfl rfl 7 (by decide) (hts (.fieldLink RX1 23 "PortRulesModel" "unit" "[I") (by decide +kernel)) (fun _ h9 => h9) rfl dM_unit_54 ?_
          refine lv_iload_n hx hb dM_unit_57 rfl (lv_at hl 1 rfl) ?_
          refine lv_iload_n hx hb dM_unit_58 rfl (lv_at hl 2 rfl) ?_
          refine mu_iast hx hb hK hP hD hS 5 0 rfl rfl (by omega) (by decide) dM_unit_59 (ws1 := mW cA a (mnp V, mnq V, 0, mkn V, va_up (mf V) 7 (upd (mf V 7) p0 u0), mg V)) rfl (fun H locs hP hD hS => ?_)
          refine lv_aload_n hx hb dM_unit_60 rfl (lv_at hl 0 rfl) ?_
          refine va_get (D := G) (ci := 1) (v := .ref (a 8)) (C := RX1) (T := TM) (N := 18) hx hb hts hfi hown hK hP 0 rfl rfl 8 (by decide) (hts (.fieldLink RX1 26 "PortRulesModel" "up" "[J") (by decide +kernel)) (fun _ h9 => h9) rfl dM_unit_61 ?_
          refine lv_iload_n hx hb dM_unit_64 rfl (lv_at hl 1 rfl) ?_
          refine lv_lload_n hx hb dM_unit_65 rfl (lv_at hl 3 rfl) ?_
          refine mu_last hx hb hK hP hD hS 6 2 rfl rfl (by omega) (by decide) dM_unit_66 (ws1 := mW cA a (mnp V, mnq V, 0, mkn V, va_up (mf V) 7 (upd (mf V 7) p0 u0), va_up (mg V) 8 (vp_updL (mg V 8) p0 y))) rfl (fun H locs hP hD hS => ?_)
          refine lv_aload_n hx hb dM_unit_67 rfl (lv_at hl 0 rfl) ?_
          refine va_get (D := G) (ci := 1) (v := .ref (a 9)) (C := RX1) (T := TM) (N := 18) hx hb hts hfi hown hK hP 0 rfl rfl 9 (by decide) (hts (.fieldLink RX1 30 "PortRulesModel" "down" "[J") (by decide +kernel)) (fun _ h9 => h9) rfl dM_unit_68 ?_
          refine lv_iload_n hx hb dM_unit_71 rfl (lv_at hl 1 rfl) ?_
          refine lv_lload hx hb dM_unit_72 (lv_at hl 4 rfl) ?_
          refine mu_last hx hb hK hP hD hS 7 2 rfl rfl (by omega) (by decide) dM_unit_74 (ws1 := mW cA a (mnp V, mnq V, 0, mkn V, va_up (mf V) 7 (upd (mf V 7) p0 u0), va_up (va_up (mg V) 8 (vp_updL (mg V 8) p0 y)) 9 (vp_updL (mg V 9) p0 z))) rfl (fun H locs hP hD hS => ?_)
          refine lv_iconst (v := 1) hx hb dM_unit_75 (by decide) ?_
          have hE : mUnit V (nI p0) u0 y z = (1, (mnp V, mnq V, 0, mkn V, va_up (mf V) 7 (upd (mf V 7) p0 u0), va_up (va_up (mg V) 8 (vp_updL (mg V 8) p0 y)) 9 (vp_updL (mg V 9) p0 z))) := by unfold mUnit; rw [if_pos c10, if_pos ⟨c24, c35, c47⟩, nI_clamp (by omega)]; try rfl
          exact mu_iret ((mnp V, mnq V, 0, mkn V, va_up (mf V) 7 (upd (mf V 7) p0 u0), va_up (va_up (mg V) 8 (vp_updL (mg V 8) p0 y)) 9 (vp_updL (mg V 9) p0 z))) hx hb hr hS hP (by rw [hE]) (by rw [hE]) dM_unit_76 hlocks
        · refine lv_bipush (v := -2) hx hb dM_unit_50 (by decide) ?_
          have hE : mUnit V (nI p0) u0 y z = (-2, (mnp V, mnq V, 0, mkn V, mf V, mg V)) := by unfold mUnit; rw [if_pos c10, if_neg (fun h => by rw [c47] at h; exact absurd h.2.2 (by decide))]; try rfl
          exact mu_iret ((mnp V, mnq V, 0, mkn V, mf V, mg V)) hx hb hr hS hP (by rw [hE]) (by rw [hE]) dM_unit_52 hlocks
  · refine lv_iconst (v := -1) hx hb dM_unit_13 (by decide) ?_
    have hE : mUnit V x u0 y z = (-1, (mnp V, mnq V, 0, mkn V, mf V, mg V)) := by unfold mUnit; rw [if_neg (by rw [c10]; decide)]; try rfl
    exact mu_iret ((mnp V, mnq V, 0, mkn V, mf V, mg V)) hx hb hr hS hP (by rw [hE]) (by rw [hE]) dM_unit_14 hlocks
set_option maxHeartbeats 4000000 in
set_option maxRecDepth 100000 in
theorem cm_connect (l : Launch) (G : va_G) (cA : Nat → ClassId) (a : Nat → Nat) (V : MV) (x y : Int32) (hok : mOK V) : Met l yM_connect wsM_connect { frames := 2, cells := 0, slots := 0, locals := 46 } (mu_Pc G vwC2 (tT cA) (mW cA a V) [.ref (a 0), .int x, .int y]) (mu_Q G vwC2 (mW cA a V) (fun _ => some (.int ((mConn V x y).1))) (fun u9 : MV => u9 = (mConn V x y).2) (fun u9 => mW cA a u9)) 0 0 (mu_A (mW cA a V)) := by
  refine Met.ofW (cc := cM_connect) (maxL := 3) (ret := some .int) (by decide) rfl ?_
  intro p e s m args below meth c s₁ B hml hv
  obtain ⟨rfl, hP, hK, hD0⟩ := hv
  have hx := B.exec
  have hb := B.bytes
  have hr := B.returns
  have hts := atoms_spec (ws := wsM_connect) B.pre
  have hown : s.vm.findClass RX1 = some m.cls := findClass_of_methodNamed B.named
  have hlocks := B.notSynchronized
  have hD := mu_own hD0
  have hS : va_S (mu_A (mW cA a V)) s.heap s.heap [] := va_S.rf
  have hfi : ∀ w ∈ u_ws RX1 TM 18, w ∈ wsM_connect := fun w h => List.mem_cons_of_mem _ (wMA_f w h)
  have hl := lv_entry ([.ref (a 0), .int x, .int y]) (n := 3) (Nat.le_of_ble_eq_true rfl)
  rw [lg_entry_eq]
  generalize (lg_sl ([.ref (a 0), .int x, .int y]) ++ List.replicate (3 - (lg_sl ([.ref (a 0), .int x, .int y])).length) Slot.unset).toArray = ls at hl ⊢
  have hl : lv_has ls 3 [(0, .ref (a 0)), (1, .int x), (2, .int y)] := hl
  have h60 : mnq V ≤ 60 := hok.2.1
  have h30 : mnp V ≤ 30 := hok.1
  refine lv_aload_n hx hb dM_connect_0 rfl (lv_at hl 0 rfl) ?_
  refine lv_iconst (v := 0) hx hb dM_connect_1 (by decide) ?_
  refine va_put (D := G) (ci := 1) (v := .int 0) (ty := .int) (C := RX1) (T := TM) (N := 18) hx hb hts hfi tyM tyM_ok nmM hown hK hP hD hS 0 rfl rfl 0 (by decide) (hts (.fieldLink RX1 54 "PortRulesModel" "code" "I") (by decide +kernel)) (fun _ h9 => h9) rfl (by decide +kernel) rfl rfl (Nat.le_of_ble_eq_true rfl) dM_connect_2 (fun H locs hP hD hS => ?_)
  have hP : va_P G vwC2 (mW cA a (mnp V, mnq V, 0, mkn V, mf V, mg V)) H := hP
  have hD : va_D (mu_A (mW cA a V)) (mW cA a (mnp V, mnq V, 0, mkn V, mf V, mg V)) := hD
  refine lv_aload_n hx hb dM_connect_5 rfl (lv_at hl 0 rfl) ?_
  refine lv_iload_n hx hb dM_connect_6 rfl (lv_at hl 1 rfl) ?_
  refine rd_callV (As := [.int x]) (rest := []) (b := a 0) (q0 := 0) (ci := 1) ⟨hx, hb, hml, hown, hts⟩ (cm_isPort l G cA a ((mnp V, mnq V, 0, mkn V, mf V, mg V)) x h60) (cwV 1 hts gM_connect_M_isPort rfl rfl rfl (by decide +kernel) ⟨Nat.le_of_ble_eq_true rfl, Nat.le_of_ble_eq_true rfl⟩) hK hP rfl rfl rfl rfl hl.1 rfl (Nat.le_of_ble_eq_true rfl) dM_connect_7 ⟨Nat.zero_le _, Nat.zero_le _⟩ ?_
  refine bb_eq (b := (inB x 1 (mnq V))) (tgt := 21) hx hb dM_connect_10 (by decide) (fun c10 => ?_) (fun c10 => ?_)
  · refine lv_iconst (v := -1) hx hb dM_connect_21 (by decide) ?_
    have hE : mConn V x y = (-1, (mnp V, mnq V, 0, mkn V, mf V, mg V)) := by unfold mConn; rw [if_neg (fun h => by rw [c10] at h; exact absurd h.1 (by decide))]; try rfl
    exact mu_iret ((mnp V, mnq V, 0, mkn V, mf V, mg V)) hx hb hr hS hP (by rw [hE]) (by rw [hE]) dM_connect_22 hlocks
  · obtain ⟨p0, hp01, hp02, rfl⟩ := inB_nI (by omega) c10
    refine lv_aload_n hx hb dM_connect_13 rfl (lv_at hl 0 rfl) ?_
    refine lv_iload_n hx hb dM_connect_14 rfl (lv_at hl 2 rfl) ?_
    refine rd_callV (As := [.int y]) (rest := []) (b := a 0) (q0 := 0) (ci := 1) ⟨hx, hb, hml, hown, hts⟩ (cm_isPort l G cA a ((mnp V, mnq V, 0, mkn V, mf V, mg V)) y h60) (cwV 1 hts gM_connect_M_isPort rfl rfl rfl (by decide +kernel) ⟨Nat.le_of_ble_eq_true rfl, Nat.le_of_ble_eq_true rfl⟩) hK hP rfl rfl rfl rfl hl.1 rfl (Nat.le_of_ble_eq_true rfl) dM_connect_15 ⟨Nat.zero_le _, Nat.zero_le _⟩ ?_
    refine bb_ne (b := (inB y 1 (mnq V))) (tgt := 23) hx hb dM_connect_18 (by decide) (fun c18 => ?_) (fun c18 => ?_)
    · obtain ⟨q0, hq01, hq02, rfl⟩ := inB_nI (by omega) c18
      obtain ⟨u, hu1, hu2, eu⟩ := hok.2.2.1 p0 hp01 hp02
      obtain ⟨v, hv1, hv2, ev⟩ := hok.2.2.1 q0 hq01 hq02
      refine lv_aload_n hx hb dM_connect_23 rfl (lv_at hl 0 rfl) ?_
      refine va_get (D := G) (ci := 1) (v := .ref (a 5)) (C := RX1) (T := TM) (N := 18) hx hb hts hfi hown hK hP 0 rfl rfl 5 (by decide) (hts (.fieldLink RX1 16 "PortRulesModel" "kindOf" "[I") (by decide +kernel)) (fun _ h9 => h9) rfl dM_connect_24 ?_
      refine lv_iload_n hx hb dM_connect_27 rfl (lv_at hl 1 rfl) ?_
      refine rd_iald hx hb hK hP 3 0 rfl rfl (by omega) (by decide) dM_connect_28 ?_
      refine lv_aload_n hx hb dM_connect_29 rfl (lv_at hl 0 rfl) ?_
      refine va_get (D := G) (ci := 1) (v := .ref (a 5)) (C := RX1) (T := TM) (N := 18) hx hb hts hfi hown hK hP 0 rfl rfl 5 (by decide) (hts (.fieldLink RX1 16 "PortRulesModel" "kindOf" "[I") (by decide +kernel)) (fun _ h9 => h9) rfl dM_connect_30 ?_
      refine lv_iload_n hx hb dM_connect_33 rfl (lv_at hl 2 rfl) ?_
      refine rd_iald hx hb hK hP 3 0 rfl rfl (by omega) (by decide) dM_connect_34 ?_
      refine lv_icmp_ne (tgt := 47) hx hb dM_connect_35 (by decide) (fun c35 => ?_) (fun c35 => ?_)
      · refine lv_bipush (v := -2) hx hb dM_connect_47 (by decide) ?_
        have hE : mConn V (nI p0) (nI q0) = (-2, (mnp V, mnq V, 0, mkn V, mf V, mg V)) := by unfold mConn; rw [if_pos ⟨c10, c18⟩, nI_clamp (show p0 < 2 ^ 31 by omega), nI_clamp (show q0 < 2 ^ 31 by omega), eu, ev, nI_clamp (show u < 2 ^ 31 by omega), nI_clamp (show v < 2 ^ 31 by omega), if_neg (fun h => c35 h.1)]; try rfl
        exact mu_iret ((mnp V, mnq V, 0, mkn V, mf V, mg V)) hx hb hr hS hP (by rw [hE]) (by rw [hE]) dM_connect_49 hlocks
      · refine lv_aload_n hx hb dM_connect_38 rfl (lv_at hl 0 rfl) ?_
        refine lv_iload_n hx hb dM_connect_39 rfl (lv_at hl 1 rfl) ?_
        refine lv_iload_n hx hb dM_connect_40 rfl (lv_at hl 2 rfl) ?_
        refine rd_callV (As := [.int (nI p0), .int (nI q0)]) (rest := []) (b := a 0) (q0 := 0) (ci := 1) ⟨hx, hb, hml, hown, hts⟩ (cm_isWay l G cA a ((mnp V, mnq V, 0, mkn V, mf V, mg V)) p0 q0 u v (by omega) (by omega) (by omega) (by omega) eu ev) (cwV 2 hts gM_connect_M_isWay rfl rfl rfl (by decide +kernel) ⟨Nat.le_of_ble_eq_true rfl, Nat.le_of_ble_eq_true rfl⟩) hK hP rfl rfl rfl rfl hl.1 rfl (Nat.le_of_ble_eq_true rfl) dM_connect_41 ⟨Nat.zero_le _, Nat.zero_le _⟩ ?_
        refine bb_ne (b := (mWay V p0 q0 u v)) (tgt := 50) hx hb dM_connect_44 (by decide) (fun c44 => ?_) (fun c44 => ?_)
        · refine lv_aload_n hx hb dM_connect_50 rfl (lv_at hl 0 rfl) ?_
          refine va_get (D := G) (ci := 1) (v := .ref (a 15)) (C := RX1) (T := TM) (N := 18) hx hb hts hfi hown hK hP 0 rfl rfl 15 (by decide) (hts (.fieldLink RX1 48 "PortRulesModel" "leads" "[Z") (by decide +kernel)) (fun _ h9 => h9) rfl dM_connect_51 ?_
          refine lv_bipush (v := nI 61) hx hb dM_connect_54 (by decide) ?_
          refine lv_iload_n hx hb dM_connect_56 rfl (lv_at hl 1 rfl) ?_
          refine lv_imul hx hb dM_connect_57 ?_
          refine rd_topi (y := nI (61 * p0)) (pk_mul _ _) ?_
          refine lv_iload_n hx hb dM_connect_58 rfl (lv_at hl 2 rfl) ?_
          refine lv_iadd hx hb dM_connect_59 ?_
          refine rd_topi (y := nI (61 * p0 + q0)) (nI_add _ _) ?_
          refine rd_zald hx hb hK hP 13 1 rfl rfl (by omega) (by decide) dM_connect_60 ?_
          refine lv_if_eq (tgt := 66) hx hb dM_connect_61 (by decide) (fun c61 => ?_) (fun c61 => ?_)
          · refine lv_aload_n hx hb dM_connect_66 rfl (lv_at hl 0 rfl) ?_
            refine va_get (D := G) (ci := 1) (v := .ref (a 15)) (C := RX1) (T := TM) (N := 18) hx hb hts hfi hown hK hP 0 rfl rfl 15 (by decide) (hts (.fieldLink RX1 48 "PortRulesModel" "leads" "[Z") (by decide +kernel)) (fun _ h9 => h9) rfl dM_connect_67 ?_
            refine lv_bipush (v := nI 61) hx hb dM_connect_70 (by decide) ?_
            refine lv_iload_n hx hb dM_connect_72 rfl (lv_at hl 1 rfl) ?_
            refine lv_imul hx hb dM_connect_73 ?_
            refine rd_topi (y := nI (61 * p0)) (pk_mul _ _) ?_
            refine lv_iload_n hx hb dM_connect_74 rfl (lv_at hl 2 rfl) ?_
            refine lv_iadd hx hb dM_connect_75 ?_
            refine rd_topi (y := nI (61 * p0 + q0)) (nI_add _ _) ?_
            refine lv_iconst (v := 1) hx hb dM_connect_76 (by decide) ?_
            refine mu_zast hx hb hK hP hD hS 13 1 rfl rfl (by omega) (by decide) rfl dM_connect_77 (ws1 := mW cA a (mnp V, mnq V, 0, mkn V, va_up (mf V) 15 (upd (mf V 15) (61 * p0 + q0) 1), mg V)) rfl (fun H locs hP hD hS => ?_)
            refine lv_aload_n hx hb dM_connect_78 rfl (lv_at hl 0 rfl) ?_
            refine lv_iconst (v := 0) hx hb dM_connect_79 (by decide) ?_
            refine va_put (D := G) (ci := 1) (v := .int 0) (ty := .boolean) (C := RX1) (T := TM) (N := 18) hx hb hts hfi tyM tyM_ok nmM hown hK hP hD hS 0 rfl rfl 17 (by decide) (hts (.fieldLink RX1 65 "PortRulesModel" "known" "Z") (by decide +kernel)) (fun _ h9 => h9) rfl (by decide +kernel) rfl rfl (Nat.le_of_ble_eq_true rfl) dM_connect_80 (fun H locs hP hD hS => ?_)
            have hP : va_P G vwC2 (mW cA a (mnp V, mnq V, 0, 0, va_up (mf V) 15 (upd (mf V 15) (61 * p0 + q0) 1), mg V)) H := hP
            have hD : va_D (mu_A (mW cA a V)) (mW cA a (mnp V, mnq V, 0, 0, va_up (mf V) 15 (upd (mf V 15) (61 * p0 + q0) 1), mg V)) := hD
            refine lv_iconst (v := 1) hx hb dM_connect_83 (by decide) ?_
            have hE : mConn V (nI p0) (nI q0) = (1, (mnp V, mnq V, 0, 0, va_up (mf V) 15 (upd (mf V 15) (61 * p0 + q0) 1), mg V)) := by unfold mConn; rw [if_pos ⟨c10, c18⟩, nI_clamp (show p0 < 2 ^ 31 by omega), nI_clamp (show q0 < 2 ^ 31 by omega), eu, ev, nI_clamp (show u < 2 ^ 31 by omega), nI_clamp (show v < 2 ^ 31 by omega), if_pos ⟨c35, c44⟩, if_pos c61]; try rfl
            exact mu_iret ((mnp V, mnq V, 0, 0, va_up (mf V) 15 (upd (mf V 15) (61 * p0 + q0) 1), mg V)) hx hb hr hS hP (by rw [hE]) (by rw [hE]) dM_connect_84 hlocks
          · refine lv_iconst (v := 0) hx hb dM_connect_64 (by decide) ?_
            have hE : mConn V (nI p0) (nI q0) = (0, (mnp V, mnq V, 0, mkn V, mf V, mg V)) := by unfold mConn; rw [if_pos ⟨c10, c18⟩, nI_clamp (show p0 < 2 ^ 31 by omega), nI_clamp (show q0 < 2 ^ 31 by omega), eu, ev, nI_clamp (show u < 2 ^ 31 by omega), nI_clamp (show v < 2 ^ 31 by omega), if_pos ⟨c35, c44⟩, if_neg c61]; try rfl
            exact mu_iret ((mnp V, mnq V, 0, mkn V, mf V, mg V)) hx hb hr hS hP (by rw [hE]) (by rw [hE]) dM_connect_65 hlocks
        · refine lv_bipush (v := -2) hx hb dM_connect_47 (by decide) ?_
          have hE : mConn V (nI p0) (nI q0) = (-2, (mnp V, mnq V, 0, mkn V, mf V, mg V)) := by unfold mConn; rw [if_pos ⟨c10, c18⟩, nI_clamp (show p0 < 2 ^ 31 by omega), nI_clamp (show q0 < 2 ^ 31 by omega), eu, ev, nI_clamp (show u < 2 ^ 31 by omega), nI_clamp (show v < 2 ^ 31 by omega), if_neg (fun h => by rw [c44] at h; exact absurd h.2 (by decide))]; try rfl
          exact mu_iret ((mnp V, mnq V, 0, mkn V, mf V, mg V)) hx hb hr hS hP (by rw [hE]) (by rw [hE]) dM_connect_49 hlocks
    · refine lv_iconst (v := -1) hx hb dM_connect_21 (by decide) ?_
      have hE : mConn V (nI p0) y = (-1, (mnp V, mnq V, 0, mkn V, mf V, mg V)) := by unfold mConn; rw [if_neg (fun h => by rw [c18] at h; exact absurd h.2 (by decide))]; try rfl
      exact mu_iret ((mnp V, mnq V, 0, mkn V, mf V, mg V)) hx hb hr hS hP (by rw [hE]) (by rw [hE]) dM_connect_22 hlocks
set_option maxHeartbeats 4000000 in
set_option maxRecDepth 100000 in
theorem cm_manager (l : Launch) (G : va_G) (cA : Nat → ClassId) (a : Nat → Nat) (V : MV) (k0 x : Int32) (h30 : mnp V ≤ 30) : Met l yM_manager wsM_manager { frames := 1, cells := 0, slots := 0, locals := 25 } (mu_Pc G vwC2 (tT cA) (mW cA a V) [.ref (a 0), .int k0, .int x]) (mu_Q G vwC2 (mW cA a V) (fun _ => some (.int ((mMan V k0 x).1))) (fun u9 : MV => u9 = (mMan V k0 x).2) (fun u9 => mW cA a u9)) 0 0 (mu_A (mW cA a V)) := by
  refine Met.ofW (cc := cM_manager) (maxL := 3) (ret := some .int) (by decide) rfl ?_
  intro p e s m args below meth c s₁ B hml hv
  obtain ⟨rfl, hP, hK, hD0⟩ := hv
  have hx := B.exec
  have hb := B.bytes
  have hr := B.returns
  have hts := atoms_spec (ws := wsM_manager) B.pre
  have hown : s.vm.findClass RX1 = some m.cls := findClass_of_methodNamed B.named
  have hlocks := B.notSynchronized
  have hD := mu_own hD0
  have hS : va_S (mu_A (mW cA a V)) s.heap s.heap [] := va_S.rf
  have hfi : ∀ w ∈ u_ws RX1 TM 18, w ∈ wsM_manager := fun w h => List.mem_cons_of_mem _ (wMA_f w h)
  have hl := lv_entry ([.ref (a 0), .int k0, .int x]) (n := 3) (Nat.le_of_ble_eq_true rfl)
  rw [lg_entry_eq]
  generalize (lg_sl ([.ref (a 0), .int k0, .int x]) ++ List.replicate (3 - (lg_sl ([.ref (a 0), .int k0, .int x])).length) Slot.unset).toArray = ls at hl ⊢
  have hl : lv_has ls 3 [(0, .ref (a 0)), (1, .int k0), (2, .int x)] := hl
  refine lv_aload_n hx hb dM_manager_0 rfl (lv_at hl 0 rfl) ?_
  refine lv_iconst (v := 0) hx hb dM_manager_1 (by decide) ?_
  refine va_put (D := G) (ci := 1) (v := .int 0) (ty := .int) (C := RX1) (T := TM) (N := 18) hx hb hts hfi tyM tyM_ok nmM hown hK hP hD hS 0 rfl rfl 0 (by decide) (hts (.fieldLink RX1 54 "PortRulesModel" "code" "I") (by decide +kernel)) (fun _ h9 => h9) rfl (by decide +kernel) rfl rfl (Nat.le_of_ble_eq_true rfl) dM_manager_2 (fun H locs hP hD hS => ?_)
  have hP : va_P G vwC2 (mW cA a (mnp V, mnq V, 0, mkn V, mf V, mg V)) H := hP
  have hD : va_D (mu_A (mW cA a V)) (mW cA a (mnp V, mnq V, 0, mkn V, mf V, mg V)) := hD
  refine lv_iload_n hx hb dM_manager_5 rfl (lv_at hl 2 rfl) ?_
  refine lv_i2l (v := x.toInt64) hx hb dM_manager_6 (rfl) ?_
  refine lv_lconst (v := 1) hx hb dM_manager_7 (by decide) ?_
  refine lv_aload_n hx hb dM_manager_8 rfl (lv_at hl 0 rfl) ?_
  refine va_get (D := G) (ci := 1) (v := .int (nI (mnp V))) (C := RX1) (T := TM) (N := 18) hx hb hts hfi hown hK hP 0 rfl rfl 1 (by decide) (hts (.fieldLink RX1 58 "PortRulesModel" "parts" "I") (by decide +kernel)) (fun _ h9 => h9) rfl dM_manager_9 ?_
  refine lv_i2l (v := (nI (mnp V)).toInt64) hx hb dM_manager_12 (rfl) ?_
  refine rd_callS (As := [.long (x.toInt64), .long 1, .long ((nI (mnp V)).toInt64)]) (rest := []) ⟨hx, hb, hml, hown, hts⟩ (cm_isIn l x.toInt64 1 ((nI (mnp V)).toInt64)) (va_cwS 3 hts gM_manager_M_isIn rfl rfl rfl (by decide +kernel) ⟨Nat.le_of_ble_eq_true rfl, Nat.le_of_ble_eq_true rfl⟩) rfl hl.1 rfl (Nat.le_of_ble_eq_true rfl) dM_manager_13 ⟨Nat.zero_le _, Nat.zero_le _⟩ ?_
  refine rd_topi (y := z1 (inB x 1 (mnp V))) (z1_ne (isI_b (by decide) (ni_l (show mnp V < 2 ^ 31 by omega)))) ?_
  refine bb_ne (b := (inB x 1 (mnp V))) (tgt := 21) hx hb dM_manager_16 (by decide) (fun c16 => ?_) (fun c16 => ?_)
  · obtain ⟨p0, hp01, hp02, rfl⟩ := inB_nI (by omega) c16
    refine lv_iload_n hx hb dM_manager_21 rfl (lv_at hl 1 rfl) ?_
    refine lv_i2l (v := k0.toInt64) hx hb dM_manager_22 (rfl) ?_
    refine lv_lconst (v := 0) hx hb dM_manager_23 (by decide) ?_
    refine lv_ldc2 (v := 9) hx hb hown (hts (.constantLong RX1 115 9) (by decide +kernel)) dM_manager_24 ?_
    refine rd_callS (As := [.long (k0.toInt64), .long 0, .long 9]) (rest := []) ⟨hx, hb, hml, hown, hts⟩ (cm_isIn l k0.toInt64 0 9) (va_cwS 3 hts gM_manager_M_isIn rfl rfl rfl (by decide +kernel) ⟨Nat.le_of_ble_eq_true rfl, Nat.le_of_ble_eq_true rfl⟩) rfl hl.1 rfl (Nat.le_of_ble_eq_true rfl) dM_manager_27 ⟨Nat.zero_le _, Nat.zero_le _⟩ ?_
    refine rd_topi (y := z1 (inB k0 0 9)) (z1_ne (isI_b (by decide) (by decide))) ?_
    refine bb_ne (b := (inB k0 0 9)) (tgt := 36) hx hb dM_manager_30 (by decide) (fun c30 => ?_) (fun c30 => ?_)
    · obtain ⟨k1, hk1, rfl⟩ := ni_pos (inB_of c30).1
      have hk9 := (inB_of c30).2
      rw [nI_toInt hk1] at hk9
      refine lv_aload_n hx hb dM_manager_36 rfl (lv_at hl 0 rfl) ?_
      refine va_get (D := G) (ci := 1) (v := .ref (a 14)) (C := RX1) (T := TM) (N := 18) hx hb hts hfi hown hK hP 0 rfl rfl 14 (by decide) (hts (.fieldLink RX1 45 "PortRulesModel" "manager" "[I") (by decide +kernel)) (fun _ h9 => h9) rfl dM_manager_37 ?_
      refine lv_iload_n hx hb dM_manager_40 rfl (lv_at hl 1 rfl) ?_
      refine rd_iald hx hb hK hP 12 0 rfl rfl (by omega) (by decide) dM_manager_41 ?_
      refine lv_if_eq (tgt := 57) hx hb dM_manager_42 (by decide) (fun c42 => ?_) (fun c42 => ?_)
      · refine lv_aload_n hx hb dM_manager_57 rfl (lv_at hl 0 rfl) ?_
        refine va_get (D := G) (ci := 1) (v := .ref (a 14)) (C := RX1) (T := TM) (N := 18) hx hb hts hfi hown hK hP 0 rfl rfl 14 (by decide) (hts (.fieldLink RX1 45 "PortRulesModel" "manager" "[I") (by decide +kernel)) (fun _ h9 => h9) rfl dM_manager_58 ?_
        refine lv_iload_n hx hb dM_manager_61 rfl (lv_at hl 1 rfl) ?_
        refine lv_iload_n hx hb dM_manager_62 rfl (lv_at hl 2 rfl) ?_
        refine mu_iast hx hb hK hP hD hS 12 0 rfl rfl (by omega) (by decide) dM_manager_63 (ws1 := mW cA a (mnp V, mnq V, 0, mkn V, va_up (mf V) 14 (upd (mf V 14) k1 (nI p0)), mg V)) rfl (fun H locs hP hD hS => ?_)
        refine lv_iconst (v := 1) hx hb dM_manager_64 (by decide) ?_
        have hE : mMan V (nI k1) (nI p0) = (1, (mnp V, mnq V, 0, mkn V, va_up (mf V) 14 (upd (mf V 14) k1 (nI p0)), mg V)) := by unfold mMan; rw [if_pos c16, if_pos c30, nI_clamp (by omega), if_pos (Or.inl c42)]; try rfl
        exact mu_iret ((mnp V, mnq V, 0, mkn V, va_up (mf V) 14 (upd (mf V 14) k1 (nI p0)), mg V)) hx hb hr hS hP (by rw [hE]) (by rw [hE]) dM_manager_65 hlocks
      · refine lv_aload_n hx hb dM_manager_45 rfl (lv_at hl 0 rfl) ?_
        refine va_get (D := G) (ci := 1) (v := .ref (a 14)) (C := RX1) (T := TM) (N := 18) hx hb hts hfi hown hK hP 0 rfl rfl 14 (by decide) (hts (.fieldLink RX1 45 "PortRulesModel" "manager" "[I") (by decide +kernel)) (fun _ h9 => h9) rfl dM_manager_46 ?_
        refine lv_iload_n hx hb dM_manager_49 rfl (lv_at hl 1 rfl) ?_
        refine rd_iald hx hb hK hP 12 0 rfl rfl (by omega) (by decide) dM_manager_50 ?_
        refine lv_iload_n hx hb dM_manager_51 rfl (lv_at hl 2 rfl) ?_
        refine lv_icmp_eq (tgt := 57) hx hb dM_manager_52 (by decide) (fun c52 => ?_) (fun c52 => ?_)
        · refine lv_aload_n hx hb dM_manager_57 rfl (lv_at hl 0 rfl) ?_
          refine va_get (D := G) (ci := 1) (v := .ref (a 14)) (C := RX1) (T := TM) (N := 18) hx hb hts hfi hown hK hP 0 rfl rfl 14 (by decide) (hts (.fieldLink RX1 45 "PortRulesModel" "manager" "[I") (by decide +kernel)) (fun _ h9 => h9) rfl dM_manager_58 ?_
          refine lv_iload_n hx hb dM_manager_61 rfl (lv_at hl 1 rfl) ?_
          refine lv_iload_n hx hb dM_manager_62 rfl (lv_at hl 2 rfl) ?_
          refine mu_iast hx hb hK hP hD hS 12 0 rfl rfl (by omega) (by decide) dM_manager_63 (ws1 := mW cA a (mnp V, mnq V, 0, mkn V, va_up (mf V) 14 (upd (mf V 14) k1 (nI p0)), mg V)) rfl (fun H locs hP hD hS => ?_)
          refine lv_iconst (v := 1) hx hb dM_manager_64 (by decide) ?_
          have hE : mMan V (nI k1) (nI p0) = (1, (mnp V, mnq V, 0, mkn V, va_up (mf V) 14 (upd (mf V 14) k1 (nI p0)), mg V)) := by unfold mMan; rw [if_pos c16, if_pos c30, nI_clamp (by omega), if_pos (Or.inr c52)]; try rfl
          exact mu_iret ((mnp V, mnq V, 0, mkn V, va_up (mf V) 14 (upd (mf V 14) k1 (nI p0)), mg V)) hx hb hr hS hP (by rw [hE]) (by rw [hE]) dM_manager_65 hlocks
        · refine lv_iconst (v := 0) hx hb dM_manager_55 (by decide) ?_
          have hE : mMan V (nI k1) (nI p0) = (0, (mnp V, mnq V, 0, mkn V, mf V, mg V)) := by unfold mMan; rw [if_pos c16, if_pos c30, nI_clamp (by omega), if_neg (fun h => h.elim c42 c52)]; try rfl
          exact mu_iret ((mnp V, mnq V, 0, mkn V, mf V, mg V)) hx hb hr hS hP (by rw [hE]) (by rw [hE]) dM_manager_56 hlocks
    · refine lv_bipush (v := -2) hx hb dM_manager_33 (by decide) ?_
      have hE : mMan V k0 (nI p0) = (-2, (mnp V, mnq V, 0, mkn V, mf V, mg V)) := by unfold mMan; rw [if_pos c16, if_neg (by rw [c30]; decide)]; try rfl
      exact mu_iret ((mnp V, mnq V, 0, mkn V, mf V, mg V)) hx hb hr hS hP (by rw [hE]) (by rw [hE]) dM_manager_35 hlocks
  · refine lv_iconst (v := -1) hx hb dM_manager_19 (by decide) ?_
    have hE : mMan V k0 x = (-1, (mnp V, mnq V, 0, mkn V, mf V, mg V)) := by unfold mMan; rw [if_neg (by rw [c16]; decide)]; try rfl
    exact mu_iret ((mnp V, mnq V, 0, mkn V, mf V, mg V)) hx hb hr hS hP (by rw [hE]) (by rw [hE]) dM_manager_20 hlocks
set_option maxHeartbeats 4000000 in
set_option maxRecDepth 100000 in
theorem cm_fallback (l : Launch) (G : va_G) (cA : Nat → ClassId) (a : Nat → Nat) (V : MV) (x v0 : Int32) (h60 : mnq V ≤ 60) : Met l yM_fallback wsM_fallback { frames := 2, cells := 0, slots := 0, locals := 46 } (mu_Pc G vwC2 (tT cA) (mW cA a V) [.ref (a 0), .int x, .int v0]) (mu_Q G vwC2 (mW cA a V) (fun _ => some (.int ((mFall V x v0).1))) (fun u9 : MV => u9 = (mFall V x v0).2) (fun u9 => mW cA a u9)) 0 0 (mu_A (mW cA a V)) := by
  refine Met.ofW (cc := cM_fallback) (maxL := 4) (ret := some .int) (by decide) rfl ?_
  intro p e s m args below meth c s₁ B hml hv
  obtain ⟨rfl, hP, hK, hD0⟩ := hv
  have hx := B.exec
  have hb := B.bytes
  have hr := B.returns
  have hts := atoms_spec (ws := wsM_fallback) B.pre
  have hown : s.vm.findClass RX1 = some m.cls := findClass_of_methodNamed B.named
  have hlocks := B.notSynchronized
  have hD := mu_own hD0
  have hS : va_S (mu_A (mW cA a V)) s.heap s.heap [] := va_S.rf
  have hfi : ∀ w ∈ u_ws RX1 TM 18, w ∈ wsM_fallback := fun w h => List.mem_cons_of_mem _ (wMA_f w h)
  have hl := lv_entry ([.ref (a 0), .int x, .int v0]) (n := 4) (Nat.le_of_ble_eq_true rfl)
  rw [lg_entry_eq]
  generalize (lg_sl ([.ref (a 0), .int x, .int v0]) ++ List.replicate (4 - (lg_sl ([.ref (a 0), .int x, .int v0])).length) Slot.unset).toArray = ls at hl ⊢
  have hl : lv_has ls 4 [(0, .ref (a 0)), (1, .int x), (2, .int v0)] := hl
  refine lv_aload_n hx hb dM_fallback_0 rfl (lv_at hl 0 rfl) ?_
  refine lv_iconst (v := 0) hx hb dM_fallback_1 (by decide) ?_
  refine va_put (D := G) (ci := 1) (v := .int 0) (ty := .int) (C := RX1) (T := TM) (N := 18) hx hb hts hfi tyM tyM_ok nmM hown hK hP hD hS 0 rfl rfl 0 (by decide) (hts (.fieldLink RX1 54 "PortRulesModel" "code" "I") (by decide +kernel)) (fun _ h9 => h9) rfl (by decide +kernel) rfl rfl (Nat.le_of_ble_eq_true rfl) dM_fallback_2 (fun H locs hP hD hS => ?_)
  have hP : va_P G vwC2 (mW cA a (mnp V, mnq V, 0, mkn V, mf V, mg V)) H := hP
  have hD : va_D (mu_A (mW cA a V)) (mW cA a (mnp V, mnq V, 0, mkn V, mf V, mg V)) := hD
  refine lv_aload_n hx hb dM_fallback_5 rfl (lv_at hl 0 rfl) ?_
  refine lv_iload_n hx hb dM_fallback_6 rfl (lv_at hl 1 rfl) ?_
  refine rd_callV (As := [.int x]) (rest := []) (b := a 0) (q0 := 0) (ci := 1) ⟨hx, hb, hml, hown, hts⟩ (cm_isPort l G cA a ((mnp V, mnq V, 0, mkn V, mf V, mg V)) x h60) (cwV 1 hts gM_fallback_M_isPort rfl rfl rfl (by decide +kernel) ⟨Nat.le_of_ble_eq_true rfl, Nat.le_of_ble_eq_true rfl⟩) hK hP rfl rfl rfl rfl hl.1 rfl (Nat.le_of_ble_eq_true rfl) dM_fallback_7 ⟨Nat.zero_le _, Nat.zero_le _⟩ ?_
  refine bb_ne (b := (inB x 1 (mnq V))) (tgt := 15) hx hb dM_fallback_10 (by decide) (fun c10 => ?_) (fun c10 => ?_)
  · obtain ⟨p0, hp01, hp02, rfl⟩ := inB_nI (by omega) c10
    refine lv_aload_n hx hb dM_fallback_15 rfl (lv_at hl 0 rfl) ?_
    refine va_get (D := G) (ci := 1) (v := .ref (a 6)) (C := RX1) (T := TM) (N := 18) hx hb hts hfi hown hK hP 0 rfl rfl 6 (by decide) (hts (.fieldLink RX1 19 "PortRulesModel" "provides" "[Z") (by decide +kernel)) (fun _ h9 => h9) rfl dM_fallback_16 ?_
    refine lv_iload_n hx hb dM_fallback_19 rfl (lv_at hl 1 rfl) ?_
    refine rd_zald hx hb hK hP 4 1 rfl rfl (by omega) (by decide) dM_fallback_20 ?_
    refine lv_if_eq (tgt := 27) hx hb dM_fallback_21 (by decide) (fun c21 => ?_) (fun c21 => ?_)
    · refine lv_aload_n hx hb dM_fallback_27 rfl (lv_at hl 0 rfl) ?_
      refine va_get (D := G) (ci := 1) (v := .ref (a 12)) (C := RX1) (T := TM) (N := 18) hx hb hts hfi hown hK hP 0 rfl rfl 12 (by decide) (hts (.fieldLink RX1 39 "PortRulesModel" "fallback" "[I") (by decide +kernel)) (fun _ h9 => h9) rfl dM_fallback_28 ?_
      refine lv_iload_n hx hb dM_fallback_31 rfl (lv_at hl 1 rfl) ?_
      refine rd_iald hx hb hK hP 10 0 rfl rfl (by omega) (by decide) dM_fallback_32 ?_
      refine lv_istore_n (lv' := [(3, .int (mf V 12 p0)), (0, .ref (a 0)), (1, .int (nI p0)), (2, .int v0)]) hx hb dM_fallback_33 rfl hl (by decide) rfl (fun ls hl => ?_)
      refine lv_aload_n hx hb dM_fallback_34 rfl (lv_at hl 1 rfl) ?_
      refine va_get (D := G) (ci := 1) (v := .ref (a 12)) (C := RX1) (T := TM) (N := 18) hx hb hts hfi hown hK hP 0 rfl rfl 12 (by decide) (hts (.fieldLink RX1 39 "PortRulesModel" "fallback" "[I") (by decide +kernel)) (fun _ h9 => h9) rfl dM_fallback_35 ?_
      refine lv_iload_n hx hb dM_fallback_38 rfl (lv_at hl 2 rfl) ?_
      refine lv_iload_n hx hb dM_fallback_39 rfl (lv_at hl 3 rfl) ?_
      refine mu_iast hx hb hK hP hD hS 10 0 rfl rfl (by omega) (by decide) dM_fallback_40 (ws1 := mW cA a (mnp V, mnq V, 0, mkn V, va_up (mf V) 12 (upd (mf V 12) p0 v0), mg V)) rfl (fun H locs hP hD hS => ?_)
      refine lv_aload_n hx hb dM_fallback_41 rfl (lv_at hl 1 rfl) ?_
      refine va_get (D := G) (ci := 1) (v := .ref (a 11)) (C := RX1) (T := TM) (N := 18) hx hb hts hfi hown hK hP 0 rfl rfl 11 (by decide) (hts (.fieldLink RX1 36 "PortRulesModel" "hasFallback" "[Z") (by decide +kernel)) (fun _ h9 => h9) rfl dM_fallback_42 ?_
      refine lv_iload_n hx hb dM_fallback_45 rfl (lv_at hl 2 rfl) ?_
      refine lv_iconst (v := 1) hx hb dM_fallback_46 (by decide) ?_
      refine mu_zast hx hb hK hP hD hS 9 1 rfl rfl (by omega) (by decide) rfl dM_fallback_47 (ws1 := mW cA a (mnp V, mnq V, 0, mkn V, va_up (va_up (mf V) 12 (upd (mf V 12) p0 v0)) 11 (upd (mf V 11) p0 1), mg V)) rfl (fun H locs hP hD hS => ?_)
      refine lv_iload_n hx hb dM_fallback_48 rfl (lv_at hl 0 rfl) ?_
      have hE : mFall V (nI p0) v0 = (mf V 12 p0, (mnp V, mnq V, 0, mkn V, va_up (va_up (mf V) 12 (upd (mf V 12) p0 v0)) 11 (upd (mf V 11) p0 1), mg V)) := by unfold mFall; rw [if_pos c10, nI_clamp (by omega), if_pos c21]; try rfl
      exact mu_iret ((mnp V, mnq V, 0, mkn V, va_up (va_up (mf V) 12 (upd (mf V 12) p0 v0)) 11 (upd (mf V 11) p0 1), mg V)) hx hb hr hS hP (by rw [hE]) (by rw [hE]) dM_fallback_49 hlocks
    · refine lv_bipush (v := -3) hx hb dM_fallback_24 (by decide) ?_
      have hE : mFall V (nI p0) v0 = (-3, (mnp V, mnq V, 0, mkn V, mf V, mg V)) := by unfold mFall; rw [if_pos c10, nI_clamp (by omega), if_neg c21]; try rfl
      exact mu_iret ((mnp V, mnq V, 0, mkn V, mf V, mg V)) hx hb hr hS hP (by rw [hE]) (by rw [hE]) dM_fallback_26 hlocks
  · refine lv_iconst (v := -1) hx hb dM_fallback_13 (by decide) ?_
    have hE : mFall V x v0 = (-1, (mnp V, mnq V, 0, mkn V, mf V, mg V)) := by unfold mFall; rw [if_neg (by rw [c10]; decide)]; try rfl
    exact mu_iret ((mnp V, mnq V, 0, mkn V, mf V, mg V)) hx hb hr hS hP (by rw [hE]) (by rw [hE]) dM_fallback_14 hlocks
set_option maxHeartbeats 4000000 in
set_option maxRecDepth 100000 in
theorem cm_queue (l : Launch) (G : va_G) (cA : Nat → ClassId) (a : Nat → Nat) (V : MV) (x n0 : Int32) (h60 : mnq V ≤ 60) : Met l yM_queue wsM_queue { frames := 2, cells := 0, slots := 0, locals := 46 } (mu_Pc G vwC2 (tT cA) (mW cA a V) [.ref (a 0), .int x, .int n0]) (mu_Q G vwC2 (mW cA a V) (fun _ => some (.int ((mQue V x n0).1))) (fun u9 : MV => u9 = (mQue V x n0).2) (fun u9 => mW cA a u9)) 0 0 (mu_A (mW cA a V)) := by
  refine Met.ofW (cc := cM_queue) (maxL := 3) (ret := some .int) (by decide) rfl ?_
  intro p e s m args below meth c s₁ B hml hv
  obtain ⟨rfl, hP, hK, hD0⟩ := hv
  have hx := B.exec
  have hb := B.bytes
  have hr := B.returns
  have hts := atoms_spec (ws := wsM_queue) B.pre
  have hown : s.vm.findClass RX1 = some m.cls := findClass_of_methodNamed B.named
  have hlocks := B.notSynchronized
  have hD := mu_own hD0
  have hS : va_S (mu_A (mW cA a V)) s.heap s.heap [] := va_S.rf
  have hfi : ∀ w ∈ u_ws RX1 TM 18, w ∈ wsM_queue := fun w h => List.mem_cons_of_mem _ (wMA_f w h)
  have hl := lv_entry ([.ref (a 0), .int x, .int n0]) (n := 3) (Nat.le_of_ble_eq_true rfl)
  rw [lg_entry_eq]
  generalize (lg_sl ([.ref (a 0), .int x, .int n0]) ++ List.replicate (3 - (lg_sl ([.ref (a 0), .int x, .int n0])).length) Slot.unset).toArray = ls at hl ⊢
  have hl : lv_has ls 3 [(0, .ref (a 0)), (1, .int x), (2, .int n0)] := hl
  refine lv_aload_n hx hb dM_queue_0 rfl (lv_at hl 0 rfl) ?_
  refine lv_iconst (v := 0) hx hb dM_queue_1 (by decide) ?_
  refine va_put (D := G) (ci := 1) (v := .int 0) (ty := .int) (C := RX1) (T := TM) (N := 18) hx hb hts hfi tyM tyM_ok nmM hown hK hP hD hS 0 rfl rfl 0 (by decide) (hts (.fieldLink RX1 54 "PortRulesModel" "code" "I") (by decide +kernel)) (fun _ h9 => h9) rfl (by decide +kernel) rfl rfl (Nat.le_of_ble_eq_true rfl) dM_queue_2 (fun H locs hP hD hS => ?_)
  have hP : va_P G vwC2 (mW cA a (mnp V, mnq V, 0, mkn V, mf V, mg V)) H := hP
  have hD : va_D (mu_A (mW cA a V)) (mW cA a (mnp V, mnq V, 0, mkn V, mf V, mg V)) := hD
  refine lv_aload_n hx hb dM_queue_5 rfl (lv_at hl 0 rfl) ?_
  refine lv_iload_n hx hb dM_queue_6 rfl (lv_at hl 1 rfl) ?_
  refine rd_callV (As := [.int x]) (rest := []) (b := a 0) (q0 := 0) (ci := 1) ⟨hx, hb, hml, hown, hts⟩ (cm_isPort l G cA a ((mnp V, mnq V, 0, mkn V, mf V, mg V)) x h60) (cwV 1 hts gM_queue_M_isPort rfl rfl rfl (by decide +kernel) ⟨Nat.le_of_ble_eq_true rfl, Nat.le_of_ble_eq_true rfl⟩) hK hP rfl rfl rfl rfl hl.1 rfl (Nat.le_of_ble_eq_true rfl) dM_queue_7 ⟨Nat.zero_le _, Nat.zero_le _⟩ ?_
  refine bb_ne (b := (inB x 1 (mnq V))) (tgt := 15) hx hb dM_queue_10 (by decide) (fun c10 => ?_) (fun c10 => ?_)
  · obtain ⟨p0, hp01, hp02, rfl⟩ := inB_nI (by omega) c10
    refine lv_iload_n hx hb dM_queue_15 rfl (lv_at hl 2 rfl) ?_
    refine lv_i2l (v := n0.toInt64) hx hb dM_queue_16 (rfl) ?_
    refine lv_lconst (v := 1) hx hb dM_queue_17 (by decide) ?_
    refine lv_ldc2 (v := 100) hx hb hown (hts (.constantLong RX1 117 100) (by decide +kernel)) dM_queue_18 ?_
    refine rd_callS (As := [.long (n0.toInt64), .long 1, .long 100]) (rest := []) ⟨hx, hb, hml, hown, hts⟩ (cm_isIn l n0.toInt64 1 100) (va_cwS 3 hts gM_queue_M_isIn rfl rfl rfl (by decide +kernel) ⟨Nat.le_of_ble_eq_true rfl, Nat.le_of_ble_eq_true rfl⟩) rfl hl.1 rfl (Nat.le_of_ble_eq_true rfl) dM_queue_21 ⟨Nat.zero_le _, Nat.zero_le _⟩ ?_
    refine rd_topi (y := z1 (inB n0 1 100)) (z1_ne (isI_b (by decide) (by decide))) ?_
    refine bb_ne (b := (inB n0 1 100)) (tgt := 30) hx hb dM_queue_24 (by decide) (fun c24 => ?_) (fun c24 => ?_)
    · refine lv_aload_n hx hb dM_queue_30 rfl (lv_at hl 0 rfl) ?_
      refine va_get (D := G) (ci := 1) (v := .ref (a 5)) (C := RX1) (T := TM) (N := 18) hx hb hts hfi hown hK hP 0 rfl rfl 5 (by decide) (hts (.fieldLink RX1 16 "PortRulesModel" "kindOf" "[I") (by decide +kernel)) (fun _ h9 => h9) rfl dM_queue_31 ?_
      refine lv_iload_n hx hb dM_queue_34 rfl (lv_at hl 1 rfl) ?_
      refine rd_iald hx hb hK hP 3 0 rfl rfl (by omega) (by decide) dM_queue_35 ?_
      refine lv_iconst (v := 1) hx hb dM_queue_36 (by decide) ?_
      refine lv_icmp_eq (tgt := 43) hx hb dM_queue_37 (by decide) (fun c37 => ?_) (fun c37 => ?_)
      · refine lv_aload_n hx hb dM_queue_43 rfl (lv_at hl 0 rfl) ?_
        refine va_get (D := G) (ci := 1) (v := .ref (a 13)) (C := RX1) (T := TM) (N := 18) hx hb hts hfi hown hK hP 0 rfl rfl 13 (by decide) (hts (.fieldLink RX1 42 "PortRulesModel" "queue" "[I") (by decide +kernel)) (fun _ h9 => h9) rfl dM_queue_44 ?_
        refine lv_iload_n hx hb dM_queue_47 rfl (lv_at hl 1 rfl) ?_
        refine lv_iload_n hx hb dM_queue_48 rfl (lv_at hl 2 rfl) ?_
        refine mu_iast hx hb hK hP hD hS 11 0 rfl rfl (by omega) (by decide) dM_queue_49 (ws1 := mW cA a (mnp V, mnq V, 0, mkn V, va_up (mf V) 13 (upd (mf V 13) p0 n0), mg V)) rfl (fun H locs hP hD hS => ?_)
        refine lv_iconst (v := 1) hx hb dM_queue_50 (by decide) ?_
        have hE : mQue V (nI p0) n0 = (1, (mnp V, mnq V, 0, mkn V, va_up (mf V) 13 (upd (mf V 13) p0 n0), mg V)) := by unfold mQue; rw [if_pos c10, if_pos c24, nI_clamp (by omega), if_pos c37]; try rfl
        exact mu_iret ((mnp V, mnq V, 0, mkn V, va_up (mf V) 13 (upd (mf V 13) p0 n0), mg V)) hx hb hr hS hP (by rw [hE]) (by rw [hE]) dM_queue_51 hlocks
      · refine lv_bipush (v := -3) hx hb dM_queue_40 (by decide) ?_
        have hE : mQue V (nI p0) n0 = (-3, (mnp V, mnq V, 0, mkn V, mf V, mg V)) := by unfold mQue; rw [if_pos c10, if_pos c24, nI_clamp (by omega), if_neg c37]; try rfl
        exact mu_iret ((mnp V, mnq V, 0, mkn V, mf V, mg V)) hx hb hr hS hP (by rw [hE]) (by rw [hE]) dM_queue_42 hlocks
    · refine lv_bipush (v := -2) hx hb dM_queue_27 (by decide) ?_
      have hE : mQue V (nI p0) n0 = (-2, (mnp V, mnq V, 0, mkn V, mf V, mg V)) := by unfold mQue; rw [if_pos c10, if_neg (by rw [c24]; decide)]; try rfl
      exact mu_iret ((mnp V, mnq V, 0, mkn V, mf V, mg V)) hx hb hr hS hP (by rw [hE]) (by rw [hE]) dM_queue_29 hlocks
  · refine lv_iconst (v := -1) hx hb dM_queue_13 (by decide) ?_
    have hE : mQue V x n0 = (-1, (mnp V, mnq V, 0, mkn V, mf V, mg V)) := by unfold mQue; rw [if_neg (by rw [c10]; decide)]; try rfl
    exact mu_iret ((mnp V, mnq V, 0, mkn V, mf V, mg V)) hx hb hr hS hP (by rw [hE]) (by rw [hE]) dM_queue_14 hlocks
set_option maxHeartbeats 4000000 in
set_option maxRecDepth 100000 in
theorem cm_version (l : Launch) (G : va_G) (cA : Nat → ClassId) (a : Nat → Nat) (V : MV) (x v0 : Int32) (h60 : mnq V ≤ 60) : Met l yM_version wsM_version { frames := 2, cells := 0, slots := 0, locals := 46 } (mu_Pc G vwC2 (tT cA) (mW cA a V) [.ref (a 0), .int x, .int v0]) (mu_Q G vwC2 (mW cA a V) (fun _ => some (.int ((mVer V x v0).1))) (fun u9 : MV => u9 = (mVer V x v0).2) (fun u9 => mW cA a u9)) 0 0 (mu_A (mW cA a V)) := by
  refine Met.ofW (cc := cM_version) (maxL := 3) (ret := some .int) (by decide) rfl ?_
  intro p e s m args below meth c s₁ B hml hv
  obtain ⟨rfl, hP, hK, hD0⟩ := hv
  have hx := B.exec
  have hb := B.bytes
  have hr := B.returns
  have hts := atoms_spec (ws := wsM_version) B.pre
  have hown : s.vm.findClass RX1 = some m.cls := findClass_of_methodNamed B.named
  have hlocks := B.notSynchronized
  have hD := mu_own hD0
  have hS : va_S (mu_A (mW cA a V)) s.heap s.heap [] := va_S.rf
  have hfi : ∀ w ∈ u_ws RX1 TM 18, w ∈ wsM_version := fun w h => List.mem_cons_of_mem _ (wMA_f w h)
  have hl := lv_entry ([.ref (a 0), .int x, .int v0]) (n := 3) (Nat.le_of_ble_eq_true rfl)
  rw [lg_entry_eq]
  generalize (lg_sl ([.ref (a 0), .int x, .int v0]) ++ List.replicate (3 - (lg_sl ([.ref (a 0), .int x, .int v0])).length) Slot.unset).toArray = ls at hl ⊢
  have hl : lv_has ls 3 [(0, .ref (a 0)), (1, .int x), (2, .int v0)] := hl
  refine lv_aload_n hx hb dM_version_0 rfl (lv_at hl 0 rfl) ?_
  refine lv_iconst (v := 0) hx hb dM_version_1 (by decide) ?_
  refine va_put (D := G) (ci := 1) (v := .int 0) (ty := .int) (C := RX1) (T := TM) (N := 18) hx hb hts hfi tyM tyM_ok nmM hown hK hP hD hS 0 rfl rfl 0 (by decide) (hts (.fieldLink RX1 54 "PortRulesModel" "code" "I") (by decide +kernel)) (fun _ h9 => h9) rfl (by decide +kernel) rfl rfl (Nat.le_of_ble_eq_true rfl) dM_version_2 (fun H locs hP hD hS => ?_)
  have hP : va_P G vwC2 (mW cA a (mnp V, mnq V, 0, mkn V, mf V, mg V)) H := hP
  have hD : va_D (mu_A (mW cA a V)) (mW cA a (mnp V, mnq V, 0, mkn V, mf V, mg V)) := hD
  refine lv_aload_n hx hb dM_version_5 rfl (lv_at hl 0 rfl) ?_
  refine lv_iload_n hx hb dM_version_6 rfl (lv_at hl 1 rfl) ?_
  refine rd_callV (As := [.int x]) (rest := []) (b := a 0) (q0 := 0) (ci := 1) ⟨hx, hb, hml, hown, hts⟩ (cm_isPort l G cA a ((mnp V, mnq V, 0, mkn V, mf V, mg V)) x h60) (cwV 1 hts gM_version_M_isPort rfl rfl rfl (by decide +kernel) ⟨Nat.le_of_ble_eq_true rfl, Nat.le_of_ble_eq_true rfl⟩) hK hP rfl rfl rfl rfl hl.1 rfl (Nat.le_of_ble_eq_true rfl) dM_version_7 ⟨Nat.zero_le _, Nat.zero_le _⟩ ?_
  refine bb_ne (b := (inB x 1 (mnq V))) (tgt := 15) hx hb dM_version_10 (by decide) (fun c10 => ?_) (fun c10 => ?_)
  · obtain ⟨p0, hp01, hp02, rfl⟩ := inB_nI (by omega) c10
    refine lv_iload_n hx hb dM_version_15 rfl (lv_at hl 2 rfl) ?_
    refine lv_i2l (v := v0.toInt64) hx hb dM_version_16 (rfl) ?_
    refine lv_lconst (v := 0) hx hb dM_version_17 (by decide) ?_
    refine lv_ldc2 (v := 9999) hx hb hown (hts (.constantLong RX1 119 9999) (by decide +kernel)) dM_version_18 ?_
    refine rd_callS (As := [.long (v0.toInt64), .long 0, .long 9999]) (rest := []) ⟨hx, hb, hml, hown, hts⟩ (cm_isIn l v0.toInt64 0 9999) (va_cwS 3 hts gM_version_M_isIn rfl rfl rfl (by decide +kernel) ⟨Nat.le_of_ble_eq_true rfl, Nat.le_of_ble_eq_true rfl⟩) rfl hl.1 rfl (Nat.le_of_ble_eq_true rfl) dM_version_21 ⟨Nat.zero_le _, Nat.zero_le _⟩ ?_
    refine rd_topi (y := z1 (inB v0 0 9999)) (z1_ne (isI_b (by decide) (by decide))) ?_
    refine bb_ne (b := (inB v0 0 9999)) (tgt := 30) hx hb dM_version_24 (by decide) (fun c24 => ?_) (fun c24 => ?_)
    · refine lv_aload_n hx hb dM_version_30 rfl (lv_at hl 0 rfl) ?_
      refine va_get (D := G) (ci := 1) (v := .ref (a 10)) (C := RX1) (T := TM) (N := 18) hx hb hts hfi hown hK hP 0 rfl rfl 10 (by decide) (hts (.fieldLink RX1 33 "PortRulesModel" "version" "[I") (by decide +kernel)) (fun _ h9 => h9) rfl dM_version_31 ?_
      refine lv_iload_n hx hb dM_version_34 rfl (lv_at hl 1 rfl) ?_
      refine lv_iload_n hx hb dM_version_35 rfl (lv_at hl 2 rfl) ?_
      refine mu_iast hx hb hK hP hD hS 8 0 rfl rfl (by omega) (by decide) dM_version_36 (ws1 := mW cA a (mnp V, mnq V, 0, mkn V, va_up (mf V) 10 (upd (mf V 10) p0 v0), mg V)) rfl (fun H locs hP hD hS => ?_)
      refine lv_iconst (v := 1) hx hb dM_version_37 (by decide) ?_
      have hE : mVer V (nI p0) v0 = (1, (mnp V, mnq V, 0, mkn V, va_up (mf V) 10 (upd (mf V 10) p0 v0), mg V)) := by unfold mVer; rw [if_pos c10, if_pos c24, nI_clamp (by omega)]; try rfl
      exact mu_iret ((mnp V, mnq V, 0, mkn V, va_up (mf V) 10 (upd (mf V 10) p0 v0), mg V)) hx hb hr hS hP (by rw [hE]) (by rw [hE]) dM_version_38 hlocks
    · refine lv_bipush (v := -2) hx hb dM_version_27 (by decide) ?_
      have hE : mVer V (nI p0) v0 = (-2, (mnp V, mnq V, 0, mkn V, mf V, mg V)) := by unfold mVer; rw [if_pos c10, if_neg (by rw [c24]; decide)]; try rfl
      exact mu_iret ((mnp V, mnq V, 0, mkn V, mf V, mg V)) hx hb hr hS hP (by rw [hE]) (by rw [hE]) dM_version_29 hlocks
  · refine lv_iconst (v := -1) hx hb dM_version_13 (by decide) ?_
    have hE : mVer V x v0 = (-1, (mnp V, mnq V, 0, mkn V, mf V, mg V)) := by unfold mVer; rw [if_neg (by rw [c10]; decide)]; try rfl
    exact mu_iret ((mnp V, mnq V, 0, mkn V, mf V, mg V)) hx hb hr hS hP (by rw [hE]) (by rw [hE]) dM_version_14 hlocks
end
section
/-! WARSHALL in place: what the array holds at by = b, at row i, at place j -/
def bv (r : Nat → Int32) (p q : Nat) : Bool := !decide (r (61 * p + q) = 0)
theorem bv_t {r : Nat → Int32} {p q : Nat} (h : ¬ r (61 * p + q) = 0) : bv r p q = true := by unfold bv; rw [decide_eq_false h]; rfl
theorem bv_f {r : Nat → Int32} {p q : Nat} (h : r (61 * p + q) = 0) : bv r p q = false := by unfold bv; rw [decide_eq_true h]; rfl
def kn3 (L : Nat → Nat → Bool) (n : Nat) (r : Nat → Int32) (b i j : Nat) : Prop := ∀ p q, 1 ≤ p → p ≤ n → 1 ≤ q → q ≤ n → bv r p q = (if p < i ∨ (p = i ∧ q < j) then pu_wl L (b + 1) p q else pu_wl L b p q)
theorem kn3_b {L : Nat → Nat → Bool} {n : Nat} {r : Nat → Int32} {b i j p : Nat} (h : kn3 L n r b i j) (hp : 1 ≤ p ∧ p ≤ n) (hb : b + 1 ≤ n) : bv r p (b + 1) = pu_wl L b p (b + 1) := by
  rw [h p (b + 1) hp.1 hp.2 (by omega) hb]
  split
  · exact pu_wl_to
  · rfl
theorem kn3_f {L : Nat → Nat → Bool} {n : Nat} {r : Nat → Int32} {b i j q : Nat} (h : kn3 L n r b i j) (hq : 1 ≤ q ∧ q ≤ n) (hb : b + 1 ≤ n) : bv r (b + 1) q = pu_wl L b (b + 1) q := by
  rw [h (b + 1) q (by omega) hb hq.1 hq.2]
  split
  · exact pu_wl_from
  · rfl
theorem bv_upd {r : Nat → Int32} {i j p q : Nat} {x : Int32} (hj : j ≤ 60) (hq : q ≤ 60) : bv (upd r (61 * i + j) x) p q = (if p = i ∧ q = j then !decide (x = 0) else bv r p q) := by
  unfold bv
  by_cases e : p = i ∧ q = j
  · obtain ⟨rfl, rfl⟩ := e
    rw [if_pos ⟨rfl, rfl⟩, pk_us]
  · rw [if_neg e, pk_un (by omega)]
/-- one place written -/
theorem kn3_set {L : Nat → Nat → Bool} {n : Nat} {r : Nat → Int32} {b i j : Nat} {x : Int32} (h : kn3 L n r b i j) (hn : n ≤ 60) (hb : b + 1 ≤ n) (hi : 1 ≤ i ∧ i ≤ n) (hj : 1 ≤ j ∧ j ≤ n) (ht : bv r i (b + 1) = true)
    (hx : (!decide (x = 0)) = (bv r i j || bv r (b + 1) j)) : kn3 L n (upd r (61 * i + j) x) b i (j + 1) := by
  intro p q h1 h2 h3 h4
  rw [bv_upd (by omega) (by omega)]
  by_cases e : p = i ∧ q = j
  · obtain ⟨rfl, rfl⟩ := e
    rw [if_pos ⟨rfl, rfl⟩, if_pos (Or.inr ⟨rfl, by omega⟩), hx, kn3_f h hj hb, h p q hi.1 hi.2 hj.1 hj.2, if_neg (by omega)]
    rw [kn3_b h hi hb] at ht
    simp only [pu_wl]
    rw [ht, Bool.true_and]
  · rw [if_neg e, h p q h1 h2 h3 h4]
    by_cases c : p < i ∨ (p = i ∧ q < j)
    · rw [if_pos c, if_pos (by omega)]
    · rw [if_neg c, if_neg (by omega)]
/-- a row that doesn't lead to by -/
theorem kn3_skip {L : Nat → Nat → Bool} {n : Nat} {r : Nat → Int32} {b i j : Nat} (h : kn3 L n r b i j) (hb : b + 1 ≤ n) (hi : 1 ≤ i ∧ i ≤ n) (ht : bv r i (b + 1) = false) : kn3 L n r b (i + 1) 1 := by
  intro p q h1 h2 h3 h4
  rw [h p q h1 h2 h3 h4]
  rw [kn3_b h hi hb] at ht
  by_cases e : p = i
  · subst e
    rw [if_pos (show p < p + 1 ∨ (p = p + 1 ∧ q < 1) by omega)]
    have e2 : pu_wl L (b + 1) p q = pu_wl L b p q := by simp [pu_wl, ht]
    rw [e2]
    split <;> rfl
  · by_cases c : p < i ∨ (p = i ∧ q < j)
    · rw [if_pos c, if_pos (by omega)]
    · rw [if_neg c, if_neg (by omega)]
theorem kn3_next {L : Nat → Nat → Bool} {n : Nat} {r : Nat → Int32} {b i j : Nat} (h : kn3 L n r b i j) (hj : n < j) : kn3 L n r b (i + 1) 1 := by
  intro p q h1 h2 h3 h4
  rw [h p q h1 h2 h3 h4]
  by_cases c : p < i ∨ (p = i ∧ q < j)
  · rw [if_pos c, if_pos (by omega)]
  · rw [if_neg c, if_neg (by omega)]
theorem kn3_by {L : Nat → Nat → Bool} {n : Nat} {r : Nat → Int32} {b i j : Nat} (h : kn3 L n r b i j) (hi : n < i) : kn3 L n r (b + 1) 1 1 := by
  intro p q h1 h2 h3 h4
  rw [h p q h1 h2 h3 h4, if_pos (by omega), if_neg (by omega)]
theorem kn3_0 {L : Nat → Nat → Bool} {n : Nat} {r : Nat → Int32} (h : ∀ p q, 1 ≤ p → p ≤ n → 1 ≤ q → q ≤ n → bv r p q = L p q) : kn3 L n r 0 1 1 := by
  intro p q h1 h2 h3 h4
  rw [h p q h1 h2 h3 h4, if_neg (by omega)]
  rfl
theorem kn3_end {L : Nat → Nat → Bool} {n : Nat} {r : Nat → Int32} (h : kn3 L n r n 1 1) : ∀ p q, 1 ≤ p → p ≤ n → 1 ≤ q → q ≤ n → bv r p q = pu_wl L n p q := by
  intro p q h1 h2 h3 h4
  rw [h p q h1 h2 h3 h4, if_neg (by omega)]
/-- M after know -/
def mKd (V u : MV) : Prop := ∃ (kn : Int32) (r : Nat → Int32), ¬ kn = 0 ∧ u = (mnp V, mnq V, mco V, kn, va_up (mf V) 16 r, mg V) ∧ mKn u
/-- M, but for code and what know writes -/
def mUp (V : MV) (co : Int32) (u : MV) : Prop := ∃ (kn : Int32) (r : Nat → Int32), u = (mnp V, mnq V, co, kn, va_up (mf V) 16 r, mg V) ∧ (¬ kn = 0 → mKn u)
/-- what M's methods need of the connectors' array -/
def mLb (V : MV) : Prop := ∀ k, k < 3721 → mf V 15 k = 0 ∨ mf V 15 k = 1
theorem mLb_n {V : MV} (h : mLb V) {k : Nat} (hk : k < 3721) : vp_nar .boolean (mf V 15 k) = mf V 15 k := by
  rcases h k hk with e | e <;> rw [e] <;> rfl
/-- the answers of flat and at -/
def mFc (V : MV) (x : Int32) : Nat := if x.toInt < 0 then 0 else pu_at (mF V) (mnq V) (mnq V) 1 x.toNatClampNeg
def mFl (V : MV) (x : Int32) : Int32 := if mFc V x = 0 then nI (mAll V) - 10000 else nI (mFc V x)
theorem mAll_le (V : MV) (h : mnq V ≤ 60) : mAll V ≤ 3600 := by
  have h1 := pu_sum_le (f := fun p => pu_cnt (mF V p) (mnq V) 1) (b := mnq V) (fun j => pu_cnt_le _ _ _) (mnq V) 1
  unfold mAll
  have h2 : mnq V * mnq V ≤ 60 * 60 := Nat.mul_le_mul h h
  omega
theorem mFc_lt (V : MV) (x : Int32) (h : mnq V ≤ 60) : mFc V x < 3721 := by
  unfold mFc
  split
  · omega
  · rcases pu_at_in (F := mF V) (n := mnq V) (mnq V) 1 x.toNatClampNeg with e | ⟨a, b, h1, h2, h3, h4, e⟩
    · omega
    · omega
end
section
/-! M: know and what stands on it -/
set_option maxHeartbeats 4000000 in
set_option maxRecDepth 100000 in
theorem cm_know (l : Launch) (G : va_G) (cA : Nat → ClassId) (a : Nat → Nat) (V : MV)  (h60 : mnq V ≤ 60) (hkv : ¬ mkn V = 0 → mKn V) (hlb : mLb V) : Met l yM_know wsM_know { frames := 0, cells := 0, slots := 0, locals := 0 } (mu_Pc G vwC2 (tT cA) (mW cA a V) [.ref (a 0)]) (mu_Q G vwC2 (mW cA a V) (fun _ => none) (mKd V) (fun u9 => mW cA a u9)) 0 0 (mu_A (mW cA a V)) := by
  refine Met.ofW (cc := cM_know) (maxL := 4) (ret := none) (by decide) rfl ?_
  intro p e s m args below meth c s₁ B hml hv
  obtain ⟨rfl, hP, hK, hD0⟩ := hv
  have hx := B.exec
  have hb := B.bytes
  have hr := B.returns
  have hts := atoms_spec (ws := wsM_know) B.pre
  have hown : s.vm.findClass RX1 = some m.cls := findClass_of_methodNamed B.named
  have hlocks := B.notSynchronized
  have hD := mu_own hD0
  have hS : va_S (mu_A (mW cA a V)) s.heap s.heap [] := va_S.rf
  have hfi : ∀ w ∈ u_ws RX1 TM 18, w ∈ wsM_know := fun w h => List.mem_cons_of_mem _ (wMA_f w h)
  have hl := lv_entry ([.ref (a 0)]) (n := 4) (Nat.le_of_ble_eq_true rfl)
  rw [lg_entry_eq]
  generalize (lg_sl ([.ref (a 0)]) ++ List.replicate (4 - (lg_sl ([.ref (a 0)])).length) Slot.unset).toArray = ls at hl ⊢
  have hl : lv_has ls 4 [(0, .ref (a 0))] := hl
  refine lv_aload_n hx hb dM_know_0 rfl (lv_at hl 0 rfl) ?_
  refine va_get (D := G) (ci := 1) (v := .int (mkn V)) (C := RX1) (T := TM) (N := 18) hx hb hts hfi hown hK hP 0 rfl rfl 17 (by decide) (hts (.fieldLink RX1 65 "PortRulesModel" "known" "Z") (by decide +kernel)) (fun _ h9 => h9) rfl dM_know_1 ?_
  refine lv_if_eq (tgt := 8) hx hb dM_know_4 (by decide) (fun c4 => ?_) (fun c4 => ?_)
  · refine lv_aload_n hx hb dM_know_8 rfl (lv_at hl 0 rfl) ?_
    refine lv_iconst (v := 1) hx hb dM_know_9 (by decide) ?_
    refine va_put (D := G) (ci := 1) (v := .int 1) (ty := .boolean) (C := RX1) (T := TM) (N := 18) hx hb hts hfi tyM tyM_ok nmM hown hK hP hD hS 0 rfl rfl 17 (by decide) (hts (.fieldLink RX1 65 "PortRulesModel" "known" "Z") (by decide +kernel)) (fun _ h9 => h9) rfl (by decide +kernel) rfl rfl (Nat.le_of_ble_eq_true rfl) dM_know_10 (fun H locs hP hD hS => ?_)
    have hP : va_P G vwC2 (mW cA a (mnp V, mnq V, mco V, 1, mf V, mg V)) H := hP
    have hD : va_D (mu_A (mW cA a V)) (mW cA a (mnp V, mnq V, mco V, 1, mf V, mg V)) := hD
    refine lv_iconst (v := nI 0) hx hb dM_know_13 (by decide) ?_
    refine lv_istore_n (lv' := [(1, .int (nI 0)), (0, .ref (a 0))]) hx hb dM_know_14 rfl hl (by decide) rfl (fun ls hl => ?_)
    refine mu_loop (H0 := s.heap) (fun k ls H locs => ∃ (i : Nat) (r : Nat → Int32), i + k = 3721 ∧ (∀ j, j < i → r j = mf V 15 j) ∧ va_P G vwC2 (mW cA a (mnp V, mnq V, mco V, 1, va_up (mf V) 16 r, mg V)) H ∧ va_D (mu_A (mW cA a V)) (mW cA a (mnp V, mnq V, mco V, 1, va_up (mf V) 16 r, mg V)) ∧ va_S (mu_A (mW cA a V)) s.heap H locs ∧ lv_has ls 4 [(1, .int (nI i)), (0, .ref (a 0))]) ?_ 3721 ls H locs ⟨0, mf V 16, by omega, fun j hj => absurd hj (by omega), by rw [va_up_id]; exact hP, by rw [va_up_id]; exact hD, hS, (lv_sub hl [0, 1] rfl)⟩
    intro k15 ls H locs ⟨i, r, hk, hr9, hP, hD, hS, hl⟩ ih15
    refine lv_iload_n hx hb dM_know_15 rfl (lv_at hl 0 rfl) ?_
    refine lv_sipush (v := nI 3721) hx hb dM_know_16 (by decide) ?_
    refine nb_ge (tgt := 40) hx hb dM_know_19 (by decide) (by omega) (by omega) (fun c19 => ?_) (fun c19 => ?_)
    · have hk0 : kn3 (mL V) (mnq V) r 0 1 1 := kn3_0 (fun p0 q0 h1 h2 h3 h4 => by unfold bv mL; rw [hr9 (61 * p0 + q0) (by omega)])
      refine lv_iconst (v := nI 1) hx hb dM_know_40 (by decide) ?_
      refine lv_istore_n (lv' := [(1, .int (nI 1)), (0, .ref (a 0))]) hx hb dM_know_41 rfl hl (by decide) rfl (fun ls hl => ?_)
      refine mu_loop (H0 := s.heap) (fun k ls H locs => ∃ (b : Nat) (r : Nat → Int32), b + k = mnq V ∧ kn3 (mL V) (mnq V) r b 1 1 ∧ va_P G vwC2 (mW cA a (mnp V, mnq V, mco V, 1, va_up (mf V) 16 r, mg V)) H ∧ va_D (mu_A (mW cA a V)) (mW cA a (mnp V, mnq V, mco V, 1, va_up (mf V) 16 r, mg V)) ∧ va_S (mu_A (mW cA a V)) s.heap H locs ∧ lv_has ls 4 [(1, .int (nI (b + 1))), (0, .ref (a 0))]) ?_ (mnq V) ls H locs ⟨0, r, by omega, hk0, hP, hD, hS, (lv_sub hl [0, 1] rfl)⟩
      intro k42 ls H locs ⟨b, r, hkb, hk1, hP, hD, hS, hl⟩ ih42
      refine lv_iload_n hx hb dM_know_42 rfl (lv_at hl 0 rfl) ?_
      refine lv_aload_n hx hb dM_know_43 rfl (lv_at hl 1 rfl) ?_
      refine va_get (D := G) (ci := 1) (v := .int (nI (mnq V))) (C := RX1) (T := TM) (N := 18) hx hb hts hfi hown hK hP 0 rfl rfl 3 (by decide) (hts (.fieldLink RX1 71 "PortRulesModel" "ports" "I") (by decide +kernel)) (fun _ h9 => h9) rfl dM_know_44 ?_
      refine nb_gt (tgt := 146) hx hb dM_know_47 (by decide) (by omega) (by omega) (fun c47 => ?_) (fun c47 => ?_)
      · exact mu_vret ((mnp V, mnq V, mco V, 1, va_up (mf V) 16 r, mg V)) hx hb hr hS hP (⟨1, r, by decide, rfl, kn3_end (by rw [show b = mnq V by omega] at hk1; exact hk1)⟩) (rfl) dM_know_146 hlocks
      · obtain ⟨k42, rfl⟩ : ∃ z, k42 = z + 1 := ⟨k42 - 1, by omega⟩
        refine lv_iconst (v := nI 1) hx hb dM_know_50 (by decide) ?_
        refine lv_istore_n (lv' := [(2, .int (nI 1)), (1, .int (nI (b + 1))), (0, .ref (a 0))]) hx hb dM_know_51 rfl hl (by decide) rfl (fun ls hl => ?_)
        refine mu_loop (H0 := s.heap) (fun k ls H locs => ∃ (i : Nat) (r : Nat → Int32), 1 ≤ i ∧ i + k = mnq V + 1 ∧ kn3 (mL V) (mnq V) r b i 1 ∧ va_P G vwC2 (mW cA a (mnp V, mnq V, mco V, 1, va_up (mf V) 16 r, mg V)) H ∧ va_D (mu_A (mW cA a V)) (mW cA a (mnp V, mnq V, mco V, 1, va_up (mf V) 16 r, mg V)) ∧ va_S (mu_A (mW cA a V)) s.heap H locs ∧ lv_has ls 4 [(2, .int (nI i)), (1, .int (nI (b + 1))), (0, .ref (a 0))]) ?_ (mnq V) ls H locs ⟨1, r, by omega, by omega, hk1, hP, hD, hS, (lv_sub hl [0, 1, 2] rfl)⟩
        intro k52 ls H locs ⟨i, r, hi, hki, hk2, hP, hD, hS, hl⟩ ih52
        refine lv_iload_n hx hb dM_know_52 rfl (lv_at hl 0 rfl) ?_
        refine lv_aload_n hx hb dM_know_53 rfl (lv_at hl 2 rfl) ?_
        refine va_get (D := G) (ci := 1) (v := .int (nI (mnq V))) (C := RX1) (T := TM) (N := 18) hx hb hts hfi hown hK hP 0 rfl rfl 3 (by decide) (hts (.fieldLink RX1 71 "PortRulesModel" "ports" "I") (by decide +kernel)) (fun _ h9 => h9) rfl dM_know_54 ?_
        refine nb_gt (tgt := 140) hx hb dM_know_57 (by decide) (by omega) (by omega) (fun c57 => ?_) (fun c57 => ?_)
        · refine lv_iinc (v := nI (b + 1 + 1)) (lv' := [(1, .int (nI (b + 1 + 1))), (2, .int (nI i)), (0, .ref (a 0))]) hx hb dM_know_140 hl (k := 1) rfl (ni_inc _) (by decide) rfl (fun ls hl => ?_)
          refine lv_goto (tgt := 42) hx hb dM_know_143 (by decide) ?_
          exact ih42 k42 ls H locs (by omega) ⟨b + 1, r, by omega, kn3_by hk2 (by omega), hP, hD, hS, (lv_sub hl [0, 2] rfl)⟩
        · obtain ⟨k52, rfl⟩ : ∃ z, k52 = z + 1 := ⟨k52 - 1, by omega⟩
          refine lv_iconst (v := nI 1) hx hb dM_know_60 (by decide) ?_
          refine lv_istore_n (lv' := [(3, .int (nI 1)), (2, .int (nI i)), (1, .int (nI (b + 1))), (0, .ref (a 0))]) hx hb dM_know_61 rfl hl (by decide) rfl (fun ls hl => ?_)
          refine mu_loop (H0 := s.heap) (fun k ls H locs => ∃ (j : Nat) (r : Nat → Int32), 1 ≤ j ∧ j + k = mnq V + 1 ∧ kn3 (mL V) (mnq V) r b i j ∧ va_P G vwC2 (mW cA a (mnp V, mnq V, mco V, 1, va_up (mf V) 16 r, mg V)) H ∧ va_D (mu_A (mW cA a V)) (mW cA a (mnp V, mnq V, mco V, 1, va_up (mf V) 16 r, mg V)) ∧ va_S (mu_A (mW cA a V)) s.heap H locs ∧ lv_has ls 4 [(3, .int (nI j)), (2, .int (nI i)), (1, .int (nI (b + 1))), (0, .ref (a 0))]) ?_ (mnq V) ls H locs ⟨1, r, by omega, by omega, hk2, hP, hD, hS, (lv_sub hl [0, 1, 2, 3] rfl)⟩
          intro k62 ls H locs ⟨j, r, hj, hkj, hk3, hP, hD, hS, hl⟩ ih62
          refine lv_iload_n hx hb dM_know_62 rfl (lv_at hl 0 rfl) ?_
          refine lv_aload_n hx hb dM_know_63 rfl (lv_at hl 3 rfl) ?_
          refine va_get (D := G) (ci := 1) (v := .int (nI (mnq V))) (C := RX1) (T := TM) (N := 18) hx hb hts hfi hown hK hP 0 rfl rfl 3 (by decide) (hts (.fieldLink RX1 71 "PortRulesModel" "ports" "I") (by decide +kernel)) (fun _ h9 => h9) rfl dM_know_64 ?_
          refine nb_gt (tgt := 134) hx hb dM_know_67 (by decide) (by omega) (by omega) (fun c67 => ?_) (fun c67 => ?_)
          · refine lv_iinc (v := nI (i + 1)) (lv' := [(2, .int (nI (i + 1))), (3, .int (nI j)), (1, .int (nI (b + 1))), (0, .ref (a 0))]) hx hb dM_know_134 hl (k := 1) rfl (ni_inc _) (by decide) rfl (fun ls hl => ?_)
            refine lv_goto (tgt := 52) hx hb dM_know_137 (by decide) ?_
            exact ih52 k52 ls H locs (by omega) ⟨i + 1, r, by omega, by omega, kn3_next hk3 (by omega), hP, hD, hS, (lv_sub hl [0, 2, 3] rfl)⟩
          · obtain ⟨k62, rfl⟩ : ∃ z, k62 = z + 1 := ⟨k62 - 1, by omega⟩
            refine lv_aload_n hx hb dM_know_70 rfl (lv_at hl 3 rfl) ?_
            refine va_get (D := G) (ci := 1) (v := .ref (a 16)) (C := RX1) (T := TM) (N := 18) hx hb hts hfi hown hK hP 0 rfl rfl 16 (by decide) (hts (.fieldLink RX1 51 "PortRulesModel" "reaches" "[Z") (by decide +kernel)) (fun _ h9 => h9) rfl dM_know_71 ?_
            refine lv_bipush (v := nI 61) hx hb dM_know_74 (by decide) ?_
            refine lv_iload_n hx hb dM_know_76 rfl (lv_at hl 1 rfl) ?_
            refine lv_imul hx hb dM_know_77 ?_
            refine rd_topi (y := nI (61 * i)) (pk_mul _ _) ?_
            refine lv_iload_n hx hb dM_know_78 rfl (lv_at hl 2 rfl) ?_
            refine lv_iadd hx hb dM_know_79 ?_
            refine rd_topi (y := nI (61 * i + (b + 1))) (nI_add _ _) ?_
            refine rd_zald hx hb hK hP 14 1 rfl rfl (by omega) (by decide) dM_know_80 ?_
            refine lv_if_eq (tgt := 134) hx hb dM_know_81 (by decide) (fun c81 => ?_) (fun c81 => ?_)
            · refine lv_iinc (v := nI (i + 1)) (lv' := [(2, .int (nI (i + 1))), (3, .int (nI j)), (1, .int (nI (b + 1))), (0, .ref (a 0))]) hx hb dM_know_134 hl (k := 1) rfl (ni_inc _) (by decide) rfl (fun ls hl => ?_)
              refine lv_goto (tgt := 52) hx hb dM_know_137 (by decide) ?_
              exact ih52 k52 ls H locs (by omega) ⟨i + 1, r, by omega, by omega, kn3_skip hk3 (by omega) (by omega) (bv_f c81), hP, hD, hS, (lv_sub hl [0, 2, 3] rfl)⟩
            · refine lv_aload_n hx hb dM_know_84 rfl (lv_at hl 3 rfl) ?_
              refine va_get (D := G) (ci := 1) (v := .ref (a 16)) (C := RX1) (T := TM) (N := 18) hx hb hts hfi hown hK hP 0 rfl rfl 16 (by decide) (hts (.fieldLink RX1 51 "PortRulesModel" "reaches" "[Z") (by decide +kernel)) (fun _ h9 => h9) rfl dM_know_85 ?_
              refine lv_bipush (v := nI 61) hx hb dM_know_88 (by decide) ?_
              refine lv_iload_n hx hb dM_know_90 rfl (lv_at hl 1 rfl) ?_
              refine lv_imul hx hb dM_know_91 ?_
              refine rd_topi (y := nI (61 * i)) (pk_mul _ _) ?_
              refine lv_iload_n hx hb dM_know_92 rfl (lv_at hl 0 rfl) ?_
              refine lv_iadd hx hb dM_know_93 ?_
              refine rd_topi (y := nI (61 * i + j)) (nI_add _ _) ?_
              refine lv_aload_n hx hb dM_know_94 rfl (lv_at hl 3 rfl) ?_
              refine va_get (D := G) (ci := 1) (v := .ref (a 16)) (C := RX1) (T := TM) (N := 18) hx hb hts hfi hown hK hP 0 rfl rfl 16 (by decide) (hts (.fieldLink RX1 51 "PortRulesModel" "reaches" "[Z") (by decide +kernel)) (fun _ h9 => h9) rfl dM_know_95 ?_
              refine lv_bipush (v := nI 61) hx hb dM_know_98 (by decide) ?_
              refine lv_iload_n hx hb dM_know_100 rfl (lv_at hl 1 rfl) ?_
              refine lv_imul hx hb dM_know_101 ?_
              refine rd_topi (y := nI (61 * i)) (pk_mul _ _) ?_
              refine lv_iload_n hx hb dM_know_102 rfl (lv_at hl 0 rfl) ?_
              refine lv_iadd hx hb dM_know_103 ?_
              refine rd_topi (y := nI (61 * i + j)) (nI_add _ _) ?_
              refine rd_zald hx hb hK hP 14 1 rfl rfl (by omega) (by decide) dM_know_104 ?_
              refine lv_if_ne (tgt := 122) hx hb dM_know_105 (by decide) (fun c105 => ?_) (fun c105 => ?_)
              · refine lv_iconst (v := 1) hx hb dM_know_122 (by decide) ?_
                refine lv_goto (tgt := 127) hx hb dM_know_123 (by decide) ?_
                refine mu_zast hx hb hK hP hD hS 14 1 rfl rfl (by omega) (by decide) rfl dM_know_127 (ws1 := mW cA a (mnp V, mnq V, mco V, 1, va_up (mf V) 16 (upd (r) (61 * i + j) 1), mg V)) rfl (fun H locs hP hD hS => ?_)
                refine lv_iinc (v := nI (j + 1)) (lv' := [(3, .int (nI (j + 1))), (2, .int (nI i)), (1, .int (nI (b + 1))), (0, .ref (a 0))]) hx hb dM_know_128 hl (k := 0) rfl (ni_inc _) (by decide) rfl (fun ls hl => ?_)
                refine lv_goto (tgt := 62) hx hb dM_know_131 (by decide) ?_
                exact ih62 k62 ls H locs (by omega) ⟨j + 1, upd r (61 * i + j) 1, by omega, by omega, kn3_set hk3 h60 (by omega) (by omega) (by omega) (bv_t c81) (by rw [bv_t (r := r) (p := i) (q := j) c105]; rfl), hP, hD, hS, (lv_sub hl [0, 1, 2, 3] rfl)⟩
              · refine lv_aload_n hx hb dM_know_108 rfl (lv_at hl 3 rfl) ?_
                refine va_get (D := G) (ci := 1) (v := .ref (a 16)) (C := RX1) (T := TM) (N := 18) hx hb hts hfi hown hK hP 0 rfl rfl 16 (by decide) (hts (.fieldLink RX1 51 "PortRulesModel" "reaches" "[Z") (by decide +kernel)) (fun _ h9 => h9) rfl dM_know_109 ?_
                refine lv_bipush (v := nI 61) hx hb dM_know_112 (by decide) ?_
                refine lv_iload_n hx hb dM_know_114 rfl (lv_at hl 2 rfl) ?_
                refine lv_imul hx hb dM_know_115 ?_
                refine rd_topi (y := nI (61 * (b + 1))) (pk_mul _ _) ?_
                refine lv_iload_n hx hb dM_know_116 rfl (lv_at hl 0 rfl) ?_
                refine lv_iadd hx hb dM_know_117 ?_
                refine rd_topi (y := nI (61 * (b + 1) + j)) (nI_add _ _) ?_
                refine rd_zald hx hb hK hP 14 1 rfl rfl (by omega) (by decide) dM_know_118 ?_
                refine lv_if_eq (tgt := 126) hx hb dM_know_119 (by decide) (fun c119 => ?_) (fun c119 => ?_)
                · refine lv_iconst (v := 0) hx hb dM_know_126 (by decide) ?_
                  refine mu_zast hx hb hK hP hD hS 14 1 rfl rfl (by omega) (by decide) rfl dM_know_127 (ws1 := mW cA a (mnp V, mnq V, mco V, 1, va_up (mf V) 16 (upd (r) (61 * i + j) 0), mg V)) rfl (fun H locs hP hD hS => ?_)
                  refine lv_iinc (v := nI (j + 1)) (lv' := [(3, .int (nI (j + 1))), (2, .int (nI i)), (1, .int (nI (b + 1))), (0, .ref (a 0))]) hx hb dM_know_128 hl (k := 0) rfl (ni_inc _) (by decide) rfl (fun ls hl => ?_)
                  refine lv_goto (tgt := 62) hx hb dM_know_131 (by decide) ?_
                  exact ih62 k62 ls H locs (by omega) ⟨j + 1, upd r (61 * i + j) 0, by omega, by omega, kn3_set hk3 h60 (by omega) (by omega) (by omega) (bv_t c81) (by rw [bv_f (r := r) (p := i) (q := j) c105, bv_f (r := r) (p := b + 1) (q := j) c119]; rfl), hP, hD, hS, (lv_sub hl [0, 1, 2, 3] rfl)⟩
                · refine lv_iconst (v := 1) hx hb dM_know_122 (by decide) ?_
                  refine lv_goto (tgt := 127) hx hb dM_know_123 (by decide) ?_
                  refine mu_zast hx hb hK hP hD hS 14 1 rfl rfl (by omega) (by decide) rfl dM_know_127 (ws1 := mW cA a (mnp V, mnq V, mco V, 1, va_up (mf V) 16 (upd (r) (61 * i + j) 1), mg V)) rfl (fun H locs hP hD hS => ?_)
                  refine lv_iinc (v := nI (j + 1)) (lv' := [(3, .int (nI (j + 1))), (2, .int (nI i)), (1, .int (nI (b + 1))), (0, .ref (a 0))]) hx hb dM_know_128 hl (k := 0) rfl (ni_inc _) (by decide) rfl (fun ls hl => ?_)
                  refine lv_goto (tgt := 62) hx hb dM_know_131 (by decide) ?_
                  exact ih62 k62 ls H locs (by omega) ⟨j + 1, upd r (61 * i + j) 1, by omega, by omega, kn3_set hk3 h60 (by omega) (by omega) (by omega) (bv_t c81) (by rw [bv_f (r := r) (p := i) (q := j) c105, bv_t (r := r) (p := b + 1) (q := j) c119]; rfl), hP, hD, hS, (lv_sub hl [0, 1, 2, 3] rfl)⟩
    · obtain ⟨k15, rfl⟩ : ∃ z, k15 = z + 1 := ⟨k15 - 1, by omega⟩
      refine lv_aload_n hx hb dM_know_22 rfl (lv_at hl 1 rfl) ?_
      refine va_get (D := G) (ci := 1) (v := .ref (a 16)) (C := RX1) (T := TM) (N := 18) hx hb hts hfi hown hK hP 0 rfl rfl 16 (by decide) (hts (.fieldLink RX1 51 "PortRulesModel" "reaches" "[Z") (by decide +kernel)) (fun _ h9 => h9) rfl dM_know_23 ?_
      refine lv_iload_n hx hb dM_know_26 rfl (lv_at hl 0 rfl) ?_
      refine lv_aload_n hx hb dM_know_27 rfl (lv_at hl 1 rfl) ?_
      refine va_get (D := G) (ci := 1) (v := .ref (a 15)) (C := RX1) (T := TM) (N := 18) hx hb hts hfi hown hK hP 0 rfl rfl 15 (by decide) (hts (.fieldLink RX1 48 "PortRulesModel" "leads" "[Z") (by decide +kernel)) (fun _ h9 => h9) rfl dM_know_28 ?_
      refine lv_iload_n hx hb dM_know_31 rfl (lv_at hl 0 rfl) ?_
      refine rd_zald hx hb hK hP 13 1 rfl rfl (by omega) (by decide) dM_know_32 ?_
      refine mu_zast hx hb hK hP hD hS 14 1 rfl rfl (by omega) (by decide) (mLb_n hlb (by omega)) dM_know_33 (ws1 := mW cA a (mnp V, mnq V, mco V, 1, va_up (mf V) 16 (upd (r) i (mf V 15 i)), mg V)) rfl (fun H locs hP hD hS => ?_)
      refine lv_iinc (v := nI (i + 1)) (lv' := [(1, .int (nI (i + 1))), (0, .ref (a 0))]) hx hb dM_know_34 hl (k := 0) rfl (ni_inc _) (by decide) rfl (fun ls hl => ?_)
      refine lv_goto (tgt := 15) hx hb dM_know_37 (by decide) ?_
      exact ih15 k15 ls H locs (by omega) ⟨i + 1, upd r i (mf V 15 i), by omega, fun j hj => by by_cases ej : j = i; (rw [ej]; exact pk_us); exact (pk_un ej).trans (hr9 j (by omega)), hP, hD, hS, (lv_sub hl [0, 1] rfl)⟩
  · exact mu_vret (V) hx hb hr hS hP (⟨mkn V, mf V 16, c4, by rw [va_up_id], hkv c4⟩) (rfl) dM_know_7 hlocks
set_option maxHeartbeats 4000000 in
set_option maxRecDepth 100000 in
theorem cm_leadTo (l : Launch) (G : va_G) (cA : Nat → ClassId) (a : Nat → Nat) (V : MV) (q0 : Nat) (h30 : mnp V ≤ 30) (h60 : mnq V ≤ 60) (hkv : ¬ mkn V = 0 → mKn V) (hlb : mLb V) (hq1 : 1 ≤ q0) (hq2 : q0 ≤ mnq V) : Met l yM_leadTo wsM_leadTo { frames := 2, cells := 0, slots := 0, locals := 45 } (mu_Pc G vwC2 (tT cA) (mW cA a V) [.ref (a 0), .int (nI q0)]) (mu_Q G vwC2 (mW cA a V) (fun _ => some (.int (nI (mTo V q0)))) (mKd V) (fun u9 => mW cA a u9)) 0 0 (mu_A (mW cA a V)) := by
  refine Met.ofW (cc := cM_leadTo) (maxL := 4) (ret := some .int) (by decide) rfl ?_
  intro p e s m args below meth c s₁ B hml hv
  obtain ⟨rfl, hP, hK, hD0⟩ := hv
  have hx := B.exec
  have hb := B.bytes
  have hr := B.returns
  have hts := atoms_spec (ws := wsM_leadTo) B.pre
  have hown : s.vm.findClass RX1 = some m.cls := findClass_of_methodNamed B.named
  have hlocks := B.notSynchronized
  have hD := mu_own hD0
  have hS : va_S (mu_A (mW cA a V)) s.heap s.heap [] := va_S.rf
  have hfi : ∀ w ∈ u_ws RX1 TM 18, w ∈ wsM_leadTo := fun w h => List.mem_cons_of_mem _ (wMA_f w h)
  have hl := lv_entry ([.ref (a 0), .int (nI q0)]) (n := 4) (Nat.le_of_ble_eq_true rfl)
  rw [lg_entry_eq]
  generalize (lg_sl ([.ref (a 0), .int (nI q0)]) ++ List.replicate (4 - (lg_sl ([.ref (a 0), .int (nI q0)])).length) Slot.unset).toArray = ls at hl ⊢
  have hl : lv_has ls 4 [(0, .ref (a 0)), (1, .int (nI q0))] := hl
  refine lv_aload_n hx hb dM_leadTo_0 rfl (lv_at hl 0 rfl) ?_
  refine mu_callV (As := []) (rest := []) (b := a 0) (q0 := 0) (ci := 1) ⟨hx, hb, hml, hown, hts⟩ (cm_know l G cA a V h60 hkv hlb) (cwV 0 hts gM_leadTo_M_know rfl rfl rfl (by decide +kernel) ⟨Nat.le_of_ble_eq_true rfl, Nat.le_of_ble_eq_true rfl⟩) hK hP hD hS rfl rfl rfl (fun _ _ => rfl) rfl hl.1 rfl (Nat.le_of_ble_eq_true rfl) dM_leadTo_1 ⟨Nat.zero_le _, Nat.zero_le _⟩ (fun u9 H locs hu9 hP hD hS => ?_)
  obtain ⟨kn, r, hk0, rfl, hkn⟩ := hu9
  have hP : va_P G vwC2 (mW cA a (mnp V, mnq V, mco V, kn, va_up (mf V) 16 r, mg V)) H := hP
  have hD : va_D (mu_A (mW cA a V)) (mW cA a (mnp V, mnq V, mco V, kn, va_up (mf V) 16 r, mg V)) := hD
  refine W.eq (g2 := F0 m 4 ls []) rfl ?_
  refine lv_iconst (v := nI 0) hx hb dM_leadTo_4 (by decide) ?_
  refine lv_istore_n (lv' := [(2, .int (nI 0)), (0, .ref (a 0)), (1, .int (nI q0))]) hx hb dM_leadTo_5 rfl hl (by decide) rfl (fun ls hl => ?_)
  refine lv_iconst (v := nI 1) hx hb dM_leadTo_6 (by decide) ?_
  refine lv_istore_n (lv' := [(3, .int (nI 1)), (2, .int (nI 0)), (0, .ref (a 0)), (1, .int (nI q0))]) hx hb dM_leadTo_7 rfl hl (by decide) rfl (fun ls hl => ?_)
  refine rd_loop (fun k ls => ∃ i n : Nat, 1 ≤ i ∧ i + k = mnq V + 1 ∧ n + pu_cnt (fun p0 => mF V p0 q0) k i = mTo V q0 ∧ lv_has ls 4 [(3, .int (nI i)), (2, .int (nI n)), (0, .ref (a 0)), (1, .int (nI q0))]) ?_ (mnq V) ls ⟨1, 0, by omega, by omega, Nat.zero_add _, (lv_sub hl [0, 1, 2, 3] rfl)⟩
  intro k8 ls ⟨i, n, hi, hk, hR, hl⟩ ih8
  refine lv_iload_n hx hb dM_leadTo_8 rfl (lv_at hl 0 rfl) ?_
  refine lv_aload_n hx hb dM_leadTo_9 rfl (lv_at hl 2 rfl) ?_
  refine va_get (D := G) (ci := 1) (v := .int (nI (mnq V))) (C := RX1) (T := TM) (N := 18) hx hb hts hfi hown hK hP 0 rfl rfl 3 (by decide) (hts (.fieldLink RX1 71 "PortRulesModel" "ports" "I") (by decide +kernel)) (fun _ h9 => h9) rfl dM_leadTo_10 ?_
  refine nb_gt (tgt := 39) hx hb dM_leadTo_13 (by decide) (by omega) (by omega) (fun c13 => ?_) (fun c13 => ?_)
  · refine lv_iload_n hx hb dM_leadTo_39 rfl (lv_at hl 1 rfl) ?_
    exact mu_iret ((mnp V, mnq V, mco V, kn, va_up (mf V) 16 r, mg V)) hx hb hr hS hP (⟨kn, r, hk0, rfl, hkn⟩) (by rw [← hR, show k8 = 0 by omega]; rfl) dM_leadTo_40 hlocks
  · obtain ⟨k8, rfl⟩ : ∃ z, k8 = z + 1 := ⟨k8 - 1, by omega⟩
    refine lv_iload_n hx hb dM_leadTo_16 rfl (lv_at hl 1 rfl) ?_
    refine lv_aload_n hx hb dM_leadTo_17 rfl (lv_at hl 2 rfl) ?_
    refine lv_iload_n hx hb dM_leadTo_18 rfl (lv_at hl 0 rfl) ?_
    refine lv_iload_n hx hb dM_leadTo_19 rfl (lv_at hl 3 rfl) ?_
    refine rd_callV (As := [.int (nI i), .int (nI q0)]) (rest := [.int (nI n)]) (b := a 0) (q0 := 0) (ci := 1) ⟨hx, hb, hml, hown, hts⟩ (cm_isFlat l G cA a ((mnp V, mnq V, mco V, kn, va_up (mf V) 16 r, mg V)) i q0 h30 h60 hkn (by omega) (by omega) (by omega) (by omega)) (cwV 2 hts gM_leadTo_M_isFlat rfl rfl rfl (by decide +kernel) ⟨Nat.le_of_ble_eq_true rfl, Nat.le_of_ble_eq_true rfl⟩) hK hP rfl rfl rfl rfl hl.1 rfl (Nat.le_of_ble_eq_true rfl) dM_leadTo_20 ⟨Nat.zero_le _, Nat.zero_le _⟩ ?_
    refine bb_eq (b := (mF V i q0)) (tgt := 30) hx hb dM_leadTo_23 (by decide) (fun c23 => ?_) (fun c23 => ?_)
    · refine lv_iconst (v := nI 0) hx hb dM_leadTo_30 (by decide) ?_
      refine lv_iadd hx hb dM_leadTo_31 ?_
      refine rd_topi (y := nI n) (nI_add n 0) ?_
      refine lv_istore_n (lv' := [(2, .int (nI n)), (3, .int (nI i)), (0, .ref (a 0)), (1, .int (nI q0))]) hx hb dM_leadTo_32 rfl hl (by decide) rfl (fun ls hl => ?_)
      refine lv_iinc (v := nI (i + 1)) (lv' := [(3, .int (nI (i + 1))), (2, .int (nI n)), (0, .ref (a 0)), (1, .int (nI q0))]) hx hb dM_leadTo_33 hl (k := 1) rfl (ni_inc _) (by decide) rfl (fun ls hl => ?_)
      refine lv_goto (tgt := 8) hx hb dM_leadTo_36 (by decide) ?_
      exact ih8 k8 ls (by omega) ⟨i + 1, n, by omega, by omega, by have h := pu_cnt_f (k := k8) (P := fun p0 => mF V p0 q0) (i := i) c23; omega, (lv_sub hl [0, 1, 2, 3] rfl)⟩
    · refine lv_iconst (v := nI 1) hx hb dM_leadTo_26 (by decide) ?_
      refine lv_goto (tgt := 31) hx hb dM_leadTo_27 (by decide) ?_
      refine lv_iadd hx hb dM_leadTo_31 ?_
      refine rd_topi (y := nI (n + 1)) (nI_add n 1) ?_
      refine lv_istore_n (lv' := [(2, .int (nI (n + 1))), (3, .int (nI i)), (0, .ref (a 0)), (1, .int (nI q0))]) hx hb dM_leadTo_32 rfl hl (by decide) rfl (fun ls hl => ?_)
      refine lv_iinc (v := nI (i + 1)) (lv' := [(3, .int (nI (i + 1))), (2, .int (nI (n + 1))), (0, .ref (a 0)), (1, .int (nI q0))]) hx hb dM_leadTo_33 hl (k := 1) rfl (ni_inc _) (by decide) rfl (fun ls hl => ?_)
      refine lv_goto (tgt := 8) hx hb dM_leadTo_36 (by decide) ?_
      exact ih8 k8 ls (by omega) ⟨i + 1, n + 1, by omega, by omega, by have h := pu_cnt_t (k := k8) (P := fun p0 => mF V p0 q0) (i := i) c23; omega, (lv_sub hl [0, 1, 2, 3] rfl)⟩
end
