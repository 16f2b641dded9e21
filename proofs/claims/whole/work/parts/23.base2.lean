/-! BASE 2: reads without an answer; isIn; booleans in loops -/
def rd_QN : Array Value → State → Outcome → State → Prop := fun _ st o t => o = .returned none ∧ t.heap = st.heap
section RN
variable {p : Program} {l : Launch} {e : Env} {R : Room} {s : State} {m : MethodId} {args : Array Value} {below : List Frame} {meth : Method} {c : Code} {H : Heap} {locs : List Loc} {cells slots : Nat} {Q : State → Prop}
variable {cc : ByteArray} {pc : Nat} {ls : Array Slot} {rest st0 : List Value} {D : va_G} {cl : List vw_C} {tys : List (ClassId × FieldType)} {ws : va_W}
theorem rd_vret (hexec : p.tables.exec = Jvm.exec) (hb : c.code = cc) (hr : meth.sig.returnType = none) (hdg : decode cc pc = .ok (.return_, 1)) (hlocks : meth.locks = false) :
    W p l e R s m args below meth c s.heap [] cells slots (MQ below rd_QN args s cells slots (fun _ => False)) (F0 m pc ls []) :=
  W.vret hexec hb hr (fun t ht _ => ⟨rfl, ht⟩) (fun q h => absurd h List.not_mem_nil) hdg hlocks
theorem rd_callN {y : MethodName} {bytes : ByteArray} {maxL nL n index : Nat} {ret : Option FieldType} {wm Ts : List Cond} {rm : Room} {own C : String} {b q0 ci : Nat} {As : List Value} {q : vw_C} {fs : List Value}
    (S : CallFix p m c cc nL s args Ts own) (hM : Met l y wm rm (rd_Pc D cl tys ws (.ref b :: As)) rd_QN 0 0 (fun _ => False)) (cw : CallW R s args own C index y bytes maxL ret wm rm 0 0 n)
    (hK : va_K D cl tys s) (hP : va_P D cl ws H) (hc : cl[ci]? = some q) (he : ws[q0]? = some (b, .inr (ci, fs))) (hC : q.1 = C) (hn : As.length = n) (hsize : ls.size = nL) (hst : st0 = As.reverse ++ .ref b :: rest)
    (hW : (rest.map fun v => v.category).sum ≤ 8) (hdg : decode cc pc = .ok (.invokevirtual index, 3)) (hf : cells ≤ R.cells ∧ slots ≤ R.slots)
    (kk : W p l e R s m args below meth c H locs cells slots Q (F0 m (pc + 3) ls rest)) : W p l e R s m args below meth c H locs cells slots Q (F0 m pc ls st0) := by
  subst hC
  have hr := W.runV (g := F0 m pc ls st0) (rest := rest) (As := As) (b := b) (locs := locs) (cells := cells) (slots := slots) (below := below) (meth := meth) (e := e) (R := R) S hM cw ⟨rd_blind, va_recv hK hP hc he, fun U hU hW => ⟨rfl, by rw [hU]; exact hP, va_K.moved hW.alike hK⟩⟩ rfl hn hsize hst (lv_room hW) hdg hf
  intro T hT X
  obtain ⟨v, st₀, t, T', L, h0, X', hL, e1, ⟨hv, hh⟩, st⟩ := hr T hT X
  cases hv
  obtain ⟨t2, a1, b1⟩ := kk T' (by rw [e1, hh, h0]) (Stand.forget X' (fun q h => (hL q h).elim))
  exact ⟨t2, st t2 a1, b1⟩
end RN
def isI (x lo hi : Int64) : Bool := decide (lo.toInt ≤ x.toInt ∧ x.toInt ≤ hi.toInt)
theorem isI_t {x lo hi : Int64} (h1 : lo.toInt ≤ x.toInt) (h2 : x.toInt ≤ hi.toInt) : isI x lo hi = true := decide_eq_true ⟨h1, h2⟩
theorem isI_lo {x lo hi : Int64} (h : x.toInt < lo.toInt) : isI x lo hi = false := decide_eq_false (by omega)
theorem isI_hi {x lo hi : Int64} (h : hi.toInt < x.toInt) : isI x lo hi = false := decide_eq_false (by omega)
theorem isI_b {x : Int32} {y z : Int64} {lo hi : Int} (hy : y.toInt = lo) (hz : z.toInt = hi) : isI x.toInt64 y z = inB x lo hi := by
  subst hy; subst hz
  unfold isI inB
  rw [Int32.toInt_toInt64]
theorem isI_l {x : Int64} {y z : Int64} {lo hi : Int} (hy : y.toInt = lo) (hz : z.toInt = hi) : isI x y z = inL x lo hi := by
  subst hy; subst hz
  rfl
theorem ni_l {n : Nat} (h : n < 2 ^ 31) : (nI n).toInt64.toInt = (n : Int) := by rw [Int32.toInt_toInt64, nI_toInt h]
theorem z1_ne {b c : Bool} (h : b = c) : z1 b = z1 c := by rw [h]
