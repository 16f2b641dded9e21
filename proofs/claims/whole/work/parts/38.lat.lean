/-! the law's own at: 0 and the answer in out, or 1 -/
theorem met_vx {l : Launch} {y : MethodName} {ws : List Cond} {rm : Room} {Pc : Array Value → State → Prop} {Qc : Array Value → State → Outcome → State → Prop} {mc ms : Nat} {free : Addr → Prop} (h : vx_Met l y ws rm Pc Qc (fun _ _ _ => False) mc ms free) : Met l y ws rm Pc Qc mc ms free :=
  MetFree.mono h (fun _ _ h => h) (fun _ _ _ _ _ h => h) (fun a s o s' _ hq => hq.elim (fun h => h) (fun ⟨_, _, _, _, _, hx, _⟩ => hx.elim))
abbrev xWo (cA : Nat → ClassId) (a : Nat → Nat) (V : XV) (ob : Nat) (o : Nat → Int64) : va_W := xW cA a V ++ [(ob, .inl (cA 2, 1, .inr (.inl o)))]
theorem vxI_cast : Cond.castable ioob ioob ∈ vxI.filter (fun w => !goodWord w) := by decide +kernel
abbrev la_P (G : va_G) (cA : Nat → ClassId) (a : Nat → Nat) (V : XV) (sa ob : Nat) (o : Nat → Int64) (av : List Value) : Array Value → State → Prop := va_Pc av (fun U => va_P G vwC2 (xWo cA a V ob o) U.heap ∧ va_K G vwC2 (tT cA) U ∧ va_D (fun _ => True) (xWo cA a V ob o) ∧ vxS sa U U.heap (fun _ => False))
theorem la_blind {G : va_G} {cA : Nat → ClassId} {a : Nat → Nat} {V : XV} {sa ob : Nat} {o : Nat → Int64} {av : List Value} : FrameBlind (la_P G cA a V sa ob o av) := fun a U g mk q => by
  obtain ⟨q0, qP, qK, qD, qS⟩ := q
  exact ⟨q0, qP, va_K.moved (u := U) (U := U.calling g mk a) (Vm.Alike.refl U.vm) qK, qD, qS.call⟩
theorem at_blind {G : va_G} {cA : Nat → ClassId} {a : Nat → Nat} {V : XV} {sa : Nat} {av : List Value} : FrameBlind (at_P G cA a V sa av) := fun a U g mk q => by
  obtain ⟨q0, qP, qK, qS⟩ := q
  exact ⟨q0, qP, va_K.moved (u := U) (U := U.calling g mk a) (Vm.Alike.refl U.vm) qK, qS.call⟩
def la_post (V : XV) (x w0 : Int32) (o : Nat → Int64) (r : Int32) (u : Nat → Int64) : Prop := (xFc V x = 0 ∧ r = 1) ∨ (¬ xFc V x = 0 ∧ r = 0 ∧ u 0 = (xAtA V x w0).toInt64)
set_option maxHeartbeats 4000000 in
set_option maxRecDepth 100000 in
theorem cl_at (l : Launch) (hst : l.stackTraces = false) (G : va_G) (cA : Nat → ClassId) (a : Nat → Nat) (V : XV) (sa ob : Nat) (o : Nat → Int64) (x w0 : Int32) (hok : xOK V) : Met l yL_at wsL_at { frames := 7, cells := 1, slots := 6, locals := 109 } (la_P G cA a V sa ob o [.ref (a 0), .int x, .int w0, .ref ob])
    (va_Qi (la_post V x w0 o) (fun (u : Nat → Int64) t => va_P G vwC2 (xWo cA a V ob u) t.heap) (fun q => q = ob)) 1 6 (fun q => q = ob) := by
  refine met_vx (vx_ofWH (cc := cL_at) (maxL := 5) (ret := some .int) (hh := [(0, 10, 13, 13)]) (by decide) rfl ?_)
  intro p e s m args below meth c s₁ B hml hv
  obtain ⟨rfl, hP, hK, hD0, hU⟩ := hv
  have hx := B.exec
  have hb := B.bytes
  have hr := B.returns
  have hts := atoms_spec (ws := wsL_at) B.pre
  have hown : s.vm.findClass RL = some m.cls := findClass_of_methodNamed B.named
  have hlocks := B.notSynchronized
  have htab : c.exceptionTable.toList = tableOf [(0, 10, 13, 13)] := vx_table (x := yL_at) B (hts (.codeWith yL_at cL_at 5 (some .int) [(0, 10, 13, 13)]) List.mem_cons_self)
  have hcast : (Cond.castable ioob ioob).before #[Value.ref (a 0), Value.int x, Value.int w0, Value.ref ob] s = true := face_warm rfl rfl (Vm.Alike.refl s.vm) (hU.2.2.2 _ vxI_cast)
  have hS : va_S (fun q => q = ob) s.heap s.heap [] := va_S.rf
  have hPx : va_P G vwC2 (xW cA a V) s.heap := fun k q hk => hP k q (by rw [List.getElem?_append_left (List.getElem?_eq_some_iff.mp hk).1]; exact hk)
  have hob : va_P G vwC2 [(ob, .inl (cA 2, 1, .inr (.inl o)))] s.heap := hP.sub [16] rfl
  have hDo : va_D (fun q => q = ob) [(ob, .inl (cA 2, 1, .inr (.inl o)))] := ⟨fun i j p q hp hq _ => by
    have h1 := (List.getElem?_eq_some_iff.mp hp).1
    have h2 := (List.getElem?_eq_some_iff.mp hq).1
    simp at h1 h2
    omega, fun k q hk => by
    have h1 := (List.getElem?_eq_some_iff.mp hk).1
    simp at h1
    subst h1
    cases hk
    rfl⟩
  have hl := lv_entry ([.ref (a 0), .int x, .int w0, .ref ob]) (n := 5) (Nat.le_of_ble_eq_true rfl)
  rw [lg_entry_eq]
  generalize (lg_sl ([.ref (a 0), .int x, .int w0, .ref ob]) ++ List.replicate (5 - (lg_sl ([.ref (a 0), .int x, .int w0, .ref ob])).length) Slot.unset).toArray = ls at hl ⊢
  have hl : lv_has ls 5 [(0, .ref (a 0)), (1, .int x), (2, .int w0), (3, .ref ob)] := hl
  refine lv_aload_n hx hb dL_at_0 rfl (lv_at hl 3 rfl) ?_
  refine lv_iconst (v := nI 0) hx hb dL_at_1 (by decide) ?_
  refine lv_aload_n hx hb dL_at_2 rfl (lv_at hl 0 rfl) ?_
  refine lv_iload_n hx hb dL_at_3 rfl (lv_at hl 1 rfl) ?_
  refine lv_iload_n hx hb dL_at_4 rfl (lv_at hl 2 rfl) ?_
  refine vx_calli (A0 := fun q => q = ob) (H0 := s.heap) (vx_runV (As := [.int x, .int w0]) (b := a 0) (rest := [.int (nI 0), .ref ob]) ⟨hx, hb, hml, hown, hts⟩ (cx_at l hst G cA a V sa x w0 hok) (cwV 2 hts gL_at_X0_at rfl rfl rfl (by decide +kernel) ⟨Nat.le_of_ble_eq_true rfl, Nat.le_of_ble_eq_true rfl⟩) ⟨at_blind, va_recv hK hPx (ci := 0) (q0 := 0) rfl rfl, fun U hU9 hW => ⟨rfl, by rw [hU9]; exact hPx, va_K.moved hW.alike hK, by rw [hU9]; exact vxS.warm hW hU⟩⟩ rfl rfl hl.1 rfl (lv_room (Nat.le_of_ble_eq_true rfl)) dL_at_5 ⟨Nat.le_of_ble_eq_true rfl, Nat.le_of_ble_eq_true rfl⟩) hS (fun _ _ h => h.elim) (fun _ h => h.elim) (fun _ _ h => h.elim) ?_ ?_
  · intro E ce q9 u t H1 locs1 ht hvm h0 hE hz hk hS hcell hcv hcl
    subst hE
    refine vx_catch (own := RL) (name := ioob) (E := ioob) (ce := ce) hown [] ⟨0, 10, 13, 13⟩ [] htab (fun z hz => nomatch hz) (by decide) (by decide) (hts (.classLink RL 13 ioob) (by decide +kernel)) hcast hcell hcv hcl ?_
    refine lv_astore (lv' := [(4, .ref q9), (0, .ref (a 0)), (1, .int x), (2, .int w0), (3, .ref ob)]) hx hb dL_at_13 hl (by decide) rfl (fun ls hl => ?_)
    refine lv_iconst (v := 1) hx hb dL_at_15 (by decide) ?_
    exact vx_ret (W.iret hx hb hr (fun t ht _ => ⟨⟨1, o, rfl, Or.inl ⟨h0, rfl⟩, by show va_P G vwC2 (xWo cA a V ob o) t.heap; rw [ht]; exact hP.kept (fun k y hy => hk y.1 (vx_lt hP hy) (fun z => z.elim))⟩, hS.F ht⟩) hS.2.2 dL_at_16 hlocks)
  · intro r u t H1 locs1 ht hvm hpo _ hz hk hS
    have hP1 : va_P G vwC2 (xWo cA a V ob o) H1 := hP.kept (fun k y hy => hk y.1 (vx_lt hP hy) (fun z => z.elim))
    have hob1 : va_P G vwC2 [(ob, .inl (cA 2, 1, .inr (.inl o)))] H1 := hP1.sub [16] rfl
    refine lv_i2l hx hb dL_at_8 rfl ?_
    refine mu_last hx hb hK hob1 hDo hS 0 2 rfl rfl (by decide) (by decide) dL_at_9 (ws1 := [(ob, .inl (cA 2, 1, .inr (.inl (vp_updL o 0 r.toInt64))))]) rfl (fun H2 locs2 hP2 hD2 hS2 => ?_)
    refine lv_goto (tgt := 17) hx hb dL_at_10 (by decide) ?_
    refine lv_iconst (v := 0) hx hb dL_at_17 (by decide) ?_
    refine vx_ret (W.iret hx hb hr (fun t ht _ => ⟨⟨0, vp_updL o 0 r.toInt64, rfl, Or.inr ⟨hpo.1, rfl, by rw [← hpo.2]; rfl⟩, ?_⟩, hS2.F ht⟩) hS2.2.2 dL_at_18 hlocks)
    show va_P G vwC2 (xWo cA a V ob (vp_updL o 0 r.toInt64)) t.heap
    rw [ht]
    refine va_P.app (hPx.kept (fun k y hy => hS2.2.1 y.1 (vx_lt hPx hy) (fun z => ?_))) hP2
    have hk9 := (List.getElem?_eq_some_iff.mp hy).1
    have h1 : (xWo cA a V ob o)[k]? = some y := by rw [List.getElem?_append_left hk9]; exact hy
    have h2 := hD0.1 k 16 y (ob, .inl (cA 2, 1, .inr (.inl o))) h1 rfl z
    have h3 : k < 16 := hk9
    omega
