/-! THE START: the empty states tell the same -/
theorem rel_start : Rel2 xV0 mV0 := by
  refine ⟨⟨⟨rfl, rfl, by decide, by decide⟩, fun j h1 h2 => absurd h2 (by show ¬ j ≤ 0; omega), fun c h1 h2 => ?_, fun k _ => ?_, fun j h1 h2 => absurd h2 (by show ¬ j ≤ 0; omega), fun j hj => ?_, fun j hj => ?_, fun p q _ _ => ?_, fun p q _ _ h => ?_, fun p q _ => ?_, fun j => ?_, fun j => ?_, fun h => absurd rfl h⟩, fun k _ => Or.inl rfl⟩
  · constructor
    · intro _; rfl
    · intro _; rfl
  · rfl
  · exact ⟨rfl, rfl, rfl, rfl, rfl⟩
  · have h8 : xf xV0 8 j = -1 := by show (if j < 61 then (-1 : Int32) else 0) = -1; rw [if_pos (by omega)]
    have h11 : xf xV0 11 j = -1 := by show (if j < 61 then (-1 : Int32) else 0) = -1; rw [if_pos (by omega)]
    exact ⟨Or.inl h8, Or.inl h11⟩
  · show lb 0 q = mL mV0 p q
    rw [lb_0]; rfl
  · exact absurd h (by show ¬ (!decide ((0 : Int32) = 0)) = true; decide)
  · show lb 0 q = _
    rw [lb_0, decide_eq_false (by show ¬ ((1 ≤ p ∧ p ≤ 0) ∧ _); omega)]; rfl
  · show lb 0 j = _
    rw [lb_0, decide_eq_false (by show ¬ (1 ≤ j ∧ j ≤ 0); omega)]; rfl
  · show lb 0 j = _
    rw [lb_0, decide_eq_false (by show ¬ (1 ≤ j ∧ j ≤ 0); omega)]; rfl
/-! THE THROW of at: the words -/
abbrev vxI : List Cond := vx_atS RX0 121 "java/lang/IndexOutOfBoundsException" ["java/lang/RuntimeException", "java/lang/Exception"]
theorem vxI_face : (vxI.filter (fun w => !goodWord w)).all (fun w => w.onTables && w.faceAtom) = true := by decide +kernel
theorem vxI_ot : (Cond.classLink RX0 117 "java/lang/IndexOutOfBoundsException" :: Cond.initialized "java/lang/IndexOutOfBoundsException" :: vxI).all vx_ot = true := by decide +kernel
theorem vxI_in : ∀ w ∈ vxI.filter (fun w => !goodWord w), w ∈ lw_tbl := by decide +kernel
theorem face_warm {w : Cond} {args args' : Array Value} {s U : State} (ht : w.onTables = true) (hf : w.faceAtom = true) (hvm : s.vm.Alike U.vm) (h : w.before args s = true) : w.before args' U = true := by
  have h1 := Cond.faceAtom_setVm hvm w hf h
  rw [Cond.onTables_vm (A := args) (A' := args') (U := s) (U' := U) U.vm w ht] at h1
  exact h1
/-- what the throw needs of the state -/
def vxS (sa : Nat) (U : State) (H : Heap) (A : Nat → Prop) : Prop := vx_Zq Bundle.tN "UNASSIGNED_STACK" Bundle.steD A U H ∧ vx_Zq Bundle.tN "SUPPRESSED_SENTINEL" Bundle.listD A U H ∧ vk_R RX0 119 "no such flat connector" sa U ∧ ∀ w ∈ vxI.filter (fun w => !goodWord w), w.before #[] U = true
theorem vxS.warm {sa : Nat} {u U : State} {H : Heap} {A : Nat → Prop} (hW : u.WarmedH U.vm) (h : vxS sa u H A) : vxS sa U H A := by
  obtain ⟨h1, h2, h3, h4⟩ := h
  refine ⟨vx_Zq.moved hW.alike h1, vx_Zq.moved hW.alike h2, vk_R.warm hW h3, fun w hw => ?_⟩
  have hq := List.all_eq_true.mp vxI_face w hw
  rw [Bool.and_eq_true] at hq
  exact face_warm hq.1 hq.2 hW.alike (h4 w hw)
theorem vxS.kept {sa : Nat} {U : State} {H H1 : Heap} {A : Nat → Prop} (h : vxS sa U H A) (hq : ∀ a : Nat, a < H.size → ¬ A a → H1[a]? = H[a]?) : vxS sa U H1 A := by
  obtain ⟨h1, h2, h3, h4⟩ := h
  exact ⟨vx_Zq.kept h1 hq, vx_Zq.kept h2 hq, h3, h4⟩
theorem vxS.narrow {sa : Nat} {U : State} {H : Heap} {A B : Nat → Prop} (h : vxS sa U H A) (hAB : ∀ q, B q → A q) : vxS sa U H B := by
  obtain ⟨h1, h2, h3, h4⟩ := h
  exact ⟨vx_Zq.narrow h1 hAB, vx_Zq.narrow h2 hAB, h3, h4⟩
theorem vxS.call {sa : Nat} {U : State} {H : Heap} {A : Nat → Prop} {g : JFrame} {mk : MethodId} {a : Array Value} (h : vxS sa U H A) : vxS sa (U.calling g mk a) H A := vxS.warm (u := U) (U := U.calling g mk a) (State.WarmedH.refl U) h
