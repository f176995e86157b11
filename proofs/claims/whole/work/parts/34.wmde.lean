-- MD_letterAt
theorem kMD_letterAt_X11_letterAt_0 : Cond.fieldLink RX11 7 "RepeatNestsModel" "s" "[I" ∈ wsX11_letterAt := by decide +kernel
theorem iMD_letterAt_X11_letterAt_1 : ∀ w ∈ wsX110, w ∈ wsX11_letterAt := by decide +kernel
theorem kMD_letterAt_X11_letterAt_2 : Cond.constant RX11 79 (-1000004) ∈ wsX11_letterAt := by decide +kernel
theorem kMD_letterAt_X11_letterAt_3 : Cond.constant RX11 57 (-1000001) ∈ wsX11_letterAt := by decide +kernel
set_option maxHeartbeats 4000000 in
set_option maxRecDepth 100000 in
theorem cMD_letterAt (l : Launch) (dC : Nat → ClassId) (dI : Nat → Nat → Nat) (cI cJ cC cS : ClassId) (h_t h_t_s h_t_was h_t_begun h_t_text h_t_wrong h_t_cost h_t_first h_t_block h_t_many h_t_stack h_t_written h_t_own h_t_levelAt h_t_itemAt h_t_times : Nat) (sz : Nat) (t_states : Int32) (t_typed : Int32) (t_height : Int32) (t_length : Int32) (t_at : Int32) (t_ownLength : Int32) (t_depth : Int32) (t_deepest : Int32) (t_letters : Int32) (t_repeats : Int32) (t_corrections : Int32) (t_mostCorrections : Int32) (t_place : Int32) (t_reason : Int32) (t_s : Nat → Int32) (x1 : Int32) (r : Int32) (hres : fMD_letterAt t_s x1 = some r) :
    Met l yX11_letterAt wsX11_letterAt ({ frames := 0, cells := 0, slots := 0, locals := 0 } : Room) (va_Pc [.ref h_t, .int x1] (fun (U : State) => U.heap.size = sz ∧ va_P (dC, dI) vwCl [(h_t, .inr (10, [.ref h_t_s, .ref h_t_was, .ref h_t_begun, .int t_states, .ref h_t_text, .int t_typed, .ref h_t_wrong, .ref h_t_cost, .ref h_t_first, .ref h_t_block, .ref h_t_many, .ref h_t_stack, .int t_height, .ref h_t_written, .int t_length, .ref h_t_own, .ref h_t_levelAt, .ref h_t_itemAt, .ref h_t_times, .int t_at, .int t_ownLength, .int t_depth, .int t_deepest, .int t_letters, .int t_repeats, .int t_corrections, .int t_mostCorrections, .int t_place, .int t_reason])), (h_t_s, .inl (cI, 30, .inl t_s))] U.heap ∧ va_K (dC, dI) vwCl (tyA cI cJ cC cS) U ∧ nwN U ∧ va_D (fun _ => True) [(h_t, .inr (10, [.ref h_t_s, .ref h_t_was, .ref h_t_begun, .int t_states, .ref h_t_text, .int t_typed, .ref h_t_wrong, .ref h_t_cost, .ref h_t_first, .ref h_t_block, .ref h_t_many, .ref h_t_stack, .int t_height, .ref h_t_written, .int t_length, .ref h_t_own, .ref h_t_levelAt, .ref h_t_itemAt, .ref h_t_times, .int t_at, .int t_ownLength, .int t_depth, .int t_deepest, .int t_letters, .int t_repeats, .int t_corrections, .int t_mostCorrections, .int t_place, .int t_reason])), (h_t_s, .inl (cI, 30, .inl t_s))])) (va_Qi (fun (r9 : Int32) (_ : Unit) => r9 = r) (fun (_ : Unit) (t : State) => va_P (dC, dI) vwCl [(h_t, .inr (10, [.ref h_t_s, .ref h_t_was, .ref h_t_begun, .int t_states, .ref h_t_text, .int t_typed, .ref h_t_wrong, .ref h_t_cost, .ref h_t_first, .ref h_t_block, .ref h_t_many, .ref h_t_stack, .int t_height, .ref h_t_written, .int t_length, .ref h_t_own, .ref h_t_levelAt, .ref h_t_itemAt, .ref h_t_times, .int t_at, .int t_ownLength, .int t_depth, .int t_deepest, .int t_letters, .int t_repeats, .int t_corrections, .int t_mostCorrections, .int t_place, .int t_reason])), (h_t_s, .inl (cI, 30, .inl t_s))] t.heap ∧ va_K (dC, dI) vwCl (tyA cI cJ cC cS) t ∧ va_D (va_A [(h_t, .inr (10, [.ref h_t_s, .ref h_t_was, .ref h_t_begun, .int t_states, .ref h_t_text, .int t_typed, .ref h_t_wrong, .ref h_t_cost, .ref h_t_first, .ref h_t_block, .ref h_t_many, .ref h_t_stack, .int t_height, .ref h_t_written, .int t_length, .ref h_t_own, .ref h_t_levelAt, .ref h_t_itemAt, .ref h_t_times, .int t_at, .int t_ownLength, .int t_depth, .int t_deepest, .int t_letters, .int t_repeats, .int t_corrections, .int t_mostCorrections, .int t_place, .int t_reason])), (h_t_s, .inl (cI, 30, .inl t_s))] sz) [(h_t, .inr (10, [.ref h_t_s, .ref h_t_was, .ref h_t_begun, .int t_states, .ref h_t_text, .int t_typed, .ref h_t_wrong, .ref h_t_cost, .ref h_t_first, .ref h_t_block, .ref h_t_many, .ref h_t_stack, .int t_height, .ref h_t_written, .int t_length, .ref h_t_own, .ref h_t_levelAt, .ref h_t_itemAt, .ref h_t_times, .int t_at, .int t_ownLength, .int t_depth, .int t_deepest, .int t_letters, .int t_repeats, .int t_corrections, .int t_mostCorrections, .int t_place, .int t_reason])), (h_t_s, .inl (cI, 30, .inl t_s))]) (va_A [(h_t, .inr (10, [.ref h_t_s, .ref h_t_was, .ref h_t_begun, .int t_states, .ref h_t_text, .int t_typed, .ref h_t_wrong, .ref h_t_cost, .ref h_t_first, .ref h_t_block, .ref h_t_many, .ref h_t_stack, .int t_height, .ref h_t_written, .int t_length, .ref h_t_own, .ref h_t_levelAt, .ref h_t_itemAt, .ref h_t_times, .int t_at, .int t_ownLength, .int t_depth, .int t_deepest, .int t_letters, .int t_repeats, .int t_corrections, .int t_mostCorrections, .int t_place, .int t_reason])), (h_t_s, .inl (cI, 30, .inl t_s))] sz)) 0 0 (va_A [(h_t, .inr (10, [.ref h_t_s, .ref h_t_was, .ref h_t_begun, .int t_states, .ref h_t_text, .int t_typed, .ref h_t_wrong, .ref h_t_cost, .ref h_t_first, .ref h_t_block, .ref h_t_many, .ref h_t_stack, .int t_height, .ref h_t_written, .int t_length, .ref h_t_own, .ref h_t_levelAt, .ref h_t_itemAt, .ref h_t_times, .int t_at, .int t_ownLength, .int t_depth, .int t_deepest, .int t_letters, .int t_repeats, .int t_corrections, .int t_mostCorrections, .int t_place, .int t_reason])), (h_t_s, .inl (cI, 30, .inl t_s))] sz) := by
  refine Met.ofW (cc := cX11_letterAt) (maxL := 2) (ret := (some .int)) (by decide) rfl ?_
  intro p e s m args below meth c s₁ B hml hv
  obtain ⟨hargs, hsz, hP, hK, hN, hD0⟩ := hv
  have hx := B.exec
  have hb := B.bytes
  have hr := B.returns
  have hts := atoms_spec (ws := wsX11_letterAt) B.pre
  have hown : s.vm.findClass RX11 = some m.cls := findClass_of_methodNamed B.named
  have hlocks := B.notSynchronized
  subst hsz
  have hD := hD0.self (sz := s.heap.size)
  generalize hAe : va_A [(h_t, .inr (10, [.ref h_t_s, .ref h_t_was, .ref h_t_begun, .int t_states, .ref h_t_text, .int t_typed, .ref h_t_wrong, .ref h_t_cost, .ref h_t_first, .ref h_t_block, .ref h_t_many, .ref h_t_stack, .int t_height, .ref h_t_written, .int t_length, .ref h_t_own, .ref h_t_levelAt, .ref h_t_itemAt, .ref h_t_times, .int t_at, .int t_ownLength, .int t_depth, .int t_deepest, .int t_letters, .int t_repeats, .int t_corrections, .int t_mostCorrections, .int t_place, .int t_reason])), (h_t_s, .inl (cI, 30, .inl t_s))] s.heap.size = A at hD ⊢
  have hA : ∀ q : Nat, s.heap.size ≤ q → A q := fun q h => by rw [← hAe]; exact Or.inr h
  have hS : va_S A s.heap s.heap [] := va_S.rf
  have hP : va_P (dC, dI) vwCl [(h_t, .inr (10, [.ref h_t_s, .ref h_t_was, .ref h_t_begun, .int t_states, .ref h_t_text, .int t_typed, .ref h_t_wrong, .ref h_t_cost, .ref h_t_first, .ref h_t_block, .ref h_t_many, .ref h_t_stack, .int t_height, .ref h_t_written, .int t_length, .ref h_t_own, .ref h_t_levelAt, .ref h_t_itemAt, .ref h_t_times, .int t_at, .int t_ownLength, .int t_depth, .int t_deepest, .int t_letters, .int t_repeats, .int t_corrections, .int t_mostCorrections, .int t_place, .int t_reason])), (h_t_s, .inl (cI, 30, .inl t_s))] s.heap := hP
  have hl := lv_entry [.ref h_t, .int x1] (n := 2) (Nat.le_of_ble_eq_true rfl)
  rw [show entryFrame m args 2 = entryFrame m ([.ref h_t, .int x1] : List Value).toArray 2 from by rw [hargs], lg_entry_eq]
  generalize (lg_sl [.ref h_t, .int x1] ++ List.replicate (2 - (lg_sl [.ref h_t, .int x1]).length) Slot.unset).toArray = ls at hl ⊢
  have hl : lv_has ls 2 [(0, .ref h_t), (1, .int x1)] := hl
  generalize hQQ : MQ below (va_Qi (fun (r9 : Int32) (_ : Unit) => r9 = r) (fun (_ : Unit) (t : State) => va_P (dC, dI) vwCl [(h_t, .inr (10, [.ref h_t_s, .ref h_t_was, .ref h_t_begun, .int t_states, .ref h_t_text, .int t_typed, .ref h_t_wrong, .ref h_t_cost, .ref h_t_first, .ref h_t_block, .ref h_t_many, .ref h_t_stack, .int t_height, .ref h_t_written, .int t_length, .ref h_t_own, .ref h_t_levelAt, .ref h_t_itemAt, .ref h_t_times, .int t_at, .int t_ownLength, .int t_depth, .int t_deepest, .int t_letters, .int t_repeats, .int t_corrections, .int t_mostCorrections, .int t_place, .int t_reason])), (h_t_s, .inl (cI, 30, .inl t_s))] t.heap ∧ va_K (dC, dI) vwCl (tyA cI cJ cC cS) t ∧ va_D A [(h_t, .inr (10, [.ref h_t_s, .ref h_t_was, .ref h_t_begun, .int t_states, .ref h_t_text, .int t_typed, .ref h_t_wrong, .ref h_t_cost, .ref h_t_first, .ref h_t_block, .ref h_t_many, .ref h_t_stack, .int t_height, .ref h_t_written, .int t_length, .ref h_t_own, .ref h_t_levelAt, .ref h_t_itemAt, .ref h_t_times, .int t_at, .int t_ownLength, .int t_depth, .int t_deepest, .int t_letters, .int t_repeats, .int t_corrections, .int t_mostCorrections, .int t_place, .int t_reason])), (h_t_s, .inl (cI, 30, .inl t_s))]) A) args s 0 0 A = QQ
  obtain ⟨H, hH⟩ : ∃ H : Heap, H = s.heap := ⟨_, rfl⟩
  obtain ⟨locs, hlocs⟩ : ∃ locs : List Loc, locs = [] := ⟨_, rfl⟩
  rw [← hH] at hP
  have hS : va_S A s.heap H locs := by rw [hH, hlocs]; exact hS
  suffices hZ : W p l e (headSpec wsX11_letterAt ({ frames := 0, cells := 0, slots := 0, locals := 0 } : Room)).room s m args below meth c H locs 0 0 QQ (F0 m 0 ls []) by rw [hH, hlocs] at hZ; exact hZ
  clear hH hlocs
  rw [fMD_letterAt] at hres
  refine lv_iload_n hx hb dX11_letterAt_0 rfl (lv_at hl 1 rfl) ?_
  refine lv_if_ge (tgt := 7) hx hb dX11_letterAt_1 (by decide) (fun c_1 => ?_) (fun c_1 => ?_)
  · have hres := it_of hres c_1
    refine lv_iload_n hx hb dX11_letterAt_7 rfl (lv_at hl 1 rfl) ?_
    refine lv_aload_n hx hb dX11_letterAt_8 rfl (lv_at hl 0 rfl) ?_
    refine va_get (D := (dC, dI)) (ci := 10) (v := .ref h_t_s) (C := RX11) (T := TX11) (N := 29) hx hb hts iMD_letterAt_X11_letterAt_1 hown hK hP 0 rfl rfl 0 (by decide) (hts _ kMD_letterAt_X11_letterAt_0) (fun _ h9 => h9) rfl dX11_letterAt_9 ?_
    refine lv_iconst (v := (0 : Int32)) hx hb dX11_letterAt_12 (by decide) ?_
    refine va_iald hx hb hK hP 1 0 rfl rfl (vin (by decide)) dX11_letterAt_13 ?_
    refine lv_icmp_ge (tgt := 29) hx hb dX11_letterAt_14 (by decide) (fun c_2 => ?_) (fun c_2 => ?_)
    · have hres := it_of hres c_2
      refine lv_ldc (v := (-1000004 : Int32)) hx hb hown (hts _ kMD_letterAt_X11_letterAt_2) dX11_letterAt_29 ?_
      have e9_0 := Option.some.inj hres
      subst e9_0
      rw [← hQQ]
      exact W.iret (v := (-1000004 : Int32)) hx hb hr (fun t ht hW => ⟨⟨(-1000004 : Int32), (), rfl, rfl, by rw [ht]; exact hP, va_K.moved hW.alike hK, hD⟩, hS.F ht⟩) hS.2.2 dX11_letterAt_31
    · have hres := ie_of hres c_2
      refine lv_aload_n hx hb dX11_letterAt_17 rfl (lv_at hl 0 rfl) ?_
      refine va_get (D := (dC, dI)) (ci := 10) (v := .ref h_t_s) (C := RX11) (T := TX11) (N := 29) hx hb hts iMD_letterAt_X11_letterAt_1 hown hK hP 0 rfl rfl 0 (by decide) (hts _ kMD_letterAt_X11_letterAt_0) (fun _ h9 => h9) rfl dX11_letterAt_18 ?_
      refine lv_bipush (v := (6 : Int32)) hx hb dX11_letterAt_21 (by decide) ?_
      refine lv_iload_n hx hb dX11_letterAt_23 rfl (lv_at hl 1 rfl) ?_
      refine lv_iadd hx hb dX11_letterAt_24 ?_
      obtain ⟨c_3, hres⟩ := ck_of hres
      refine va_iald hx hb hK hP 1 0 rfl rfl c_3 dX11_letterAt_25 ?_
      refine lv_goto (tgt := 31) hx hb dX11_letterAt_26 (by decide) ?_
      have e9_0 := Option.some.inj hres
      subst e9_0
      rw [← hQQ]
      exact W.iret (v := (rd t_s ((6 : Int32) + x1))) hx hb hr (fun t ht hW => ⟨⟨(rd t_s ((6 : Int32) + x1)), (), rfl, rfl, by rw [ht]; exact hP, va_K.moved hW.alike hK, hD⟩, hS.F ht⟩) hS.2.2 dX11_letterAt_31
  · have hres := ie_of hres c_1
    refine lv_ldc (v := (-1000001 : Int32)) hx hb hown (hts _ kMD_letterAt_X11_letterAt_3) dX11_letterAt_4 ?_
    have e9_0 := Option.some.inj hres
    subst e9_0
    rw [← hQQ]
    exact W.iret (v := (-1000001 : Int32)) hx hb hr (fun t ht hW => ⟨⟨(-1000001 : Int32), (), rfl, rfl, by rw [ht]; exact hP, va_K.moved hW.alike hK, hD⟩, hS.F ht⟩) hS.2.2 dX11_letterAt_6

-- MD_period
theorem kMD_period_X11_period_0 : Cond.constant RX11 57 (-1000001) ∈ wsX11_period := by decide +kernel
set_option maxHeartbeats 4000000 in
set_option maxRecDepth 100000 in
theorem cMD_period (l : Launch) (dC : Nat → ClassId) (dI : Nat → Nat → Nat) (cI cJ cC cS : ClassId) (h_t h_t_s h_t_was h_t_begun h_t_text h_t_wrong h_t_cost h_t_first h_t_block h_t_many h_t_stack h_t_written h_t_own h_t_levelAt h_t_itemAt h_t_times : Nat) (sz : Nat) (t_states : Int32) (t_typed : Int32) (t_height : Int32) (t_length : Int32) (t_at : Int32) (t_ownLength : Int32) (t_depth : Int32) (t_deepest : Int32) (t_letters : Int32) (t_repeats : Int32) (t_corrections : Int32) (t_mostCorrections : Int32) (t_place : Int32) (t_reason : Int32) (t_s : Nat → Int32) (x1 : Int32) (x2 : Int32) (r : Int32) (hres : fMD_period t_s x1 x2 = some r) :
    Met l yX11_period wsX11_period ({ frames := 2, cells := 0, slots := 0, locals := 48 } : Room) (va_Pc [.ref h_t, .int x1, .int x2] (fun (U : State) => U.heap.size = sz ∧ va_P (dC, dI) vwCl [(h_t, .inr (10, [.ref h_t_s, .ref h_t_was, .ref h_t_begun, .int t_states, .ref h_t_text, .int t_typed, .ref h_t_wrong, .ref h_t_cost, .ref h_t_first, .ref h_t_block, .ref h_t_many, .ref h_t_stack, .int t_height, .ref h_t_written, .int t_length, .ref h_t_own, .ref h_t_levelAt, .ref h_t_itemAt, .ref h_t_times, .int t_at, .int t_ownLength, .int t_depth, .int t_deepest, .int t_letters, .int t_repeats, .int t_corrections, .int t_mostCorrections, .int t_place, .int t_reason])), (h_t_s, .inl (cI, 30, .inl t_s))] U.heap ∧ va_K (dC, dI) vwCl (tyA cI cJ cC cS) U ∧ nwN U ∧ va_D (fun _ => True) [(h_t, .inr (10, [.ref h_t_s, .ref h_t_was, .ref h_t_begun, .int t_states, .ref h_t_text, .int t_typed, .ref h_t_wrong, .ref h_t_cost, .ref h_t_first, .ref h_t_block, .ref h_t_many, .ref h_t_stack, .int t_height, .ref h_t_written, .int t_length, .ref h_t_own, .ref h_t_levelAt, .ref h_t_itemAt, .ref h_t_times, .int t_at, .int t_ownLength, .int t_depth, .int t_deepest, .int t_letters, .int t_repeats, .int t_corrections, .int t_mostCorrections, .int t_place, .int t_reason])), (h_t_s, .inl (cI, 30, .inl t_s))])) (va_Qi (fun (r9 : Int32) (_ : Unit) => r9 = r) (fun (_ : Unit) (t : State) => va_P (dC, dI) vwCl [(h_t, .inr (10, [.ref h_t_s, .ref h_t_was, .ref h_t_begun, .int t_states, .ref h_t_text, .int t_typed, .ref h_t_wrong, .ref h_t_cost, .ref h_t_first, .ref h_t_block, .ref h_t_many, .ref h_t_stack, .int t_height, .ref h_t_written, .int t_length, .ref h_t_own, .ref h_t_levelAt, .ref h_t_itemAt, .ref h_t_times, .int t_at, .int t_ownLength, .int t_depth, .int t_deepest, .int t_letters, .int t_repeats, .int t_corrections, .int t_mostCorrections, .int t_place, .int t_reason])), (h_t_s, .inl (cI, 30, .inl t_s))] t.heap ∧ va_K (dC, dI) vwCl (tyA cI cJ cC cS) t ∧ va_D (va_A [(h_t, .inr (10, [.ref h_t_s, .ref h_t_was, .ref h_t_begun, .int t_states, .ref h_t_text, .int t_typed, .ref h_t_wrong, .ref h_t_cost, .ref h_t_first, .ref h_t_block, .ref h_t_many, .ref h_t_stack, .int t_height, .ref h_t_written, .int t_length, .ref h_t_own, .ref h_t_levelAt, .ref h_t_itemAt, .ref h_t_times, .int t_at, .int t_ownLength, .int t_depth, .int t_deepest, .int t_letters, .int t_repeats, .int t_corrections, .int t_mostCorrections, .int t_place, .int t_reason])), (h_t_s, .inl (cI, 30, .inl t_s))] sz) [(h_t, .inr (10, [.ref h_t_s, .ref h_t_was, .ref h_t_begun, .int t_states, .ref h_t_text, .int t_typed, .ref h_t_wrong, .ref h_t_cost, .ref h_t_first, .ref h_t_block, .ref h_t_many, .ref h_t_stack, .int t_height, .ref h_t_written, .int t_length, .ref h_t_own, .ref h_t_levelAt, .ref h_t_itemAt, .ref h_t_times, .int t_at, .int t_ownLength, .int t_depth, .int t_deepest, .int t_letters, .int t_repeats, .int t_corrections, .int t_mostCorrections, .int t_place, .int t_reason])), (h_t_s, .inl (cI, 30, .inl t_s))]) (va_A [(h_t, .inr (10, [.ref h_t_s, .ref h_t_was, .ref h_t_begun, .int t_states, .ref h_t_text, .int t_typed, .ref h_t_wrong, .ref h_t_cost, .ref h_t_first, .ref h_t_block, .ref h_t_many, .ref h_t_stack, .int t_height, .ref h_t_written, .int t_length, .ref h_t_own, .ref h_t_levelAt, .ref h_t_itemAt, .ref h_t_times, .int t_at, .int t_ownLength, .int t_depth, .int t_deepest, .int t_letters, .int t_repeats, .int t_corrections, .int t_mostCorrections, .int t_place, .int t_reason])), (h_t_s, .inl (cI, 30, .inl t_s))] sz)) 0 0 (va_A [(h_t, .inr (10, [.ref h_t_s, .ref h_t_was, .ref h_t_begun, .int t_states, .ref h_t_text, .int t_typed, .ref h_t_wrong, .ref h_t_cost, .ref h_t_first, .ref h_t_block, .ref h_t_many, .ref h_t_stack, .int t_height, .ref h_t_written, .int t_length, .ref h_t_own, .ref h_t_levelAt, .ref h_t_itemAt, .ref h_t_times, .int t_at, .int t_ownLength, .int t_depth, .int t_deepest, .int t_letters, .int t_repeats, .int t_corrections, .int t_mostCorrections, .int t_place, .int t_reason])), (h_t_s, .inl (cI, 30, .inl t_s))] sz) := by
  refine Met.ofW (cc := cX11_period) (maxL := 3) (ret := (some .int)) (by decide) rfl ?_
  intro p e s m args below meth c s₁ B hml hv
  obtain ⟨hargs, hsz, hP, hK, hN, hD0⟩ := hv
  have hx := B.exec
  have hb := B.bytes
  have hr := B.returns
  have hts := atoms_spec (ws := wsX11_period) B.pre
  have hown : s.vm.findClass RX11 = some m.cls := findClass_of_methodNamed B.named
  have hlocks := B.notSynchronized
  subst hsz
  have hD := hD0.self (sz := s.heap.size)
  generalize hAe : va_A [(h_t, .inr (10, [.ref h_t_s, .ref h_t_was, .ref h_t_begun, .int t_states, .ref h_t_text, .int t_typed, .ref h_t_wrong, .ref h_t_cost, .ref h_t_first, .ref h_t_block, .ref h_t_many, .ref h_t_stack, .int t_height, .ref h_t_written, .int t_length, .ref h_t_own, .ref h_t_levelAt, .ref h_t_itemAt, .ref h_t_times, .int t_at, .int t_ownLength, .int t_depth, .int t_deepest, .int t_letters, .int t_repeats, .int t_corrections, .int t_mostCorrections, .int t_place, .int t_reason])), (h_t_s, .inl (cI, 30, .inl t_s))] s.heap.size = A at hD ⊢
  have hA : ∀ q : Nat, s.heap.size ≤ q → A q := fun q h => by rw [← hAe]; exact Or.inr h
  have hS : va_S A s.heap s.heap [] := va_S.rf
  have hP : va_P (dC, dI) vwCl [(h_t, .inr (10, [.ref h_t_s, .ref h_t_was, .ref h_t_begun, .int t_states, .ref h_t_text, .int t_typed, .ref h_t_wrong, .ref h_t_cost, .ref h_t_first, .ref h_t_block, .ref h_t_many, .ref h_t_stack, .int t_height, .ref h_t_written, .int t_length, .ref h_t_own, .ref h_t_levelAt, .ref h_t_itemAt, .ref h_t_times, .int t_at, .int t_ownLength, .int t_depth, .int t_deepest, .int t_letters, .int t_repeats, .int t_corrections, .int t_mostCorrections, .int t_place, .int t_reason])), (h_t_s, .inl (cI, 30, .inl t_s))] s.heap := hP
  have hl := lv_entry [.ref h_t, .int x1, .int x2] (n := 3) (Nat.le_of_ble_eq_true rfl)
  rw [show entryFrame m args 3 = entryFrame m ([.ref h_t, .int x1, .int x2] : List Value).toArray 3 from by rw [hargs], lg_entry_eq]
  generalize (lg_sl [.ref h_t, .int x1, .int x2] ++ List.replicate (3 - (lg_sl [.ref h_t, .int x1, .int x2]).length) Slot.unset).toArray = ls at hl ⊢
  have hl : lv_has ls 3 [(0, .ref h_t), (1, .int x1), (2, .int x2)] := hl
  generalize hQQ : MQ below (va_Qi (fun (r9 : Int32) (_ : Unit) => r9 = r) (fun (_ : Unit) (t : State) => va_P (dC, dI) vwCl [(h_t, .inr (10, [.ref h_t_s, .ref h_t_was, .ref h_t_begun, .int t_states, .ref h_t_text, .int t_typed, .ref h_t_wrong, .ref h_t_cost, .ref h_t_first, .ref h_t_block, .ref h_t_many, .ref h_t_stack, .int t_height, .ref h_t_written, .int t_length, .ref h_t_own, .ref h_t_levelAt, .ref h_t_itemAt, .ref h_t_times, .int t_at, .int t_ownLength, .int t_depth, .int t_deepest, .int t_letters, .int t_repeats, .int t_corrections, .int t_mostCorrections, .int t_place, .int t_reason])), (h_t_s, .inl (cI, 30, .inl t_s))] t.heap ∧ va_K (dC, dI) vwCl (tyA cI cJ cC cS) t ∧ va_D A [(h_t, .inr (10, [.ref h_t_s, .ref h_t_was, .ref h_t_begun, .int t_states, .ref h_t_text, .int t_typed, .ref h_t_wrong, .ref h_t_cost, .ref h_t_first, .ref h_t_block, .ref h_t_many, .ref h_t_stack, .int t_height, .ref h_t_written, .int t_length, .ref h_t_own, .ref h_t_levelAt, .ref h_t_itemAt, .ref h_t_times, .int t_at, .int t_ownLength, .int t_depth, .int t_deepest, .int t_letters, .int t_repeats, .int t_corrections, .int t_mostCorrections, .int t_place, .int t_reason])), (h_t_s, .inl (cI, 30, .inl t_s))]) A) args s 0 0 A = QQ
  obtain ⟨H, hH⟩ : ∃ H : Heap, H = s.heap := ⟨_, rfl⟩
  obtain ⟨locs, hlocs⟩ : ∃ locs : List Loc, locs = [] := ⟨_, rfl⟩
  rw [← hH] at hP
  have hS : va_S A s.heap H locs := by rw [hH, hlocs]; exact hS
  suffices hZ : W p l e (headSpec wsX11_period ({ frames := 2, cells := 0, slots := 0, locals := 48 } : Room)).room s m args below meth c H locs 0 0 QQ (F0 m 0 ls []) by rw [hH, hlocs] at hZ; exact hZ
  clear hH hlocs
  rw [fMD_period] at hres
  refine lv_aload_n hx hb dX11_period_0 rfl (lv_at hl 0 rfl) ?_
  refine lv_iload_n hx hb dX11_period_1 rfl (lv_at hl 1 rfl) ?_
  refine lv_iload_n hx hb dX11_period_2 rfl (lv_at hl 2 rfl) ?_
  obtain ⟨o1, ho1, hres⟩ := bd_of hres
  have hPc := hP.sub (ws' := [(h_t, .inr (10, [.ref h_t_s, .ref h_t_was, .ref h_t_begun, .int t_states, .ref h_t_text, .int t_typed, .ref h_t_wrong, .ref h_t_cost, .ref h_t_first, .ref h_t_block, .ref h_t_many, .ref h_t_stack, .int t_height, .ref h_t_written, .int t_length, .ref h_t_own, .ref h_t_levelAt, .ref h_t_itemAt, .ref h_t_times, .int t_at, .int t_ownLength, .int t_depth, .int t_deepest, .int t_letters, .int t_repeats, .int t_corrections, .int t_mostCorrections, .int t_place, .int t_reason])), (h_t_s, .inl (cI, 30, .inl t_s))]) [0, 1] rfl
  have hDc := hD.sub (ws' := [(h_t, .inr (10, [.ref h_t_s, .ref h_t_was, .ref h_t_begun, .int t_states, .ref h_t_text, .int t_typed, .ref h_t_wrong, .ref h_t_cost, .ref h_t_first, .ref h_t_block, .ref h_t_many, .ref h_t_stack, .int t_height, .ref h_t_written, .int t_length, .ref h_t_own, .ref h_t_levelAt, .ref h_t_itemAt, .ref h_t_times, .int t_at, .int t_ownLength, .int t_depth, .int t_deepest, .int t_letters, .int t_repeats, .int t_corrections, .int t_mostCorrections, .int t_place, .int t_reason])), (h_t_s, .inl (cI, 30, .inl t_s))]) [0, 1] (by decide) rfl
  have hFc := va_free (wc := [(h_t, .inr (10, [.ref h_t_s, .ref h_t_was, .ref h_t_begun, .int t_states, .ref h_t_text, .int t_typed, .ref h_t_wrong, .ref h_t_cost, .ref h_t_first, .ref h_t_block, .ref h_t_many, .ref h_t_stack, .int t_height, .ref h_t_written, .int t_length, .ref h_t_own, .ref h_t_levelAt, .ref h_t_itemAt, .ref h_t_times, .int t_at, .int t_ownLength, .int t_depth, .int t_deepest, .int t_letters, .int t_repeats, .int t_corrections, .int t_mostCorrections, .int t_place, .int t_reason])), (h_t_s, .inl (cI, 30, .inl t_s))]) hD hS hA [0, 1] rfl
  refine va_calli (va_runV (As := [.int x1, .int x2]) (rest := []) ⟨hx, hb, hml, hown, hts⟩ (cMD_isPart l dC dI cI cJ cC cS h_t h_t_s h_t_was h_t_begun h_t_text h_t_wrong h_t_cost h_t_first h_t_block h_t_many h_t_stack h_t_written h_t_own h_t_levelAt h_t_itemAt h_t_times H.size t_states t_typed t_height t_length t_at t_ownLength t_depth t_deepest t_letters t_repeats t_corrections t_mostCorrections t_place t_reason t_s x1 x2 o1 ho1) (cwV 2 hts gX11_period_X11_isPart rfl rfl rfl (by decide +kernel) ⟨Nat.le_of_ble_eq_true rfl, Nat.le_of_ble_eq_true rfl⟩) ⟨fun a U g mk q => by obtain ⟨q0, q1, qP, qK, qN, qD⟩ := q; exact ⟨q0, q1, qP, va_K.moved (u := U) (U := U.calling g mk a) (Vm.Alike.refl U.vm) qK, nwS (u := U) (U := U.calling g mk a) rfl qN, qD⟩, va_recv hK hPc (ci := 10) (q0 := 0) rfl rfl, fun U hU hW => ⟨rfl, by rw [hU], by rw [hU]; exact hPc, va_K.moved hW.alike hK, nwW hW hN, hDc.weaken (fun _ _ _ _ => trivial)⟩⟩ rfl rfl hl.1 rfl (lv_room (Nat.le_of_ble_eq_true rfl)) dX11_period_3 ⟨Nat.zero_le _, Nat.zero_le _⟩) hS (fun q _ h => hFc q h) hFc (fun r9 u9 t H1 locs ht hvm hw hB hz1 hk1 hS => ?_)
  have hw := hw.symm
  subst hw
  obtain ⟨hP1, hK1, hD1⟩ := hB
  rw [ht] at hP1
  obtain ⟨hP, hD⟩ := va_join (wr := []) (w1 := [(h_t, .inr (10, [.ref h_t_s, .ref h_t_was, .ref h_t_begun, .int t_states, .ref h_t_text, .int t_typed, .ref h_t_wrong, .ref h_t_cost, .ref h_t_first, .ref h_t_block, .ref h_t_many, .ref h_t_stack, .int t_height, .ref h_t_written, .int t_length, .ref h_t_own, .ref h_t_levelAt, .ref h_t_itemAt, .ref h_t_times, .int t_at, .int t_ownLength, .int t_depth, .int t_deepest, .int t_letters, .int t_repeats, .int t_corrections, .int t_mostCorrections, .int t_place, .int t_reason])), (h_t_s, .inl (cI, 30, .inl t_s))]) hP hD [0, 1] [] rfl rfl (by decide) (by decide) hk1 hFc hP1 hD1
  generalize H1 = H at hP hS ⊢
  have hP : va_P (dC, dI) vwCl [(h_t, .inr (10, [.ref h_t_s, .ref h_t_was, .ref h_t_begun, .int t_states, .ref h_t_text, .int t_typed, .ref h_t_wrong, .ref h_t_cost, .ref h_t_first, .ref h_t_block, .ref h_t_many, .ref h_t_stack, .int t_height, .ref h_t_written, .int t_length, .ref h_t_own, .ref h_t_levelAt, .ref h_t_itemAt, .ref h_t_times, .int t_at, .int t_ownLength, .int t_depth, .int t_deepest, .int t_letters, .int t_repeats, .int t_corrections, .int t_mostCorrections, .int t_place, .int t_reason])), (h_t_s, .inl (cI, 30, .inl t_s))] H := hP
  have hD : va_D A [(h_t, .inr (10, [.ref h_t_s, .ref h_t_was, .ref h_t_begun, .int t_states, .ref h_t_text, .int t_typed, .ref h_t_wrong, .ref h_t_cost, .ref h_t_first, .ref h_t_block, .ref h_t_many, .ref h_t_stack, .int t_height, .ref h_t_written, .int t_length, .ref h_t_own, .ref h_t_levelAt, .ref h_t_itemAt, .ref h_t_times, .int t_at, .int t_ownLength, .int t_depth, .int t_deepest, .int t_letters, .int t_repeats, .int t_corrections, .int t_mostCorrections, .int t_place, .int t_reason])), (h_t_s, .inl (cI, 30, .inl t_s))] := hD
  refine lv_if_eq (tgt := 18) hx hb dX11_period_6 (by decide) (fun c_2 => ?_) (fun c_2 => ?_)
  · have hres := it_of hres c_2
    refine lv_ldc (v := (-1000001 : Int32)) hx hb hown (hts _ kMD_period_X11_period_0) dX11_period_18 ?_
    have e9_0 := Option.some.inj hres
    subst e9_0
    rw [← hQQ]
    exact W.iret (v := (-1000001 : Int32)) hx hb hr (fun t ht hW => ⟨⟨(-1000001 : Int32), (), rfl, rfl, by rw [ht]; exact hP, va_K.moved hW.alike hK, hD⟩, hS.F ht⟩) hS.2.2 dX11_period_20
  · have hres := ie_of hres c_2
    refine lv_aload_n hx hb dX11_period_9 rfl (lv_at hl 0 rfl) ?_
    refine lv_iload_n hx hb dX11_period_10 rfl (lv_at hl 1 rfl) ?_
    refine lv_iload_n hx hb dX11_period_11 rfl (lv_at hl 2 rfl) ?_
    obtain ⟨o3, ho3, hres⟩ := bd_of hres
    have hPc := hP.sub (ws' := [(h_t, .inr (10, [.ref h_t_s, .ref h_t_was, .ref h_t_begun, .int t_states, .ref h_t_text, .int t_typed, .ref h_t_wrong, .ref h_t_cost, .ref h_t_first, .ref h_t_block, .ref h_t_many, .ref h_t_stack, .int t_height, .ref h_t_written, .int t_length, .ref h_t_own, .ref h_t_levelAt, .ref h_t_itemAt, .ref h_t_times, .int t_at, .int t_ownLength, .int t_depth, .int t_deepest, .int t_letters, .int t_repeats, .int t_corrections, .int t_mostCorrections, .int t_place, .int t_reason])), (h_t_s, .inl (cI, 30, .inl t_s))]) [0, 1] rfl
    have hDc := hD.sub (ws' := [(h_t, .inr (10, [.ref h_t_s, .ref h_t_was, .ref h_t_begun, .int t_states, .ref h_t_text, .int t_typed, .ref h_t_wrong, .ref h_t_cost, .ref h_t_first, .ref h_t_block, .ref h_t_many, .ref h_t_stack, .int t_height, .ref h_t_written, .int t_length, .ref h_t_own, .ref h_t_levelAt, .ref h_t_itemAt, .ref h_t_times, .int t_at, .int t_ownLength, .int t_depth, .int t_deepest, .int t_letters, .int t_repeats, .int t_corrections, .int t_mostCorrections, .int t_place, .int t_reason])), (h_t_s, .inl (cI, 30, .inl t_s))]) [0, 1] (by decide) rfl
    have hFc := va_free (wc := [(h_t, .inr (10, [.ref h_t_s, .ref h_t_was, .ref h_t_begun, .int t_states, .ref h_t_text, .int t_typed, .ref h_t_wrong, .ref h_t_cost, .ref h_t_first, .ref h_t_block, .ref h_t_many, .ref h_t_stack, .int t_height, .ref h_t_written, .int t_length, .ref h_t_own, .ref h_t_levelAt, .ref h_t_itemAt, .ref h_t_times, .int t_at, .int t_ownLength, .int t_depth, .int t_deepest, .int t_letters, .int t_repeats, .int t_corrections, .int t_mostCorrections, .int t_place, .int t_reason])), (h_t_s, .inl (cI, 30, .inl t_s))]) hD hS hA [0, 1] rfl
    refine va_calli (va_runV (As := [.int x1, .int x2]) (rest := []) ⟨hx, hb, hml, hown, hts⟩ (cMD_least l dC dI cI cJ cC cS h_t h_t_s h_t_was h_t_begun h_t_text h_t_wrong h_t_cost h_t_first h_t_block h_t_many h_t_stack h_t_written h_t_own h_t_levelAt h_t_itemAt h_t_times H.size t_states t_typed t_height t_length t_at t_ownLength t_depth t_deepest t_letters t_repeats t_corrections t_mostCorrections t_place t_reason t_s x1 x2 o3 ho3) (cwV 2 hts gX11_period_X11_least rfl rfl rfl (by decide +kernel) ⟨Nat.le_of_ble_eq_true rfl, Nat.le_of_ble_eq_true rfl⟩) ⟨fun a U g mk q => by obtain ⟨q0, q1, qP, qK, qN, qD⟩ := q; exact ⟨q0, q1, qP, va_K.moved (u := U) (U := U.calling g mk a) (Vm.Alike.refl U.vm) qK, nwS (u := U) (U := U.calling g mk a) rfl qN, qD⟩, va_recv hK hPc (ci := 10) (q0 := 0) rfl rfl, fun U hU hW => ⟨rfl, by rw [hU], by rw [hU]; exact hPc, va_K.moved hW.alike hK, nwW hW hN, hDc.weaken (fun _ _ _ _ => trivial)⟩⟩ rfl rfl hl.1 rfl (lv_room (Nat.le_of_ble_eq_true rfl)) dX11_period_12 ⟨Nat.zero_le _, Nat.zero_le _⟩) hS (fun q _ h => hFc q h) hFc (fun r9 u9 t H1 locs ht hvm hw hB hz1 hk1 hS => ?_)
    have hw := hw.symm
    subst hw
    obtain ⟨hP1, hK1, hD1⟩ := hB
    rw [ht] at hP1
    obtain ⟨hP, hD⟩ := va_join (wr := []) (w1 := [(h_t, .inr (10, [.ref h_t_s, .ref h_t_was, .ref h_t_begun, .int t_states, .ref h_t_text, .int t_typed, .ref h_t_wrong, .ref h_t_cost, .ref h_t_first, .ref h_t_block, .ref h_t_many, .ref h_t_stack, .int t_height, .ref h_t_written, .int t_length, .ref h_t_own, .ref h_t_levelAt, .ref h_t_itemAt, .ref h_t_times, .int t_at, .int t_ownLength, .int t_depth, .int t_deepest, .int t_letters, .int t_repeats, .int t_corrections, .int t_mostCorrections, .int t_place, .int t_reason])), (h_t_s, .inl (cI, 30, .inl t_s))]) hP hD [0, 1] [] rfl rfl (by decide) (by decide) hk1 hFc hP1 hD1
    generalize H1 = H at hP hS ⊢
    have hP : va_P (dC, dI) vwCl [(h_t, .inr (10, [.ref h_t_s, .ref h_t_was, .ref h_t_begun, .int t_states, .ref h_t_text, .int t_typed, .ref h_t_wrong, .ref h_t_cost, .ref h_t_first, .ref h_t_block, .ref h_t_many, .ref h_t_stack, .int t_height, .ref h_t_written, .int t_length, .ref h_t_own, .ref h_t_levelAt, .ref h_t_itemAt, .ref h_t_times, .int t_at, .int t_ownLength, .int t_depth, .int t_deepest, .int t_letters, .int t_repeats, .int t_corrections, .int t_mostCorrections, .int t_place, .int t_reason])), (h_t_s, .inl (cI, 30, .inl t_s))] H := hP
    have hD : va_D A [(h_t, .inr (10, [.ref h_t_s, .ref h_t_was, .ref h_t_begun, .int t_states, .ref h_t_text, .int t_typed, .ref h_t_wrong, .ref h_t_cost, .ref h_t_first, .ref h_t_block, .ref h_t_many, .ref h_t_stack, .int t_height, .ref h_t_written, .int t_length, .ref h_t_own, .ref h_t_levelAt, .ref h_t_itemAt, .ref h_t_times, .int t_at, .int t_ownLength, .int t_depth, .int t_deepest, .int t_letters, .int t_repeats, .int t_corrections, .int t_mostCorrections, .int t_place, .int t_reason])), (h_t_s, .inl (cI, 30, .inl t_s))] := hD
    refine lv_goto (tgt := 20) hx hb dX11_period_15 (by decide) ?_
    have e9_0 := Option.some.inj hres
    subst e9_0
    rw [← hQQ]
    exact W.iret (v := o3) hx hb hr (fun t ht hW => ⟨⟨o3, (), rfl, rfl, by rw [ht]; exact hP, va_K.moved hW.alike hK, hD⟩, hS.F ht⟩) hS.2.2 dX11_period_20

-- MD_runOf
theorem kMD_runOf_X11_runOf_0 : Cond.constant RX11 79 (-1000004) ∈ wsX11_runOf := by decide +kernel
theorem kMD_runOf_X11_runOf_1 : Cond.fieldLink RX11 7 "RepeatNestsModel" "s" "[I" ∈ wsX11_runOf := by decide +kernel
theorem iMD_runOf_X11_runOf_2 : ∀ w ∈ wsX110, w ∈ wsX11_runOf := by decide +kernel
theorem kMD_runOf_X11_runOf_3 : Cond.constant RX11 57 (-1000001) ∈ wsX11_runOf := by decide +kernel
set_option maxHeartbeats 4000000 in
set_option maxRecDepth 100000 in
theorem cMD_runOf (l : Launch) (dC : Nat → ClassId) (dI : Nat → Nat → Nat) (cI cJ cC cS : ClassId) (h_t h_t_s h_t_was h_t_begun h_t_text h_t_wrong h_t_cost h_t_first h_t_block h_t_many h_t_stack h_t_written h_t_own h_t_levelAt h_t_itemAt h_t_times : Nat) (sz : Nat) (t_states : Int32) (t_typed : Int32) (t_height : Int32) (t_length : Int32) (t_at : Int32) (t_ownLength : Int32) (t_depth : Int32) (t_deepest : Int32) (t_letters : Int32) (t_repeats : Int32) (t_corrections : Int32) (t_mostCorrections : Int32) (t_place : Int32) (t_reason : Int32) (t_s : Nat → Int32) (x1 : Int32) (x2 : Int32) (r : Int32) (hres : fMD_runOf t_s x1 x2 = some r) :
    Met l yX11_runOf wsX11_runOf ({ frames := 3, cells := 0, slots := 0, locals := 72 } : Room) (va_Pc [.ref h_t, .int x1, .int x2] (fun (U : State) => U.heap.size = sz ∧ va_P (dC, dI) vwCl [(h_t, .inr (10, [.ref h_t_s, .ref h_t_was, .ref h_t_begun, .int t_states, .ref h_t_text, .int t_typed, .ref h_t_wrong, .ref h_t_cost, .ref h_t_first, .ref h_t_block, .ref h_t_many, .ref h_t_stack, .int t_height, .ref h_t_written, .int t_length, .ref h_t_own, .ref h_t_levelAt, .ref h_t_itemAt, .ref h_t_times, .int t_at, .int t_ownLength, .int t_depth, .int t_deepest, .int t_letters, .int t_repeats, .int t_corrections, .int t_mostCorrections, .int t_place, .int t_reason])), (h_t_s, .inl (cI, 30, .inl t_s))] U.heap ∧ va_K (dC, dI) vwCl (tyA cI cJ cC cS) U ∧ nwN U ∧ va_D (fun _ => True) [(h_t, .inr (10, [.ref h_t_s, .ref h_t_was, .ref h_t_begun, .int t_states, .ref h_t_text, .int t_typed, .ref h_t_wrong, .ref h_t_cost, .ref h_t_first, .ref h_t_block, .ref h_t_many, .ref h_t_stack, .int t_height, .ref h_t_written, .int t_length, .ref h_t_own, .ref h_t_levelAt, .ref h_t_itemAt, .ref h_t_times, .int t_at, .int t_ownLength, .int t_depth, .int t_deepest, .int t_letters, .int t_repeats, .int t_corrections, .int t_mostCorrections, .int t_place, .int t_reason])), (h_t_s, .inl (cI, 30, .inl t_s))])) (va_Qi (fun (r9 : Int32) (_ : Unit) => r9 = r) (fun (_ : Unit) (t : State) => va_P (dC, dI) vwCl [(h_t, .inr (10, [.ref h_t_s, .ref h_t_was, .ref h_t_begun, .int t_states, .ref h_t_text, .int t_typed, .ref h_t_wrong, .ref h_t_cost, .ref h_t_first, .ref h_t_block, .ref h_t_many, .ref h_t_stack, .int t_height, .ref h_t_written, .int t_length, .ref h_t_own, .ref h_t_levelAt, .ref h_t_itemAt, .ref h_t_times, .int t_at, .int t_ownLength, .int t_depth, .int t_deepest, .int t_letters, .int t_repeats, .int t_corrections, .int t_mostCorrections, .int t_place, .int t_reason])), (h_t_s, .inl (cI, 30, .inl t_s))] t.heap ∧ va_K (dC, dI) vwCl (tyA cI cJ cC cS) t ∧ va_D (va_A [(h_t, .inr (10, [.ref h_t_s, .ref h_t_was, .ref h_t_begun, .int t_states, .ref h_t_text, .int t_typed, .ref h_t_wrong, .ref h_t_cost, .ref h_t_first, .ref h_t_block, .ref h_t_many, .ref h_t_stack, .int t_height, .ref h_t_written, .int t_length, .ref h_t_own, .ref h_t_levelAt, .ref h_t_itemAt, .ref h_t_times, .int t_at, .int t_ownLength, .int t_depth, .int t_deepest, .int t_letters, .int t_repeats, .int t_corrections, .int t_mostCorrections, .int t_place, .int t_reason])), (h_t_s, .inl (cI, 30, .inl t_s))] sz) [(h_t, .inr (10, [.ref h_t_s, .ref h_t_was, .ref h_t_begun, .int t_states, .ref h_t_text, .int t_typed, .ref h_t_wrong, .ref h_t_cost, .ref h_t_first, .ref h_t_block, .ref h_t_many, .ref h_t_stack, .int t_height, .ref h_t_written, .int t_length, .ref h_t_own, .ref h_t_levelAt, .ref h_t_itemAt, .ref h_t_times, .int t_at, .int t_ownLength, .int t_depth, .int t_deepest, .int t_letters, .int t_repeats, .int t_corrections, .int t_mostCorrections, .int t_place, .int t_reason])), (h_t_s, .inl (cI, 30, .inl t_s))]) (va_A [(h_t, .inr (10, [.ref h_t_s, .ref h_t_was, .ref h_t_begun, .int t_states, .ref h_t_text, .int t_typed, .ref h_t_wrong, .ref h_t_cost, .ref h_t_first, .ref h_t_block, .ref h_t_many, .ref h_t_stack, .int t_height, .ref h_t_written, .int t_length, .ref h_t_own, .ref h_t_levelAt, .ref h_t_itemAt, .ref h_t_times, .int t_at, .int t_ownLength, .int t_depth, .int t_deepest, .int t_letters, .int t_repeats, .int t_corrections, .int t_mostCorrections, .int t_place, .int t_reason])), (h_t_s, .inl (cI, 30, .inl t_s))] sz)) 0 0 (va_A [(h_t, .inr (10, [.ref h_t_s, .ref h_t_was, .ref h_t_begun, .int t_states, .ref h_t_text, .int t_typed, .ref h_t_wrong, .ref h_t_cost, .ref h_t_first, .ref h_t_block, .ref h_t_many, .ref h_t_stack, .int t_height, .ref h_t_written, .int t_length, .ref h_t_own, .ref h_t_levelAt, .ref h_t_itemAt, .ref h_t_times, .int t_at, .int t_ownLength, .int t_depth, .int t_deepest, .int t_letters, .int t_repeats, .int t_corrections, .int t_mostCorrections, .int t_place, .int t_reason])), (h_t_s, .inl (cI, 30, .inl t_s))] sz) := by
  refine Met.ofW (cc := cX11_runOf) (maxL := 7) (ret := (some .int)) (by decide) rfl ?_
  intro p e s m args below meth c s₁ B hml hv
  obtain ⟨hargs, hsz, hP, hK, hN, hD0⟩ := hv
  have hx := B.exec
  have hb := B.bytes
  have hr := B.returns
  have hts := atoms_spec (ws := wsX11_runOf) B.pre
  have hown : s.vm.findClass RX11 = some m.cls := findClass_of_methodNamed B.named
  have hlocks := B.notSynchronized
  subst hsz
  have hD := hD0.self (sz := s.heap.size)
  generalize hAe : va_A [(h_t, .inr (10, [.ref h_t_s, .ref h_t_was, .ref h_t_begun, .int t_states, .ref h_t_text, .int t_typed, .ref h_t_wrong, .ref h_t_cost, .ref h_t_first, .ref h_t_block, .ref h_t_many, .ref h_t_stack, .int t_height, .ref h_t_written, .int t_length, .ref h_t_own, .ref h_t_levelAt, .ref h_t_itemAt, .ref h_t_times, .int t_at, .int t_ownLength, .int t_depth, .int t_deepest, .int t_letters, .int t_repeats, .int t_corrections, .int t_mostCorrections, .int t_place, .int t_reason])), (h_t_s, .inl (cI, 30, .inl t_s))] s.heap.size = A at hD ⊢
  have hA : ∀ q : Nat, s.heap.size ≤ q → A q := fun q h => by rw [← hAe]; exact Or.inr h
  have hS : va_S A s.heap s.heap [] := va_S.rf
  have hP : va_P (dC, dI) vwCl [(h_t, .inr (10, [.ref h_t_s, .ref h_t_was, .ref h_t_begun, .int t_states, .ref h_t_text, .int t_typed, .ref h_t_wrong, .ref h_t_cost, .ref h_t_first, .ref h_t_block, .ref h_t_many, .ref h_t_stack, .int t_height, .ref h_t_written, .int t_length, .ref h_t_own, .ref h_t_levelAt, .ref h_t_itemAt, .ref h_t_times, .int t_at, .int t_ownLength, .int t_depth, .int t_deepest, .int t_letters, .int t_repeats, .int t_corrections, .int t_mostCorrections, .int t_place, .int t_reason])), (h_t_s, .inl (cI, 30, .inl t_s))] s.heap := hP
  have hl := lv_entry [.ref h_t, .int x1, .int x2] (n := 7) (Nat.le_of_ble_eq_true rfl)
  rw [show entryFrame m args 7 = entryFrame m ([.ref h_t, .int x1, .int x2] : List Value).toArray 7 from by rw [hargs], lg_entry_eq]
  generalize (lg_sl [.ref h_t, .int x1, .int x2] ++ List.replicate (7 - (lg_sl [.ref h_t, .int x1, .int x2]).length) Slot.unset).toArray = ls at hl ⊢
  have hl : lv_has ls 7 [(0, .ref h_t), (1, .int x1), (2, .int x2)] := hl
  generalize hQQ : MQ below (va_Qi (fun (r9 : Int32) (_ : Unit) => r9 = r) (fun (_ : Unit) (t : State) => va_P (dC, dI) vwCl [(h_t, .inr (10, [.ref h_t_s, .ref h_t_was, .ref h_t_begun, .int t_states, .ref h_t_text, .int t_typed, .ref h_t_wrong, .ref h_t_cost, .ref h_t_first, .ref h_t_block, .ref h_t_many, .ref h_t_stack, .int t_height, .ref h_t_written, .int t_length, .ref h_t_own, .ref h_t_levelAt, .ref h_t_itemAt, .ref h_t_times, .int t_at, .int t_ownLength, .int t_depth, .int t_deepest, .int t_letters, .int t_repeats, .int t_corrections, .int t_mostCorrections, .int t_place, .int t_reason])), (h_t_s, .inl (cI, 30, .inl t_s))] t.heap ∧ va_K (dC, dI) vwCl (tyA cI cJ cC cS) t ∧ va_D A [(h_t, .inr (10, [.ref h_t_s, .ref h_t_was, .ref h_t_begun, .int t_states, .ref h_t_text, .int t_typed, .ref h_t_wrong, .ref h_t_cost, .ref h_t_first, .ref h_t_block, .ref h_t_many, .ref h_t_stack, .int t_height, .ref h_t_written, .int t_length, .ref h_t_own, .ref h_t_levelAt, .ref h_t_itemAt, .ref h_t_times, .int t_at, .int t_ownLength, .int t_depth, .int t_deepest, .int t_letters, .int t_repeats, .int t_corrections, .int t_mostCorrections, .int t_place, .int t_reason])), (h_t_s, .inl (cI, 30, .inl t_s))]) A) args s 0 0 A = QQ
  obtain ⟨H, hH⟩ : ∃ H : Heap, H = s.heap := ⟨_, rfl⟩
  obtain ⟨locs, hlocs⟩ : ∃ locs : List Loc, locs = [] := ⟨_, rfl⟩
  rw [← hH] at hP
  have hS : va_S A s.heap H locs := by rw [hH, hlocs]; exact hS
  suffices hZ : W p l e (headSpec wsX11_runOf ({ frames := 3, cells := 0, slots := 0, locals := 72 } : Room)).room s m args below meth c H locs 0 0 QQ (F0 m 0 ls []) by rw [hH, hlocs] at hZ; exact hZ
  clear hH hlocs
  have hL26 : ∀ (n26 : Nat) , ∀ (x3 : Int32) (x4 : Int32) (H : Heap) (locs : List Loc) (ls : Array Slot), fMD_runOf_26 t_s x2 n26 x3 x4 = some r → va_P (dC, dI) vwCl [(h_t, .inr (10, [.ref h_t_s, .ref h_t_was, .ref h_t_begun, .int t_states, .ref h_t_text, .int t_typed, .ref h_t_wrong, .ref h_t_cost, .ref h_t_first, .ref h_t_block, .ref h_t_many, .ref h_t_stack, .int t_height, .ref h_t_written, .int t_length, .ref h_t_own, .ref h_t_levelAt, .ref h_t_itemAt, .ref h_t_times, .int t_at, .int t_ownLength, .int t_depth, .int t_deepest, .int t_letters, .int t_repeats, .int t_corrections, .int t_mostCorrections, .int t_place, .int t_reason])), (h_t_s, .inl (cI, 30, .inl t_s))] H → va_D A [(h_t, .inr (10, [.ref h_t_s, .ref h_t_was, .ref h_t_begun, .int t_states, .ref h_t_text, .int t_typed, .ref h_t_wrong, .ref h_t_cost, .ref h_t_first, .ref h_t_block, .ref h_t_many, .ref h_t_stack, .int t_height, .ref h_t_written, .int t_length, .ref h_t_own, .ref h_t_levelAt, .ref h_t_itemAt, .ref h_t_times, .int t_at, .int t_ownLength, .int t_depth, .int t_deepest, .int t_letters, .int t_repeats, .int t_corrections, .int t_mostCorrections, .int t_place, .int t_reason])), (h_t_s, .inl (cI, 30, .inl t_s))] → va_S A s.heap H locs → lv_has ls 7 [(0, .ref h_t), (2, .int x2), (3, .int x3), (4, .int x4)] → W p l e (headSpec wsX11_runOf ({ frames := 3, cells := 0, slots := 0, locals := 72 } : Room)).room s m args below meth c H locs 0 0 QQ (F0 m 26 ls []) := by
    intro n26
    induction n26 with
    | zero =>
      intro x3 x4 H locs ls hres
      rw [fMD_runOf_26] at hres
      cases hres
    | succ n26 ih26 =>
      have hL34 : ∀ (n34 : Nat) , ∀ (x3 : Int32) (x4 : Int32) (x5 : Int32) (H : Heap) (locs : List Loc) (ls : Array Slot), fMD_runOf_34 t_s x2 (fMD_runOf_26 t_s x2 n26) n34 x3 x4 x5 = some r → va_P (dC, dI) vwCl [(h_t, .inr (10, [.ref h_t_s, .ref h_t_was, .ref h_t_begun, .int t_states, .ref h_t_text, .int t_typed, .ref h_t_wrong, .ref h_t_cost, .ref h_t_first, .ref h_t_block, .ref h_t_many, .ref h_t_stack, .int t_height, .ref h_t_written, .int t_length, .ref h_t_own, .ref h_t_levelAt, .ref h_t_itemAt, .ref h_t_times, .int t_at, .int t_ownLength, .int t_depth, .int t_deepest, .int t_letters, .int t_repeats, .int t_corrections, .int t_mostCorrections, .int t_place, .int t_reason])), (h_t_s, .inl (cI, 30, .inl t_s))] H → va_D A [(h_t, .inr (10, [.ref h_t_s, .ref h_t_was, .ref h_t_begun, .int t_states, .ref h_t_text, .int t_typed, .ref h_t_wrong, .ref h_t_cost, .ref h_t_first, .ref h_t_block, .ref h_t_many, .ref h_t_stack, .int t_height, .ref h_t_written, .int t_length, .ref h_t_own, .ref h_t_levelAt, .ref h_t_itemAt, .ref h_t_times, .int t_at, .int t_ownLength, .int t_depth, .int t_deepest, .int t_letters, .int t_repeats, .int t_corrections, .int t_mostCorrections, .int t_place, .int t_reason])), (h_t_s, .inl (cI, 30, .inl t_s))] → va_S A s.heap H locs → lv_has ls 7 [(0, .ref h_t), (2, .int x2), (3, .int x3), (4, .int x4), (5, .int x5)] → W p l e (headSpec wsX11_runOf ({ frames := 3, cells := 0, slots := 0, locals := 72 } : Room)).room s m args below meth c H locs 0 0 QQ (F0 m 34 ls []) := by
        intro n34
        induction n34 with
        | zero =>
          intro x3 x4 x5 H locs ls hres
          rw [fMD_runOf_34] at hres
          cases hres
        | succ n34 ih34 =>
          have hK104 : ∀ (x3 : Int32) (x4 : Int32) (x5 : Int32) (x6 : Int32) (H : Heap) (locs : List Loc) (ls : Array Slot), fMD_runOf_104 (fMD_runOf_26 t_s x2 n26) (fMD_runOf_34 t_s x2 (fMD_runOf_26 t_s x2 n26) n34) x3 x4 x5 x6 = some r → va_P (dC, dI) vwCl [(h_t, .inr (10, [.ref h_t_s, .ref h_t_was, .ref h_t_begun, .int t_states, .ref h_t_text, .int t_typed, .ref h_t_wrong, .ref h_t_cost, .ref h_t_first, .ref h_t_block, .ref h_t_many, .ref h_t_stack, .int t_height, .ref h_t_written, .int t_length, .ref h_t_own, .ref h_t_levelAt, .ref h_t_itemAt, .ref h_t_times, .int t_at, .int t_ownLength, .int t_depth, .int t_deepest, .int t_letters, .int t_repeats, .int t_corrections, .int t_mostCorrections, .int t_place, .int t_reason])), (h_t_s, .inl (cI, 30, .inl t_s))] H → va_D A [(h_t, .inr (10, [.ref h_t_s, .ref h_t_was, .ref h_t_begun, .int t_states, .ref h_t_text, .int t_typed, .ref h_t_wrong, .ref h_t_cost, .ref h_t_first, .ref h_t_block, .ref h_t_many, .ref h_t_stack, .int t_height, .ref h_t_written, .int t_length, .ref h_t_own, .ref h_t_levelAt, .ref h_t_itemAt, .ref h_t_times, .int t_at, .int t_ownLength, .int t_depth, .int t_deepest, .int t_letters, .int t_repeats, .int t_corrections, .int t_mostCorrections, .int t_place, .int t_reason])), (h_t_s, .inl (cI, 30, .inl t_s))] → va_S A s.heap H locs → lv_has ls 7 [(0, .ref h_t), (2, .int x2), (3, .int x3), (4, .int x4), (5, .int x5), (6, .int x6)] → W p l e (headSpec wsX11_runOf ({ frames := 3, cells := 0, slots := 0, locals := 72 } : Room)).room s m args below meth c H locs 0 0 QQ (F0 m 104 ls []) := by
            intro x3 x4 x5 x6 H locs ls hres hP hD hS hl
            rw [fMD_runOf_104] at hres
            refine lv_iload_n hx hb dX11_runOf_104 rfl (lv_at hl 2 rfl) ?_
            refine lv_iload hx hb dX11_runOf_105 (lv_at hl 5 rfl) ?_
            refine lv_if_eq (tgt := 114) hx hb dX11_runOf_107 (by decide) (fun c_1 => ?_) (fun c_1 => ?_)
            · have hres := it_of hres c_1
              refine lv_iconst (v := (0 : Int32)) hx hb dX11_runOf_114 (by decide) ?_
              refine lv_isub hx hb dX11_runOf_115 ?_
              refine lv_istore_n (lv' := [(3, .int (x3 - (0 : Int32))), (0, .ref h_t), (2, .int x2), (4, .int x4), (5, .int x5), (6, .int x6)]) hx hb dX11_runOf_116 rfl hl (by decide) rfl (fun ls hl => ?_)
              refine lv_iinc (v := (x5 + 1)) (lv' := [(5, .int (x5 + 1)), (3, .int (x3 - (0 : Int32))), (0, .ref h_t), (2, .int x2), (4, .int x4), (6, .int x6)]) hx hb dX11_runOf_117 hl (k := 4) rfl rfl (by decide) rfl (fun ls hl => ?_)
              refine lv_goto (tgt := 34) hx hb dX11_runOf_120 (by decide) ?_
              exact ih34 (x3 - (0 : Int32)) x4 (x5 + 1) H locs ls hres hP hD hS (lv_sub hl [2, 3, 1, 4, 0] rfl)
            · have hres := ie_of hres c_1
              refine lv_iconst (v := (1 : Int32)) hx hb dX11_runOf_110 (by decide) ?_
              refine lv_goto (tgt := 115) hx hb dX11_runOf_111 (by decide) ?_
              refine lv_isub hx hb dX11_runOf_115 ?_
              refine lv_istore_n (lv' := [(3, .int (x3 - (1 : Int32))), (0, .ref h_t), (2, .int x2), (4, .int x4), (5, .int x5), (6, .int x6)]) hx hb dX11_runOf_116 rfl hl (by decide) rfl (fun ls hl => ?_)
              refine lv_iinc (v := (x5 + 1)) (lv' := [(5, .int (x5 + 1)), (3, .int (x3 - (1 : Int32))), (0, .ref h_t), (2, .int x2), (4, .int x4), (6, .int x6)]) hx hb dX11_runOf_117 hl (k := 4) rfl rfl (by decide) rfl (fun ls hl => ?_)
              refine lv_goto (tgt := 34) hx hb dX11_runOf_120 (by decide) ?_
              exact ih34 (x3 - (1 : Int32)) x4 (x5 + 1) H locs ls hres hP hD hS (lv_sub hl [2, 3, 1, 4, 0] rfl)
          intro x3 x4 x5 H locs ls hres hP hD hS hl
          rw [fMD_runOf_34] at hres
          refine lv_iload hx hb dX11_runOf_34 (lv_at hl 4 rfl) ?_
          refine lv_iload hx hb dX11_runOf_36 (lv_at hl 3 rfl) ?_
          refine lv_iadd hx hb dX11_runOf_38 ?_
          refine lv_aload_n hx hb dX11_runOf_39 rfl (lv_at hl 0 rfl) ?_
          refine va_get (D := (dC, dI)) (ci := 10) (v := .ref h_t_s) (C := RX11) (T := TX11) (N := 29) hx hb hts iMD_runOf_X11_runOf_2 hown hK hP 0 rfl rfl 0 (by decide) (hts _ kMD_runOf_X11_runOf_1) (fun _ h9 => h9) rfl dX11_runOf_40 ?_
          refine lv_iconst (v := (0 : Int32)) hx hb dX11_runOf_43 (by decide) ?_
          refine va_iald hx hb hK hP 1 0 rfl rfl (vin (by decide)) dX11_runOf_44 ?_
          refine lv_icmp_gt (tgt := 123) hx hb dX11_runOf_45 (by decide) (fun c_3 => ?_) (fun c_3 => ?_)
          · have hres := it_of hres c_3
            refine lv_iinc (v := (x4 + (-1))) (lv' := [(4, .int (x4 + (-1))), (0, .ref h_t), (2, .int x2), (3, .int x3), (5, .int x5)]) hx hb dX11_runOf_123 hl (k := 3) rfl rfl (by decide) rfl (fun ls hl => ?_)
            refine lv_goto (tgt := 26) hx hb dX11_runOf_126 (by decide) ?_
            exact ih26 x3 (x4 + (-1)) H locs ls hres hP hD hS (lv_sub hl [1, 2, 3, 0] rfl)
          · have hres := ie_of hres c_3
            refine lv_aload_n hx hb dX11_runOf_48 rfl (lv_at hl 0 rfl) ?_
            refine lv_iload hx hb dX11_runOf_49 (lv_at hl 4 rfl) ?_
            refine lv_iload hx hb dX11_runOf_51 (lv_at hl 4 rfl) ?_
            refine lv_iload hx hb dX11_runOf_53 (lv_at hl 3 rfl) ?_
            refine lv_iadd hx hb dX11_runOf_55 ?_
            obtain ⟨o4, ho4, hres⟩ := bd_of hres
            have hPc := hP.sub (ws' := [(h_t, .inr (10, [.ref h_t_s, .ref h_t_was, .ref h_t_begun, .int t_states, .ref h_t_text, .int t_typed, .ref h_t_wrong, .ref h_t_cost, .ref h_t_first, .ref h_t_block, .ref h_t_many, .ref h_t_stack, .int t_height, .ref h_t_written, .int t_length, .ref h_t_own, .ref h_t_levelAt, .ref h_t_itemAt, .ref h_t_times, .int t_at, .int t_ownLength, .int t_depth, .int t_deepest, .int t_letters, .int t_repeats, .int t_corrections, .int t_mostCorrections, .int t_place, .int t_reason])), (h_t_s, .inl (cI, 30, .inl t_s))]) [0, 1] rfl
            have hDc := hD.sub (ws' := [(h_t, .inr (10, [.ref h_t_s, .ref h_t_was, .ref h_t_begun, .int t_states, .ref h_t_text, .int t_typed, .ref h_t_wrong, .ref h_t_cost, .ref h_t_first, .ref h_t_block, .ref h_t_many, .ref h_t_stack, .int t_height, .ref h_t_written, .int t_length, .ref h_t_own, .ref h_t_levelAt, .ref h_t_itemAt, .ref h_t_times, .int t_at, .int t_ownLength, .int t_depth, .int t_deepest, .int t_letters, .int t_repeats, .int t_corrections, .int t_mostCorrections, .int t_place, .int t_reason])), (h_t_s, .inl (cI, 30, .inl t_s))]) [0, 1] (by decide) rfl
            have hFc := va_free (wc := [(h_t, .inr (10, [.ref h_t_s, .ref h_t_was, .ref h_t_begun, .int t_states, .ref h_t_text, .int t_typed, .ref h_t_wrong, .ref h_t_cost, .ref h_t_first, .ref h_t_block, .ref h_t_many, .ref h_t_stack, .int t_height, .ref h_t_written, .int t_length, .ref h_t_own, .ref h_t_levelAt, .ref h_t_itemAt, .ref h_t_times, .int t_at, .int t_ownLength, .int t_depth, .int t_deepest, .int t_letters, .int t_repeats, .int t_corrections, .int t_mostCorrections, .int t_place, .int t_reason])), (h_t_s, .inl (cI, 30, .inl t_s))]) hD hS hA [0, 1] rfl
            refine va_calli (va_runV (As := [.int x5, .int (x5 + x4)]) (rest := []) ⟨hx, hb, hml, hown, hts⟩ (cMD_isRun l dC dI cI cJ cC cS h_t h_t_s h_t_was h_t_begun h_t_text h_t_wrong h_t_cost h_t_first h_t_block h_t_many h_t_stack h_t_written h_t_own h_t_levelAt h_t_itemAt h_t_times H.size t_states t_typed t_height t_length t_at t_ownLength t_depth t_deepest t_letters t_repeats t_corrections t_mostCorrections t_place t_reason t_s x5 (x5 + x4) o4 ho4) (cwV 2 hts gX11_runOf_X11_isRun rfl rfl rfl (by decide +kernel) ⟨Nat.le_of_ble_eq_true rfl, Nat.le_of_ble_eq_true rfl⟩) ⟨fun a U g mk q => by obtain ⟨q0, q1, qP, qK, qN, qD⟩ := q; exact ⟨q0, q1, qP, va_K.moved (u := U) (U := U.calling g mk a) (Vm.Alike.refl U.vm) qK, nwS (u := U) (U := U.calling g mk a) rfl qN, qD⟩, va_recv hK hPc (ci := 10) (q0 := 0) rfl rfl, fun U hU hW => ⟨rfl, by rw [hU], by rw [hU]; exact hPc, va_K.moved hW.alike hK, nwW hW hN, hDc.weaken (fun _ _ _ _ => trivial)⟩⟩ rfl rfl hl.1 rfl (lv_room (Nat.le_of_ble_eq_true rfl)) dX11_runOf_56 ⟨Nat.zero_le _, Nat.zero_le _⟩) hS (fun q _ h => hFc q h) hFc (fun r9 u9 t H1 locs ht hvm hw hB hz1 hk1 hS => ?_)
            have hw := hw.symm
            subst hw
            obtain ⟨hP1, hK1, hD1⟩ := hB
            rw [ht] at hP1
            obtain ⟨hP, hD⟩ := va_join (wr := []) (w1 := [(h_t, .inr (10, [.ref h_t_s, .ref h_t_was, .ref h_t_begun, .int t_states, .ref h_t_text, .int t_typed, .ref h_t_wrong, .ref h_t_cost, .ref h_t_first, .ref h_t_block, .ref h_t_many, .ref h_t_stack, .int t_height, .ref h_t_written, .int t_length, .ref h_t_own, .ref h_t_levelAt, .ref h_t_itemAt, .ref h_t_times, .int t_at, .int t_ownLength, .int t_depth, .int t_deepest, .int t_letters, .int t_repeats, .int t_corrections, .int t_mostCorrections, .int t_place, .int t_reason])), (h_t_s, .inl (cI, 30, .inl t_s))]) hP hD [0, 1] [] rfl rfl (by decide) (by decide) hk1 hFc hP1 hD1
            generalize H1 = H at hP hS ⊢
            have hP : va_P (dC, dI) vwCl [(h_t, .inr (10, [.ref h_t_s, .ref h_t_was, .ref h_t_begun, .int t_states, .ref h_t_text, .int t_typed, .ref h_t_wrong, .ref h_t_cost, .ref h_t_first, .ref h_t_block, .ref h_t_many, .ref h_t_stack, .int t_height, .ref h_t_written, .int t_length, .ref h_t_own, .ref h_t_levelAt, .ref h_t_itemAt, .ref h_t_times, .int t_at, .int t_ownLength, .int t_depth, .int t_deepest, .int t_letters, .int t_repeats, .int t_corrections, .int t_mostCorrections, .int t_place, .int t_reason])), (h_t_s, .inl (cI, 30, .inl t_s))] H := hP
            have hD : va_D A [(h_t, .inr (10, [.ref h_t_s, .ref h_t_was, .ref h_t_begun, .int t_states, .ref h_t_text, .int t_typed, .ref h_t_wrong, .ref h_t_cost, .ref h_t_first, .ref h_t_block, .ref h_t_many, .ref h_t_stack, .int t_height, .ref h_t_written, .int t_length, .ref h_t_own, .ref h_t_levelAt, .ref h_t_itemAt, .ref h_t_times, .int t_at, .int t_ownLength, .int t_depth, .int t_deepest, .int t_letters, .int t_repeats, .int t_corrections, .int t_mostCorrections, .int t_place, .int t_reason])), (h_t_s, .inl (cI, 30, .inl t_s))] := hD
            refine lv_istore (lv' := [(6, .int o4), (0, .ref h_t), (2, .int x2), (3, .int x3), (4, .int x4), (5, .int x5)]) hx hb dX11_runOf_59 hl (by decide) rfl (fun ls hl => ?_)
            refine lv_iload hx hb dX11_runOf_61 (lv_at hl 0 rfl) ?_
            refine lv_if_eq (tgt := 104) hx hb dX11_runOf_63 (by decide) (fun c_5 => ?_) (fun c_5 => ?_)
            · have hres := it_of hres c_5
              exact hK104 x3 x4 x5 o4 H locs ls hres hP hD hS (lv_sub hl [1, 2, 3, 4, 5, 0] rfl)
            · have hres := ie_of hres c_5
              refine lv_iload_n hx hb dX11_runOf_66 rfl (lv_at hl 3 rfl) ?_
              refine lv_if_ne (tgt := 104) hx hb dX11_runOf_67 (by decide) (fun c_6 => ?_) (fun c_6 => ?_)
              · have hres := ie_of hres c_6
                exact hK104 x3 x4 x5 o4 H locs ls hres hP hD hS (lv_sub hl [1, 2, 3, 4, 5, 0] rfl)
              · have hres := it_of hres c_6
                refine lv_iload_n hx hb dX11_runOf_70 rfl (lv_at hl 2 rfl) ?_
                refine lv_if_ne (tgt := 79) hx hb dX11_runOf_71 (by decide) (fun c_7 => ?_) (fun c_7 => ?_)
                · have hres := ie_of hres c_7
                  refine lv_iload_n hx hb dX11_runOf_79 rfl (lv_at hl 2 rfl) ?_
                  refine lv_iconst (v := (1 : Int32)) hx hb dX11_runOf_80 (by decide) ?_
                  refine lv_icmp_ne (tgt := 92) hx hb dX11_runOf_81 (by decide) (fun c_8 => ?_) (fun c_8 => ?_)
                  · have hres := ie_of hres c_8
                    refine lv_aload_n hx hb dX11_runOf_92 rfl (lv_at hl 1 rfl) ?_
                    refine lv_iload hx hb dX11_runOf_93 (lv_at hl 5 rfl) ?_
                    refine lv_iload hx hb dX11_runOf_95 (lv_at hl 5 rfl) ?_
                    refine lv_iload hx hb dX11_runOf_97 (lv_at hl 4 rfl) ?_
                    refine lv_iadd hx hb dX11_runOf_99 ?_
                    obtain ⟨o9, ho9, hres⟩ := bd_of hres
                    have hPc := hP.sub (ws' := [(h_t, .inr (10, [.ref h_t_s, .ref h_t_was, .ref h_t_begun, .int t_states, .ref h_t_text, .int t_typed, .ref h_t_wrong, .ref h_t_cost, .ref h_t_first, .ref h_t_block, .ref h_t_many, .ref h_t_stack, .int t_height, .ref h_t_written, .int t_length, .ref h_t_own, .ref h_t_levelAt, .ref h_t_itemAt, .ref h_t_times, .int t_at, .int t_ownLength, .int t_depth, .int t_deepest, .int t_letters, .int t_repeats, .int t_corrections, .int t_mostCorrections, .int t_place, .int t_reason])), (h_t_s, .inl (cI, 30, .inl t_s))]) [0, 1] rfl
                    have hDc := hD.sub (ws' := [(h_t, .inr (10, [.ref h_t_s, .ref h_t_was, .ref h_t_begun, .int t_states, .ref h_t_text, .int t_typed, .ref h_t_wrong, .ref h_t_cost, .ref h_t_first, .ref h_t_block, .ref h_t_many, .ref h_t_stack, .int t_height, .ref h_t_written, .int t_length, .ref h_t_own, .ref h_t_levelAt, .ref h_t_itemAt, .ref h_t_times, .int t_at, .int t_ownLength, .int t_depth, .int t_deepest, .int t_letters, .int t_repeats, .int t_corrections, .int t_mostCorrections, .int t_place, .int t_reason])), (h_t_s, .inl (cI, 30, .inl t_s))]) [0, 1] (by decide) rfl
                    have hFc := va_free (wc := [(h_t, .inr (10, [.ref h_t_s, .ref h_t_was, .ref h_t_begun, .int t_states, .ref h_t_text, .int t_typed, .ref h_t_wrong, .ref h_t_cost, .ref h_t_first, .ref h_t_block, .ref h_t_many, .ref h_t_stack, .int t_height, .ref h_t_written, .int t_length, .ref h_t_own, .ref h_t_levelAt, .ref h_t_itemAt, .ref h_t_times, .int t_at, .int t_ownLength, .int t_depth, .int t_deepest, .int t_letters, .int t_repeats, .int t_corrections, .int t_mostCorrections, .int t_place, .int t_reason])), (h_t_s, .inl (cI, 30, .inl t_s))]) hD hS hA [0, 1] rfl
                    refine va_calli (va_runV (As := [.int x5, .int (x5 + x4)]) (rest := []) ⟨hx, hb, hml, hown, hts⟩ (cMD_least l dC dI cI cJ cC cS h_t h_t_s h_t_was h_t_begun h_t_text h_t_wrong h_t_cost h_t_first h_t_block h_t_many h_t_stack h_t_written h_t_own h_t_levelAt h_t_itemAt h_t_times H.size t_states t_typed t_height t_length t_at t_ownLength t_depth t_deepest t_letters t_repeats t_corrections t_mostCorrections t_place t_reason t_s x5 (x5 + x4) o9 ho9) (cwV 2 hts gX11_runOf_X11_least rfl rfl rfl (by decide +kernel) ⟨Nat.le_of_ble_eq_true rfl, Nat.le_of_ble_eq_true rfl⟩) ⟨fun a U g mk q => by obtain ⟨q0, q1, qP, qK, qN, qD⟩ := q; exact ⟨q0, q1, qP, va_K.moved (u := U) (U := U.calling g mk a) (Vm.Alike.refl U.vm) qK, nwS (u := U) (U := U.calling g mk a) rfl qN, qD⟩, va_recv hK hPc (ci := 10) (q0 := 0) rfl rfl, fun U hU hW => ⟨rfl, by rw [hU], by rw [hU]; exact hPc, va_K.moved hW.alike hK, nwW hW hN, hDc.weaken (fun _ _ _ _ => trivial)⟩⟩ rfl rfl hl.1 rfl (lv_room (Nat.le_of_ble_eq_true rfl)) dX11_runOf_100 ⟨Nat.zero_le _, Nat.zero_le _⟩) hS (fun q _ h => hFc q h) hFc (fun r9 u9 t H1 locs ht hvm hw hB hz1 hk1 hS => ?_)
                    have hw := hw.symm
                    subst hw
                    obtain ⟨hP1, hK1, hD1⟩ := hB
                    rw [ht] at hP1
                    obtain ⟨hP, hD⟩ := va_join (wr := []) (w1 := [(h_t, .inr (10, [.ref h_t_s, .ref h_t_was, .ref h_t_begun, .int t_states, .ref h_t_text, .int t_typed, .ref h_t_wrong, .ref h_t_cost, .ref h_t_first, .ref h_t_block, .ref h_t_many, .ref h_t_stack, .int t_height, .ref h_t_written, .int t_length, .ref h_t_own, .ref h_t_levelAt, .ref h_t_itemAt, .ref h_t_times, .int t_at, .int t_ownLength, .int t_depth, .int t_deepest, .int t_letters, .int t_repeats, .int t_corrections, .int t_mostCorrections, .int t_place, .int t_reason])), (h_t_s, .inl (cI, 30, .inl t_s))]) hP hD [0, 1] [] rfl rfl (by decide) (by decide) hk1 hFc hP1 hD1
                    generalize H1 = H at hP hS ⊢
                    have hP : va_P (dC, dI) vwCl [(h_t, .inr (10, [.ref h_t_s, .ref h_t_was, .ref h_t_begun, .int t_states, .ref h_t_text, .int t_typed, .ref h_t_wrong, .ref h_t_cost, .ref h_t_first, .ref h_t_block, .ref h_t_many, .ref h_t_stack, .int t_height, .ref h_t_written, .int t_length, .ref h_t_own, .ref h_t_levelAt, .ref h_t_itemAt, .ref h_t_times, .int t_at, .int t_ownLength, .int t_depth, .int t_deepest, .int t_letters, .int t_repeats, .int t_corrections, .int t_mostCorrections, .int t_place, .int t_reason])), (h_t_s, .inl (cI, 30, .inl t_s))] H := hP
                    have hD : va_D A [(h_t, .inr (10, [.ref h_t_s, .ref h_t_was, .ref h_t_begun, .int t_states, .ref h_t_text, .int t_typed, .ref h_t_wrong, .ref h_t_cost, .ref h_t_first, .ref h_t_block, .ref h_t_many, .ref h_t_stack, .int t_height, .ref h_t_written, .int t_length, .ref h_t_own, .ref h_t_levelAt, .ref h_t_itemAt, .ref h_t_times, .int t_at, .int t_ownLength, .int t_depth, .int t_deepest, .int t_letters, .int t_repeats, .int t_corrections, .int t_mostCorrections, .int t_place, .int t_reason])), (h_t_s, .inl (cI, 30, .inl t_s))] := hD
                    have e9_0 := Option.some.inj hres
                    subst e9_0
                    rw [← hQQ]
                    exact W.iret (v := o9) hx hb hr (fun t ht hW => ⟨⟨o9, (), rfl, rfl, by rw [ht]; exact hP, va_K.moved hW.alike hK, hD⟩, hS.F ht⟩) hS.2.2 dX11_runOf_103
                  · have hres := it_of hres c_8
                    refine lv_iload hx hb dX11_runOf_84 (lv_at hl 5 rfl) ?_
                    refine lv_iload hx hb dX11_runOf_86 (lv_at hl 4 rfl) ?_
                    refine lv_iadd hx hb dX11_runOf_88 ?_
                    refine lv_goto (tgt := 103) hx hb dX11_runOf_89 (by decide) ?_
                    have e9_0 := Option.some.inj hres
                    subst e9_0
                    rw [← hQQ]
                    exact W.iret (v := (x5 + x4)) hx hb hr (fun t ht hW => ⟨⟨(x5 + x4), (), rfl, rfl, by rw [ht]; exact hP, va_K.moved hW.alike hK, hD⟩, hS.F ht⟩) hS.2.2 dX11_runOf_103
                · have hres := it_of hres c_7
                  refine lv_iload hx hb dX11_runOf_74 (lv_at hl 5 rfl) ?_
                  refine lv_goto (tgt := 103) hx hb dX11_runOf_76 (by decide) ?_
                  have e9_0 := Option.some.inj hres
                  subst e9_0
                  rw [← hQQ]
                  exact W.iret (v := x5) hx hb hr (fun t ht hW => ⟨⟨x5, (), rfl, rfl, by rw [ht]; exact hP, va_K.moved hW.alike hK, hD⟩, hS.F ht⟩) hS.2.2 dX11_runOf_103
      intro x3 x4 H locs ls hres hP hD hS hl
      rw [fMD_runOf_26] at hres
      refine lv_iload hx hb dX11_runOf_26 (lv_at hl 3 rfl) ?_
      refine lv_if_le (tgt := 129) hx hb dX11_runOf_28 (by decide) (fun c_2 => ?_) (fun c_2 => ?_)
      · have hres := it_of hres c_2
        refine lv_ldc (v := (-1000004 : Int32)) hx hb hown (hts _ kMD_runOf_X11_runOf_0) dX11_runOf_129 ?_
        have e9_0 := Option.some.inj hres
        subst e9_0
        rw [← hQQ]
        exact W.iret (v := (-1000004 : Int32)) hx hb hr (fun t ht hW => ⟨⟨(-1000004 : Int32), (), rfl, rfl, by rw [ht]; exact hP, va_K.moved hW.alike hK, hD⟩, hS.F ht⟩) hS.2.2 dX11_runOf_131
      · have hres := ie_of hres c_2
        refine lv_iconst (v := (0 : Int32)) hx hb dX11_runOf_31 (by decide) ?_
        refine lv_istore (lv' := [(5, .int (0 : Int32)), (0, .ref h_t), (2, .int x2), (3, .int x3), (4, .int x4)]) hx hb dX11_runOf_32 hl (by decide) rfl (fun ls hl => ?_)
        exact hL34 FU x3 x4 (0 : Int32) H locs ls hres hP hD hS (lv_sub hl [1, 2, 3, 4, 0] rfl)
  rw [fMD_runOf] at hres
  refine lv_iload_n hx hb dX11_runOf_0 rfl (lv_at hl 1 rfl) ?_
  refine lv_if_lt (tgt := 13) hx hb dX11_runOf_1 (by decide) (fun c_10 => ?_) (fun c_10 => ?_)
  · have hres := it_of hres c_10
    refine lv_ldc (v := (-1000001 : Int32)) hx hb hown (hts _ kMD_runOf_X11_runOf_3) dX11_runOf_13 ?_
    have e9_0 := Option.some.inj hres
    subst e9_0
    rw [← hQQ]
    exact W.iret (v := (-1000001 : Int32)) hx hb hr (fun t ht hW => ⟨⟨(-1000001 : Int32), (), rfl, rfl, by rw [ht]; exact hP, va_K.moved hW.alike hK, hD⟩, hS.F ht⟩) hS.2.2 dX11_runOf_15
  · have hres := ie_of hres c_10
    refine lv_iload_n hx hb dX11_runOf_4 rfl (lv_at hl 2 rfl) ?_
    refine lv_iconst (v := (0 : Int32)) hx hb dX11_runOf_5 (by decide) ?_
    refine lv_iconst (v := (2 : Int32)) hx hb dX11_runOf_6 (by decide) ?_
    obtain ⟨o11, ho11, hres⟩ := bd_of hres
    have hPc := hP.sub (ws' := []) [] rfl
    have hDc := hD.sub (ws' := []) [] (by decide) rfl
    have hFc := va_free (wc := []) hD hS hA [] rfl
    refine va_calli (va_runS (As := [.int x2, .int (0 : Int32), .int (2 : Int32)]) (rest := []) ⟨hx, hb, hml, hown, hts⟩ (cMD_in l dC dI cI cJ cC cS H.size x2 (0 : Int32) (2 : Int32) o11 ho11) (va_cwS 3 hts gX11_runOf_X11_in rfl rfl rfl (by decide +kernel) ⟨Nat.le_of_ble_eq_true rfl, Nat.le_of_ble_eq_true rfl⟩) ⟨fun a U g mk q => by obtain ⟨q0, q1, qP, qK, qN, qD⟩ := q; exact ⟨q0, q1, qP, va_K.moved (u := U) (U := U.calling g mk a) (Vm.Alike.refl U.vm) qK, nwS (u := U) (U := U.calling g mk a) rfl qN, qD⟩, fun U hU hW => ⟨rfl, by rw [hU], by rw [hU]; exact hPc, va_K.moved hW.alike hK, nwW hW hN, hDc.weaken (fun _ _ _ _ => trivial)⟩⟩ rfl rfl hl.1 rfl (lv_room (Nat.le_of_ble_eq_true rfl)) dX11_runOf_7 ⟨Nat.zero_le _, Nat.zero_le _⟩) hS (fun q _ h => hFc q h) hFc (fun r9 u9 t H1 locs ht hvm hw hB hz1 hk1 hS => ?_)
    have hw := hw.symm
    subst hw
    obtain ⟨hP1, hK1, hD1⟩ := hB
    rw [ht] at hP1
    obtain ⟨hP, hD⟩ := va_join (wr := [(h_t, .inr (10, [.ref h_t_s, .ref h_t_was, .ref h_t_begun, .int t_states, .ref h_t_text, .int t_typed, .ref h_t_wrong, .ref h_t_cost, .ref h_t_first, .ref h_t_block, .ref h_t_many, .ref h_t_stack, .int t_height, .ref h_t_written, .int t_length, .ref h_t_own, .ref h_t_levelAt, .ref h_t_itemAt, .ref h_t_times, .int t_at, .int t_ownLength, .int t_depth, .int t_deepest, .int t_letters, .int t_repeats, .int t_corrections, .int t_mostCorrections, .int t_place, .int t_reason])), (h_t_s, .inl (cI, 30, .inl t_s))]) (w1 := []) hP hD [] [0, 1] rfl rfl (by decide) (by decide) hk1 hFc hP1 hD1
    generalize H1 = H at hP hS ⊢
    have hP : va_P (dC, dI) vwCl [(h_t, .inr (10, [.ref h_t_s, .ref h_t_was, .ref h_t_begun, .int t_states, .ref h_t_text, .int t_typed, .ref h_t_wrong, .ref h_t_cost, .ref h_t_first, .ref h_t_block, .ref h_t_many, .ref h_t_stack, .int t_height, .ref h_t_written, .int t_length, .ref h_t_own, .ref h_t_levelAt, .ref h_t_itemAt, .ref h_t_times, .int t_at, .int t_ownLength, .int t_depth, .int t_deepest, .int t_letters, .int t_repeats, .int t_corrections, .int t_mostCorrections, .int t_place, .int t_reason])), (h_t_s, .inl (cI, 30, .inl t_s))] H := hP
    have hD : va_D A [(h_t, .inr (10, [.ref h_t_s, .ref h_t_was, .ref h_t_begun, .int t_states, .ref h_t_text, .int t_typed, .ref h_t_wrong, .ref h_t_cost, .ref h_t_first, .ref h_t_block, .ref h_t_many, .ref h_t_stack, .int t_height, .ref h_t_written, .int t_length, .ref h_t_own, .ref h_t_levelAt, .ref h_t_itemAt, .ref h_t_times, .int t_at, .int t_ownLength, .int t_depth, .int t_deepest, .int t_letters, .int t_repeats, .int t_corrections, .int t_mostCorrections, .int t_place, .int t_reason])), (h_t_s, .inl (cI, 30, .inl t_s))] := hD
    refine lv_if_ne (tgt := 16) hx hb dX11_runOf_10 (by decide) (fun c_12 => ?_) (fun c_12 => ?_)
    · have hres := ie_of hres c_12
      refine lv_iload_n hx hb dX11_runOf_16 rfl (lv_at hl 1 rfl) ?_
      refine lv_istore_n (lv' := [(3, .int x1), (0, .ref h_t), (1, .int x1), (2, .int x2)]) hx hb dX11_runOf_17 rfl hl (by decide) rfl (fun ls hl => ?_)
      refine lv_aload_n hx hb dX11_runOf_18 rfl (lv_at hl 1 rfl) ?_
      refine va_get (D := (dC, dI)) (ci := 10) (v := .ref h_t_s) (C := RX11) (T := TX11) (N := 29) hx hb hts iMD_runOf_X11_runOf_2 hown hK hP 0 rfl rfl 0 (by decide) (hts _ kMD_runOf_X11_runOf_1) (fun _ h9 => h9) rfl dX11_runOf_19 ?_
      refine lv_iconst (v := (0 : Int32)) hx hb dX11_runOf_22 (by decide) ?_
      refine va_iald hx hb hK hP 1 0 rfl rfl (vin (by decide)) dX11_runOf_23 ?_
      refine lv_istore (lv' := [(4, .int (rd t_s (0 : Int32))), (3, .int x1), (0, .ref h_t), (1, .int x1), (2, .int x2)]) hx hb dX11_runOf_24 hl (by decide) rfl (fun ls hl => ?_)
      exact hL26 FU x1 (rd t_s (0 : Int32)) H locs ls hres hP hD hS (lv_sub hl [2, 4, 1, 0] rfl)
    · have hres := it_of hres c_12
      refine lv_ldc (v := (-1000001 : Int32)) hx hb hown (hts _ kMD_runOf_X11_runOf_3) dX11_runOf_13 ?_
      have e9_0 := Option.some.inj hres
      subst e9_0
      rw [← hQQ]
      exact W.iret (v := (-1000001 : Int32)) hx hb hr (fun t ht hW => ⟨⟨(-1000001 : Int32), (), rfl, rfl, by rw [ht]; exact hP, va_K.moved hW.alike hK, hD⟩, hS.F ht⟩) hS.2.2 dX11_runOf_15

-- MD_set
theorem kMD_set_X11_set_0 : Cond.fieldLink RX11 7 "RepeatNestsModel" "s" "[I" ∈ wsX11_set := by decide +kernel
theorem iMD_set_X11_set_1 : ∀ w ∈ wsX110, w ∈ wsX11_set := by decide +kernel
theorem kMD_set_X11_set_2 : Cond.constant RX11 57 (-1000001) ∈ wsX11_set := by decide +kernel
set_option maxHeartbeats 4000000 in
set_option maxRecDepth 100000 in
theorem cMD_set (l : Launch) (dC : Nat → ClassId) (dI : Nat → Nat → Nat) (cI cJ cC cS : ClassId) (h_t h_t_s h_t_was h_t_begun h_t_text h_t_wrong h_t_cost h_t_first h_t_block h_t_many h_t_stack h_t_written h_t_own h_t_levelAt h_t_itemAt h_t_times : Nat) (sz : Nat) (t_states : Int32) (t_typed : Int32) (t_height : Int32) (t_length : Int32) (t_at : Int32) (t_ownLength : Int32) (t_depth : Int32) (t_deepest : Int32) (t_letters : Int32) (t_repeats : Int32) (t_corrections : Int32) (t_mostCorrections : Int32) (t_place : Int32) (t_reason : Int32) (t_begun : Nat → Int32) (t_s : Nat → Int32) (t_was : Nat → Int32) (x1 : Int32) (x2 : Int32) (r : Int32) (y_t_states : Int32) (y_t_begun : Nat → Int32) (y_t_s : Nat → Int32) (y_t_was : Nat → Int32) (hres : fMD_set t_states t_begun t_s t_was x1 x2 = some (r, y_t_states, y_t_begun, y_t_s, y_t_was)) :
    Met l yX11_set wsX11_set ({ frames := 2, cells := 0, slots := 0, locals := 43 } : Room) (va_Pc [.ref h_t, .int x1, .int x2] (fun (U : State) => U.heap.size = sz ∧ va_P (dC, dI) vwCl [(h_t, .inr (10, [.ref h_t_s, .ref h_t_was, .ref h_t_begun, .int t_states, .ref h_t_text, .int t_typed, .ref h_t_wrong, .ref h_t_cost, .ref h_t_first, .ref h_t_block, .ref h_t_many, .ref h_t_stack, .int t_height, .ref h_t_written, .int t_length, .ref h_t_own, .ref h_t_levelAt, .ref h_t_itemAt, .ref h_t_times, .int t_at, .int t_ownLength, .int t_depth, .int t_deepest, .int t_letters, .int t_repeats, .int t_corrections, .int t_mostCorrections, .int t_place, .int t_reason])), (h_t_begun, .inl (cI, 30, .inl t_begun)), (h_t_s, .inl (cI, 30, .inl t_s)), (h_t_was, .inl (cI, 120, .inl t_was))] U.heap ∧ va_K (dC, dI) vwCl (tyA cI cJ cC cS) U ∧ nwN U ∧ va_D (fun _ => True) [(h_t, .inr (10, [.ref h_t_s, .ref h_t_was, .ref h_t_begun, .int t_states, .ref h_t_text, .int t_typed, .ref h_t_wrong, .ref h_t_cost, .ref h_t_first, .ref h_t_block, .ref h_t_many, .ref h_t_stack, .int t_height, .ref h_t_written, .int t_length, .ref h_t_own, .ref h_t_levelAt, .ref h_t_itemAt, .ref h_t_times, .int t_at, .int t_ownLength, .int t_depth, .int t_deepest, .int t_letters, .int t_repeats, .int t_corrections, .int t_mostCorrections, .int t_place, .int t_reason])), (h_t_begun, .inl (cI, 30, .inl t_begun)), (h_t_s, .inl (cI, 30, .inl t_s)), (h_t_was, .inl (cI, 120, .inl t_was))])) (va_Qi (fun (r9 : Int32) (_ : Unit) => r9 = r) (fun (_ : Unit) (t : State) => va_P (dC, dI) vwCl [(h_t, .inr (10, [.ref h_t_s, .ref h_t_was, .ref h_t_begun, .int y_t_states, .ref h_t_text, .int t_typed, .ref h_t_wrong, .ref h_t_cost, .ref h_t_first, .ref h_t_block, .ref h_t_many, .ref h_t_stack, .int t_height, .ref h_t_written, .int t_length, .ref h_t_own, .ref h_t_levelAt, .ref h_t_itemAt, .ref h_t_times, .int t_at, .int t_ownLength, .int t_depth, .int t_deepest, .int t_letters, .int t_repeats, .int t_corrections, .int t_mostCorrections, .int t_place, .int t_reason])), (h_t_begun, .inl (cI, 30, .inl y_t_begun)), (h_t_s, .inl (cI, 30, .inl y_t_s)), (h_t_was, .inl (cI, 120, .inl y_t_was))] t.heap ∧ va_K (dC, dI) vwCl (tyA cI cJ cC cS) t ∧ va_D (va_A [(h_t, .inr (10, [.ref h_t_s, .ref h_t_was, .ref h_t_begun, .int t_states, .ref h_t_text, .int t_typed, .ref h_t_wrong, .ref h_t_cost, .ref h_t_first, .ref h_t_block, .ref h_t_many, .ref h_t_stack, .int t_height, .ref h_t_written, .int t_length, .ref h_t_own, .ref h_t_levelAt, .ref h_t_itemAt, .ref h_t_times, .int t_at, .int t_ownLength, .int t_depth, .int t_deepest, .int t_letters, .int t_repeats, .int t_corrections, .int t_mostCorrections, .int t_place, .int t_reason])), (h_t_begun, .inl (cI, 30, .inl t_begun)), (h_t_s, .inl (cI, 30, .inl t_s)), (h_t_was, .inl (cI, 120, .inl t_was))] sz) [(h_t, .inr (10, [.ref h_t_s, .ref h_t_was, .ref h_t_begun, .int y_t_states, .ref h_t_text, .int t_typed, .ref h_t_wrong, .ref h_t_cost, .ref h_t_first, .ref h_t_block, .ref h_t_many, .ref h_t_stack, .int t_height, .ref h_t_written, .int t_length, .ref h_t_own, .ref h_t_levelAt, .ref h_t_itemAt, .ref h_t_times, .int t_at, .int t_ownLength, .int t_depth, .int t_deepest, .int t_letters, .int t_repeats, .int t_corrections, .int t_mostCorrections, .int t_place, .int t_reason])), (h_t_begun, .inl (cI, 30, .inl y_t_begun)), (h_t_s, .inl (cI, 30, .inl y_t_s)), (h_t_was, .inl (cI, 120, .inl y_t_was))]) (va_A [(h_t, .inr (10, [.ref h_t_s, .ref h_t_was, .ref h_t_begun, .int t_states, .ref h_t_text, .int t_typed, .ref h_t_wrong, .ref h_t_cost, .ref h_t_first, .ref h_t_block, .ref h_t_many, .ref h_t_stack, .int t_height, .ref h_t_written, .int t_length, .ref h_t_own, .ref h_t_levelAt, .ref h_t_itemAt, .ref h_t_times, .int t_at, .int t_ownLength, .int t_depth, .int t_deepest, .int t_letters, .int t_repeats, .int t_corrections, .int t_mostCorrections, .int t_place, .int t_reason])), (h_t_begun, .inl (cI, 30, .inl t_begun)), (h_t_s, .inl (cI, 30, .inl t_s)), (h_t_was, .inl (cI, 120, .inl t_was))] sz)) 0 0 (va_A [(h_t, .inr (10, [.ref h_t_s, .ref h_t_was, .ref h_t_begun, .int t_states, .ref h_t_text, .int t_typed, .ref h_t_wrong, .ref h_t_cost, .ref h_t_first, .ref h_t_block, .ref h_t_many, .ref h_t_stack, .int t_height, .ref h_t_written, .int t_length, .ref h_t_own, .ref h_t_levelAt, .ref h_t_itemAt, .ref h_t_times, .int t_at, .int t_ownLength, .int t_depth, .int t_deepest, .int t_letters, .int t_repeats, .int t_corrections, .int t_mostCorrections, .int t_place, .int t_reason])), (h_t_begun, .inl (cI, 30, .inl t_begun)), (h_t_s, .inl (cI, 30, .inl t_s)), (h_t_was, .inl (cI, 120, .inl t_was))] sz) := by
  refine Met.ofW (cc := cX11_set) (maxL := 4) (ret := (some .int)) (by decide) rfl ?_
  intro p e s m args below meth c s₁ B hml hv
  obtain ⟨hargs, hsz, hP, hK, hN, hD0⟩ := hv
  have hx := B.exec
  have hb := B.bytes
  have hr := B.returns
  have hts := atoms_spec (ws := wsX11_set) B.pre
  have hown : s.vm.findClass RX11 = some m.cls := findClass_of_methodNamed B.named
  have hlocks := B.notSynchronized
  subst hsz
  have hD := hD0.self (sz := s.heap.size)
  generalize hAe : va_A [(h_t, .inr (10, [.ref h_t_s, .ref h_t_was, .ref h_t_begun, .int t_states, .ref h_t_text, .int t_typed, .ref h_t_wrong, .ref h_t_cost, .ref h_t_first, .ref h_t_block, .ref h_t_many, .ref h_t_stack, .int t_height, .ref h_t_written, .int t_length, .ref h_t_own, .ref h_t_levelAt, .ref h_t_itemAt, .ref h_t_times, .int t_at, .int t_ownLength, .int t_depth, .int t_deepest, .int t_letters, .int t_repeats, .int t_corrections, .int t_mostCorrections, .int t_place, .int t_reason])), (h_t_begun, .inl (cI, 30, .inl t_begun)), (h_t_s, .inl (cI, 30, .inl t_s)), (h_t_was, .inl (cI, 120, .inl t_was))] s.heap.size = A at hD ⊢
  have hA : ∀ q : Nat, s.heap.size ≤ q → A q := fun q h => by rw [← hAe]; exact Or.inr h
  have hS : va_S A s.heap s.heap [] := va_S.rf
  have hP : va_P (dC, dI) vwCl [(h_t, .inr (10, [.ref h_t_s, .ref h_t_was, .ref h_t_begun, .int t_states, .ref h_t_text, .int t_typed, .ref h_t_wrong, .ref h_t_cost, .ref h_t_first, .ref h_t_block, .ref h_t_many, .ref h_t_stack, .int t_height, .ref h_t_written, .int t_length, .ref h_t_own, .ref h_t_levelAt, .ref h_t_itemAt, .ref h_t_times, .int t_at, .int t_ownLength, .int t_depth, .int t_deepest, .int t_letters, .int t_repeats, .int t_corrections, .int t_mostCorrections, .int t_place, .int t_reason])), (h_t_begun, .inl (cI, 30, .inl t_begun)), (h_t_s, .inl (cI, 30, .inl t_s)), (h_t_was, .inl (cI, 120, .inl t_was))] s.heap := hP
  have hl := lv_entry [.ref h_t, .int x1, .int x2] (n := 4) (Nat.le_of_ble_eq_true rfl)
  rw [show entryFrame m args 4 = entryFrame m ([.ref h_t, .int x1, .int x2] : List Value).toArray 4 from by rw [hargs], lg_entry_eq]
  generalize (lg_sl [.ref h_t, .int x1, .int x2] ++ List.replicate (4 - (lg_sl [.ref h_t, .int x1, .int x2]).length) Slot.unset).toArray = ls at hl ⊢
  have hl : lv_has ls 4 [(0, .ref h_t), (1, .int x1), (2, .int x2)] := hl
  generalize hQQ : MQ below (va_Qi (fun (r9 : Int32) (_ : Unit) => r9 = r) (fun (_ : Unit) (t : State) => va_P (dC, dI) vwCl [(h_t, .inr (10, [.ref h_t_s, .ref h_t_was, .ref h_t_begun, .int y_t_states, .ref h_t_text, .int t_typed, .ref h_t_wrong, .ref h_t_cost, .ref h_t_first, .ref h_t_block, .ref h_t_many, .ref h_t_stack, .int t_height, .ref h_t_written, .int t_length, .ref h_t_own, .ref h_t_levelAt, .ref h_t_itemAt, .ref h_t_times, .int t_at, .int t_ownLength, .int t_depth, .int t_deepest, .int t_letters, .int t_repeats, .int t_corrections, .int t_mostCorrections, .int t_place, .int t_reason])), (h_t_begun, .inl (cI, 30, .inl y_t_begun)), (h_t_s, .inl (cI, 30, .inl y_t_s)), (h_t_was, .inl (cI, 120, .inl y_t_was))] t.heap ∧ va_K (dC, dI) vwCl (tyA cI cJ cC cS) t ∧ va_D A [(h_t, .inr (10, [.ref h_t_s, .ref h_t_was, .ref h_t_begun, .int y_t_states, .ref h_t_text, .int t_typed, .ref h_t_wrong, .ref h_t_cost, .ref h_t_first, .ref h_t_block, .ref h_t_many, .ref h_t_stack, .int t_height, .ref h_t_written, .int t_length, .ref h_t_own, .ref h_t_levelAt, .ref h_t_itemAt, .ref h_t_times, .int t_at, .int t_ownLength, .int t_depth, .int t_deepest, .int t_letters, .int t_repeats, .int t_corrections, .int t_mostCorrections, .int t_place, .int t_reason])), (h_t_begun, .inl (cI, 30, .inl y_t_begun)), (h_t_s, .inl (cI, 30, .inl y_t_s)), (h_t_was, .inl (cI, 120, .inl y_t_was))]) A) args s 0 0 A = QQ
  obtain ⟨H, hH⟩ : ∃ H : Heap, H = s.heap := ⟨_, rfl⟩
  obtain ⟨locs, hlocs⟩ : ∃ locs : List Loc, locs = [] := ⟨_, rfl⟩
  rw [← hH] at hP
  have hS : va_S A s.heap H locs := by rw [hH, hlocs]; exact hS
  suffices hZ : W p l e (headSpec wsX11_set ({ frames := 2, cells := 0, slots := 0, locals := 43 } : Room)).room s m args below meth c H locs 0 0 QQ (F0 m 0 ls []) by rw [hH, hlocs] at hZ; exact hZ
  clear hH hlocs
  rw [fMD_set] at hres
  refine lv_iload_n hx hb dX11_set_0 rfl (lv_at hl 1 rfl) ?_
  refine lv_iload_n hx hb dX11_set_1 rfl (lv_at hl 2 rfl) ?_
  obtain ⟨o1, ho1, hres⟩ := bd_of hres
  have hPc := hP.sub (ws' := []) [] rfl
  have hDc := hD.sub (ws' := []) [] (by decide) rfl
  have hFc := va_free (wc := []) hD hS hA [] rfl
  refine va_calli (va_runS (As := [.int x1, .int x2]) (rest := []) ⟨hx, hb, hml, hown, hts⟩ (cMD_isSetting l dC dI cI cJ cC cS H.size x1 x2 o1 ho1) (va_cwS 2 hts gX11_set_X11_isSetting rfl rfl rfl (by decide +kernel) ⟨Nat.le_of_ble_eq_true rfl, Nat.le_of_ble_eq_true rfl⟩) ⟨fun a U g mk q => by obtain ⟨q0, q1, qP, qK, qN, qD⟩ := q; exact ⟨q0, q1, qP, va_K.moved (u := U) (U := U.calling g mk a) (Vm.Alike.refl U.vm) qK, nwS (u := U) (U := U.calling g mk a) rfl qN, qD⟩, fun U hU hW => ⟨rfl, by rw [hU], by rw [hU]; exact hPc, va_K.moved hW.alike hK, nwW hW hN, hDc.weaken (fun _ _ _ _ => trivial)⟩⟩ rfl rfl hl.1 rfl (lv_room (Nat.le_of_ble_eq_true rfl)) dX11_set_2 ⟨Nat.zero_le _, Nat.zero_le _⟩) hS (fun q _ h => hFc q h) hFc (fun r9 u9 t H1 locs ht hvm hw hB hz1 hk1 hS => ?_)
  have hw := hw.symm
  subst hw
  obtain ⟨hP1, hK1, hD1⟩ := hB
  rw [ht] at hP1
  obtain ⟨hP, hD⟩ := va_join (wr := [(h_t, .inr (10, [.ref h_t_s, .ref h_t_was, .ref h_t_begun, .int t_states, .ref h_t_text, .int t_typed, .ref h_t_wrong, .ref h_t_cost, .ref h_t_first, .ref h_t_block, .ref h_t_many, .ref h_t_stack, .int t_height, .ref h_t_written, .int t_length, .ref h_t_own, .ref h_t_levelAt, .ref h_t_itemAt, .ref h_t_times, .int t_at, .int t_ownLength, .int t_depth, .int t_deepest, .int t_letters, .int t_repeats, .int t_corrections, .int t_mostCorrections, .int t_place, .int t_reason])), (h_t_begun, .inl (cI, 30, .inl t_begun)), (h_t_s, .inl (cI, 30, .inl t_s)), (h_t_was, .inl (cI, 120, .inl t_was))]) (w1 := []) hP hD [] [0, 1, 2, 3] rfl rfl (by decide) (by decide) hk1 hFc hP1 hD1
  generalize H1 = H at hP hS ⊢
  have hP : va_P (dC, dI) vwCl [(h_t, .inr (10, [.ref h_t_s, .ref h_t_was, .ref h_t_begun, .int t_states, .ref h_t_text, .int t_typed, .ref h_t_wrong, .ref h_t_cost, .ref h_t_first, .ref h_t_block, .ref h_t_many, .ref h_t_stack, .int t_height, .ref h_t_written, .int t_length, .ref h_t_own, .ref h_t_levelAt, .ref h_t_itemAt, .ref h_t_times, .int t_at, .int t_ownLength, .int t_depth, .int t_deepest, .int t_letters, .int t_repeats, .int t_corrections, .int t_mostCorrections, .int t_place, .int t_reason])), (h_t_begun, .inl (cI, 30, .inl t_begun)), (h_t_s, .inl (cI, 30, .inl t_s)), (h_t_was, .inl (cI, 120, .inl t_was))] H := hP
  have hD : va_D A [(h_t, .inr (10, [.ref h_t_s, .ref h_t_was, .ref h_t_begun, .int t_states, .ref h_t_text, .int t_typed, .ref h_t_wrong, .ref h_t_cost, .ref h_t_first, .ref h_t_block, .ref h_t_many, .ref h_t_stack, .int t_height, .ref h_t_written, .int t_length, .ref h_t_own, .ref h_t_levelAt, .ref h_t_itemAt, .ref h_t_times, .int t_at, .int t_ownLength, .int t_depth, .int t_deepest, .int t_letters, .int t_repeats, .int t_corrections, .int t_mostCorrections, .int t_place, .int t_reason])), (h_t_begun, .inl (cI, 30, .inl t_begun)), (h_t_s, .inl (cI, 30, .inl t_s)), (h_t_was, .inl (cI, 120, .inl t_was))] := hD
  refine lv_if_ne (tgt := 11) hx hb dX11_set_5 (by decide) (fun c_2 => ?_) (fun c_2 => ?_)
  · have hres := ie_of hres c_2
    refine lv_aload_n hx hb dX11_set_11 rfl (lv_at hl 0 rfl) ?_
    obtain ⟨o3, ho3, hres⟩ := bd_of hres
    have hPc := hP.sub (ws' := [(h_t, .inr (10, [.ref h_t_s, .ref h_t_was, .ref h_t_begun, .int t_states, .ref h_t_text, .int t_typed, .ref h_t_wrong, .ref h_t_cost, .ref h_t_first, .ref h_t_block, .ref h_t_many, .ref h_t_stack, .int t_height, .ref h_t_written, .int t_length, .ref h_t_own, .ref h_t_levelAt, .ref h_t_itemAt, .ref h_t_times, .int t_at, .int t_ownLength, .int t_depth, .int t_deepest, .int t_letters, .int t_repeats, .int t_corrections, .int t_mostCorrections, .int t_place, .int t_reason])), (h_t_begun, .inl (cI, 30, .inl t_begun)), (h_t_s, .inl (cI, 30, .inl t_s))]) [0, 1, 2] rfl
    have hDc := hD.sub (ws' := [(h_t, .inr (10, [.ref h_t_s, .ref h_t_was, .ref h_t_begun, .int t_states, .ref h_t_text, .int t_typed, .ref h_t_wrong, .ref h_t_cost, .ref h_t_first, .ref h_t_block, .ref h_t_many, .ref h_t_stack, .int t_height, .ref h_t_written, .int t_length, .ref h_t_own, .ref h_t_levelAt, .ref h_t_itemAt, .ref h_t_times, .int t_at, .int t_ownLength, .int t_depth, .int t_deepest, .int t_letters, .int t_repeats, .int t_corrections, .int t_mostCorrections, .int t_place, .int t_reason])), (h_t_begun, .inl (cI, 30, .inl t_begun)), (h_t_s, .inl (cI, 30, .inl t_s))]) [0, 1, 2] (by decide) rfl
    have hFc := va_free (wc := [(h_t, .inr (10, [.ref h_t_s, .ref h_t_was, .ref h_t_begun, .int t_states, .ref h_t_text, .int t_typed, .ref h_t_wrong, .ref h_t_cost, .ref h_t_first, .ref h_t_block, .ref h_t_many, .ref h_t_stack, .int t_height, .ref h_t_written, .int t_length, .ref h_t_own, .ref h_t_levelAt, .ref h_t_itemAt, .ref h_t_times, .int t_at, .int t_ownLength, .int t_depth, .int t_deepest, .int t_letters, .int t_repeats, .int t_corrections, .int t_mostCorrections, .int t_place, .int t_reason])), (h_t_begun, .inl (cI, 30, .inl t_begun)), (h_t_s, .inl (cI, 30, .inl t_s))]) hD hS hA [0, 1, 2] rfl
    refine va_callv (va_runV (As := []) (rest := []) ⟨hx, hb, hml, hown, hts⟩ (cMD_keeps l dC dI cI cJ cC cS h_t h_t_s h_t_was h_t_begun h_t_text h_t_wrong h_t_cost h_t_first h_t_block h_t_many h_t_stack h_t_written h_t_own h_t_levelAt h_t_itemAt h_t_times H.size t_states t_typed t_height t_length t_at t_ownLength t_depth t_deepest t_letters t_repeats t_corrections t_mostCorrections t_place t_reason t_begun t_s o3 ho3) (cwV 0 hts gX11_set_X11_keeps rfl rfl rfl (by decide +kernel) ⟨Nat.le_of_ble_eq_true rfl, Nat.le_of_ble_eq_true rfl⟩) ⟨fun a U g mk q => by obtain ⟨q0, q1, qP, qK, qN, qD⟩ := q; exact ⟨q0, q1, qP, va_K.moved (u := U) (U := U.calling g mk a) (Vm.Alike.refl U.vm) qK, nwS (u := U) (U := U.calling g mk a) rfl qN, qD⟩, va_recv hK hPc (ci := 10) (q0 := 0) rfl rfl, fun U hU hW => ⟨rfl, by rw [hU], by rw [hU]; exact hPc, va_K.moved hW.alike hK, nwW hW hN, hDc.weaken (fun _ _ _ _ => trivial)⟩⟩ rfl rfl hl.1 rfl (lv_room (Nat.le_of_ble_eq_true rfl)) dX11_set_12 ⟨Nat.zero_le _, Nat.zero_le _⟩) hS (fun q _ h => hFc q h) hFc (fun u9 t H1 locs ht hvm hw hB hz1 hk1 hS => ?_)
    obtain ⟨hP1, hK1, hD1⟩ := hB
    rw [ht] at hP1
    obtain ⟨hP, hD⟩ := va_join (wr := [(h_t_was, .inl (cI, 120, .inl t_was))]) (w1 := [(h_t, .inr (10, [.ref h_t_s, .ref h_t_was, .ref h_t_begun, .int t_states, .ref h_t_text, .int t_typed, .ref h_t_wrong, .ref h_t_cost, .ref h_t_first, .ref h_t_block, .ref h_t_many, .ref h_t_stack, .int t_height, .ref h_t_written, .int t_length, .ref h_t_own, .ref h_t_levelAt, .ref h_t_itemAt, .ref h_t_times, .int t_at, .int t_ownLength, .int t_depth, .int t_deepest, .int t_letters, .int t_repeats, .int t_corrections, .int t_mostCorrections, .int t_place, .int t_reason])), (h_t_begun, .inl (cI, 30, .inl o3)), (h_t_s, .inl (cI, 30, .inl t_s))]) hP hD [0, 1, 2] [3] rfl rfl (by decide) (by decide) hk1 hFc hP1 hD1
    generalize H1 = H at hP hS ⊢
    have hP : va_P (dC, dI) vwCl [(h_t_was, .inl (cI, 120, .inl t_was)), (h_t, .inr (10, [.ref h_t_s, .ref h_t_was, .ref h_t_begun, .int t_states, .ref h_t_text, .int t_typed, .ref h_t_wrong, .ref h_t_cost, .ref h_t_first, .ref h_t_block, .ref h_t_many, .ref h_t_stack, .int t_height, .ref h_t_written, .int t_length, .ref h_t_own, .ref h_t_levelAt, .ref h_t_itemAt, .ref h_t_times, .int t_at, .int t_ownLength, .int t_depth, .int t_deepest, .int t_letters, .int t_repeats, .int t_corrections, .int t_mostCorrections, .int t_place, .int t_reason])), (h_t_begun, .inl (cI, 30, .inl o3)), (h_t_s, .inl (cI, 30, .inl t_s))] H := hP
    have hD : va_D A [(h_t_was, .inl (cI, 120, .inl t_was)), (h_t, .inr (10, [.ref h_t_s, .ref h_t_was, .ref h_t_begun, .int t_states, .ref h_t_text, .int t_typed, .ref h_t_wrong, .ref h_t_cost, .ref h_t_first, .ref h_t_block, .ref h_t_many, .ref h_t_stack, .int t_height, .ref h_t_written, .int t_length, .ref h_t_own, .ref h_t_levelAt, .ref h_t_itemAt, .ref h_t_times, .int t_at, .int t_ownLength, .int t_depth, .int t_deepest, .int t_letters, .int t_repeats, .int t_corrections, .int t_mostCorrections, .int t_place, .int t_reason])), (h_t_begun, .inl (cI, 30, .inl o3)), (h_t_s, .inl (cI, 30, .inl t_s))] := hD
    refine lv_aload_n hx hb dX11_set_15 rfl (lv_at hl 0 rfl) ?_
    refine va_get (D := (dC, dI)) (ci := 10) (v := .ref h_t_s) (C := RX11) (T := TX11) (N := 29) hx hb hts iMD_set_X11_set_1 hown hK hP 1 rfl rfl 0 (by decide) (hts _ kMD_set_X11_set_0) (fun _ h9 => h9) rfl dX11_set_16 ?_
    refine lv_iconst (v := (1 : Int32)) hx hb dX11_set_19 (by decide) ?_
    refine lv_iload_n hx hb dX11_set_20 rfl (lv_at hl 1 rfl) ?_
    refine lv_iadd hx hb dX11_set_21 ?_
    obtain ⟨c_4, hres⟩ := ck_of hres
    refine va_iald hx hb hK hP 3 0 rfl rfl c_4 dX11_set_22 ?_
    refine lv_istore_n (lv' := [(3, .int (rd t_s ((1 : Int32) + x1))), (0, .ref h_t), (1, .int x1), (2, .int x2)]) hx hb dX11_set_23 rfl hl (by decide) rfl (fun ls hl => ?_)
    refine lv_aload_n hx hb dX11_set_24 rfl (lv_at hl 1 rfl) ?_
    refine va_get (D := (dC, dI)) (ci := 10) (v := .ref h_t_s) (C := RX11) (T := TX11) (N := 29) hx hb hts iMD_set_X11_set_1 hown hK hP 1 rfl rfl 0 (by decide) (hts _ kMD_set_X11_set_0) (fun _ h9 => h9) rfl dX11_set_25 ?_
    refine lv_iconst (v := (1 : Int32)) hx hb dX11_set_28 (by decide) ?_
    refine lv_iload_n hx hb dX11_set_29 rfl (lv_at hl 2 rfl) ?_
    refine lv_iadd hx hb dX11_set_30 ?_
    refine lv_iload_n hx hb dX11_set_31 rfl (lv_at hl 3 rfl) ?_
    obtain ⟨c_5, hres⟩ := ck_of hres
    refine va_iast hx hb hK hP hD hS 3 0 rfl rfl c_5 dX11_set_32 (fun H locs hP hD hS => ?_)
    have hP : va_P (dC, dI) vwCl [(h_t_was, .inl (cI, 120, .inl t_was)), (h_t, .inr (10, [.ref h_t_s, .ref h_t_was, .ref h_t_begun, .int t_states, .ref h_t_text, .int t_typed, .ref h_t_wrong, .ref h_t_cost, .ref h_t_first, .ref h_t_block, .ref h_t_many, .ref h_t_stack, .int t_height, .ref h_t_written, .int t_length, .ref h_t_own, .ref h_t_levelAt, .ref h_t_itemAt, .ref h_t_times, .int t_at, .int t_ownLength, .int t_depth, .int t_deepest, .int t_letters, .int t_repeats, .int t_corrections, .int t_mostCorrections, .int t_place, .int t_reason])), (h_t_begun, .inl (cI, 30, .inl o3)), (h_t_s, .inl (cI, 30, .inl (wr t_s ((1 : Int32) + x1) x2)))] H := hP
    have hD : va_D A [(h_t_was, .inl (cI, 120, .inl t_was)), (h_t, .inr (10, [.ref h_t_s, .ref h_t_was, .ref h_t_begun, .int t_states, .ref h_t_text, .int t_typed, .ref h_t_wrong, .ref h_t_cost, .ref h_t_first, .ref h_t_block, .ref h_t_many, .ref h_t_stack, .int t_height, .ref h_t_written, .int t_length, .ref h_t_own, .ref h_t_levelAt, .ref h_t_itemAt, .ref h_t_times, .int t_at, .int t_ownLength, .int t_depth, .int t_deepest, .int t_letters, .int t_repeats, .int t_corrections, .int t_mostCorrections, .int t_place, .int t_reason])), (h_t_begun, .inl (cI, 30, .inl o3)), (h_t_s, .inl (cI, 30, .inl (wr t_s ((1 : Int32) + x1) x2)))] := hD
    refine lv_aload_n hx hb dX11_set_33 rfl (lv_at hl 1 rfl) ?_
    refine lv_iload_n hx hb dX11_set_34 rfl (lv_at hl 0 rfl) ?_
    obtain ⟨o6, ho6, hres⟩ := bd_of hres
    have hPc := hP.sub (ws' := [(h_t, .inr (10, [.ref h_t_s, .ref h_t_was, .ref h_t_begun, .int t_states, .ref h_t_text, .int t_typed, .ref h_t_wrong, .ref h_t_cost, .ref h_t_first, .ref h_t_block, .ref h_t_many, .ref h_t_stack, .int t_height, .ref h_t_written, .int t_length, .ref h_t_own, .ref h_t_levelAt, .ref h_t_itemAt, .ref h_t_times, .int t_at, .int t_ownLength, .int t_depth, .int t_deepest, .int t_letters, .int t_repeats, .int t_corrections, .int t_mostCorrections, .int t_place, .int t_reason])), (h_t_begun, .inl (cI, 30, .inl o3)), (h_t_was, .inl (cI, 120, .inl t_was))]) [1, 2, 0] rfl
    have hDc := hD.sub (ws' := [(h_t, .inr (10, [.ref h_t_s, .ref h_t_was, .ref h_t_begun, .int t_states, .ref h_t_text, .int t_typed, .ref h_t_wrong, .ref h_t_cost, .ref h_t_first, .ref h_t_block, .ref h_t_many, .ref h_t_stack, .int t_height, .ref h_t_written, .int t_length, .ref h_t_own, .ref h_t_levelAt, .ref h_t_itemAt, .ref h_t_times, .int t_at, .int t_ownLength, .int t_depth, .int t_deepest, .int t_letters, .int t_repeats, .int t_corrections, .int t_mostCorrections, .int t_place, .int t_reason])), (h_t_begun, .inl (cI, 30, .inl o3)), (h_t_was, .inl (cI, 120, .inl t_was))]) [1, 2, 0] (by decide) rfl
    have hFc := va_free (wc := [(h_t, .inr (10, [.ref h_t_s, .ref h_t_was, .ref h_t_begun, .int t_states, .ref h_t_text, .int t_typed, .ref h_t_wrong, .ref h_t_cost, .ref h_t_first, .ref h_t_block, .ref h_t_many, .ref h_t_stack, .int t_height, .ref h_t_written, .int t_length, .ref h_t_own, .ref h_t_levelAt, .ref h_t_itemAt, .ref h_t_times, .int t_at, .int t_ownLength, .int t_depth, .int t_deepest, .int t_letters, .int t_repeats, .int t_corrections, .int t_mostCorrections, .int t_place, .int t_reason])), (h_t_begun, .inl (cI, 30, .inl o3)), (h_t_was, .inl (cI, 120, .inl t_was))]) hD hS hA [1, 2, 0] rfl
    refine va_calli (va_runV (As := [.int (rd t_s ((1 : Int32) + x1))]) (rest := []) ⟨hx, hb, hml, hown, hts⟩ (cMD_acted l dC dI cI cJ cC cS h_t h_t_s h_t_was h_t_begun h_t_text h_t_wrong h_t_cost h_t_first h_t_block h_t_many h_t_stack h_t_written h_t_own h_t_levelAt h_t_itemAt h_t_times H.size t_states t_typed t_height t_length t_at t_ownLength t_depth t_deepest t_letters t_repeats t_corrections t_mostCorrections t_place t_reason o3 t_was (rd t_s ((1 : Int32) + x1)) o6.1 o6.2.1 o6.2.2 ho6) (cwV 1 hts gX11_set_X11_acted rfl rfl rfl (by decide +kernel) ⟨Nat.le_of_ble_eq_true rfl, Nat.le_of_ble_eq_true rfl⟩) ⟨fun a U g mk q => by obtain ⟨q0, q1, qP, qK, qN, qD⟩ := q; exact ⟨q0, q1, qP, va_K.moved (u := U) (U := U.calling g mk a) (Vm.Alike.refl U.vm) qK, nwS (u := U) (U := U.calling g mk a) rfl qN, qD⟩, va_recv hK hPc (ci := 10) (q0 := 0) rfl rfl, fun U hU hW => ⟨rfl, by rw [hU], by rw [hU]; exact hPc, va_K.moved hW.alike hK, nwW hW hN, hDc.weaken (fun _ _ _ _ => trivial)⟩⟩ rfl rfl hl.1 rfl (lv_room (Nat.le_of_ble_eq_true rfl)) dX11_set_35 ⟨Nat.zero_le _, Nat.zero_le _⟩) hS (fun q _ h => hFc q h) hFc (fun r9 u9 t H1 locs ht hvm hw hB hz1 hk1 hS => ?_)
    have hw := hw.symm
    subst hw
    obtain ⟨hP1, hK1, hD1⟩ := hB
    rw [ht] at hP1
    obtain ⟨hP, hD⟩ := va_join (wr := [(h_t_s, .inl (cI, 30, .inl (wr t_s ((1 : Int32) + x1) x2)))]) (w1 := [(h_t, .inr (10, [.ref h_t_s, .ref h_t_was, .ref h_t_begun, .int o6.2.1, .ref h_t_text, .int t_typed, .ref h_t_wrong, .ref h_t_cost, .ref h_t_first, .ref h_t_block, .ref h_t_many, .ref h_t_stack, .int t_height, .ref h_t_written, .int t_length, .ref h_t_own, .ref h_t_levelAt, .ref h_t_itemAt, .ref h_t_times, .int t_at, .int t_ownLength, .int t_depth, .int t_deepest, .int t_letters, .int t_repeats, .int t_corrections, .int t_mostCorrections, .int t_place, .int t_reason])), (h_t_begun, .inl (cI, 30, .inl o3)), (h_t_was, .inl (cI, 120, .inl o6.2.2))]) hP hD [1, 2, 0] [3] rfl rfl (by decide) (by decide) hk1 hFc hP1 hD1
    generalize H1 = H at hP hS ⊢
    have hP : va_P (dC, dI) vwCl [(h_t_s, .inl (cI, 30, .inl (wr t_s ((1 : Int32) + x1) x2))), (h_t, .inr (10, [.ref h_t_s, .ref h_t_was, .ref h_t_begun, .int o6.2.1, .ref h_t_text, .int t_typed, .ref h_t_wrong, .ref h_t_cost, .ref h_t_first, .ref h_t_block, .ref h_t_many, .ref h_t_stack, .int t_height, .ref h_t_written, .int t_length, .ref h_t_own, .ref h_t_levelAt, .ref h_t_itemAt, .ref h_t_times, .int t_at, .int t_ownLength, .int t_depth, .int t_deepest, .int t_letters, .int t_repeats, .int t_corrections, .int t_mostCorrections, .int t_place, .int t_reason])), (h_t_begun, .inl (cI, 30, .inl o3)), (h_t_was, .inl (cI, 120, .inl o6.2.2))] H := hP
    have hD : va_D A [(h_t_s, .inl (cI, 30, .inl (wr t_s ((1 : Int32) + x1) x2))), (h_t, .inr (10, [.ref h_t_s, .ref h_t_was, .ref h_t_begun, .int o6.2.1, .ref h_t_text, .int t_typed, .ref h_t_wrong, .ref h_t_cost, .ref h_t_first, .ref h_t_block, .ref h_t_many, .ref h_t_stack, .int t_height, .ref h_t_written, .int t_length, .ref h_t_own, .ref h_t_levelAt, .ref h_t_itemAt, .ref h_t_times, .int t_at, .int t_ownLength, .int t_depth, .int t_deepest, .int t_letters, .int t_repeats, .int t_corrections, .int t_mostCorrections, .int t_place, .int t_reason])), (h_t_begun, .inl (cI, 30, .inl o3)), (h_t_was, .inl (cI, 120, .inl o6.2.2))] := hD
    obtain ⟨e9_0, e9_1, e9_2, e9_3, e9_4⟩ := tup5 hres
    subst e9_0
    subst e9_1
    subst e9_2
    subst e9_3
    subst e9_4
    rw [← hQQ]
    exact W.iret (v := o6.1) hx hb hr (fun t ht hW => ⟨⟨o6.1, (), rfl, rfl, by rw [ht]; exact hP.sub [1, 2, 0, 3] rfl, va_K.moved hW.alike hK, hD.sub [1, 2, 0, 3] (by decide) rfl⟩, hS.F ht⟩) hS.2.2 dX11_set_38
  · have hres := it_of hres c_2
    refine lv_ldc (v := (-1000001 : Int32)) hx hb hown (hts _ kMD_set_X11_set_2) dX11_set_8 ?_
    obtain ⟨e9_0, e9_1, e9_2, e9_3, e9_4⟩ := tup5 hres
    subst e9_0
    subst e9_1
    subst e9_2
    subst e9_3
    subst e9_4
    rw [← hQQ]
    exact W.iret (v := (-1000001 : Int32)) hx hb hr (fun t ht hW => ⟨⟨(-1000001 : Int32), (), rfl, rfl, by rw [ht]; exact hP, va_K.moved hW.alike hK, hD⟩, hS.F ht⟩) hS.2.2 dX11_set_10

-- MD_textAt
theorem kMD_textAt_X11_textAt_0 : Cond.fieldLink RX11 7 "RepeatNestsModel" "s" "[I" ∈ wsX11_textAt := by decide +kernel
theorem iMD_textAt_X11_textAt_1 : ∀ w ∈ wsX110, w ∈ wsX11_textAt := by decide +kernel
theorem kMD_textAt_X11_textAt_2 : Cond.fieldLink RX11 105 "RepeatNestsModel" "length" "I" ∈ wsX11_textAt := by decide +kernel
theorem kMD_textAt_X11_textAt_3 : Cond.constant RX11 79 (-1000004) ∈ wsX11_textAt := by decide +kernel
theorem kMD_textAt_X11_textAt_4 : Cond.fieldLink RX11 42 "RepeatNestsModel" "written" "[C" ∈ wsX11_textAt := by decide +kernel
theorem kMD_textAt_X11_textAt_5 : Cond.constant RX11 57 (-1000001) ∈ wsX11_textAt := by decide +kernel
set_option maxHeartbeats 4000000 in
set_option maxRecDepth 100000 in
theorem cMD_textAt (l : Launch) (dC : Nat → ClassId) (dI : Nat → Nat → Nat) (cI cJ cC cS : ClassId) (h_t h_t_s h_t_was h_t_begun h_t_text h_t_wrong h_t_cost h_t_first h_t_block h_t_many h_t_stack h_t_written h_t_own h_t_levelAt h_t_itemAt h_t_times : Nat) (sz : Nat) (t_states : Int32) (t_typed : Int32) (t_height : Int32) (t_length : Int32) (t_at : Int32) (t_ownLength : Int32) (t_depth : Int32) (t_deepest : Int32) (t_letters : Int32) (t_repeats : Int32) (t_corrections : Int32) (t_mostCorrections : Int32) (t_place : Int32) (t_reason : Int32) (t_block : Nat → Int32) (t_cost : Nat → Int32) (t_first : Nat → Int32) (t_s : Nat → Int32) (t_stack : Nat → Int32) (t_written : Nat → Int32) (t_wrong : Nat → Int32) (x1 : Int32) (r : Int32) (y_t_height : Int32) (y_t_length : Int32) (y_t_block : Nat → Int32) (y_t_cost : Nat → Int32) (y_t_first : Nat → Int32) (y_t_stack : Nat → Int32) (y_t_written : Nat → Int32) (y_t_wrong : Nat → Int32) (hres : fMD_textAt t_s t_height t_length t_block t_cost t_first t_stack t_written t_wrong x1 = some (r, y_t_height, y_t_length, y_t_block, y_t_cost, y_t_first, y_t_stack, y_t_written, y_t_wrong)) :
    Met l yX11_textAt wsX11_textAt ({ frames := 4, cells := 0, slots := 0, locals := 92 } : Room) (va_Pc [.ref h_t, .int x1] (fun (U : State) => U.heap.size = sz ∧ va_P (dC, dI) vwCl [(h_t, .inr (10, [.ref h_t_s, .ref h_t_was, .ref h_t_begun, .int t_states, .ref h_t_text, .int t_typed, .ref h_t_wrong, .ref h_t_cost, .ref h_t_first, .ref h_t_block, .ref h_t_many, .ref h_t_stack, .int t_height, .ref h_t_written, .int t_length, .ref h_t_own, .ref h_t_levelAt, .ref h_t_itemAt, .ref h_t_times, .int t_at, .int t_ownLength, .int t_depth, .int t_deepest, .int t_letters, .int t_repeats, .int t_corrections, .int t_mostCorrections, .int t_place, .int t_reason])), (h_t_block, .inl (cI, 3125, .inl t_block)), (h_t_cost, .inl (cI, 3125, .inl t_cost)), (h_t_first, .inl (cI, 3125, .inl t_first)), (h_t_s, .inl (cI, 30, .inl t_s)), (h_t_stack, .inl (cI, 400, .inl t_stack)), (h_t_written, .inl (cC, 400, .inl t_written)), (h_t_wrong, .inl (cI, 15625, .inl t_wrong))] U.heap ∧ va_K (dC, dI) vwCl (tyA cI cJ cC cS) U ∧ nwN U ∧ va_D (fun _ => True) [(h_t, .inr (10, [.ref h_t_s, .ref h_t_was, .ref h_t_begun, .int t_states, .ref h_t_text, .int t_typed, .ref h_t_wrong, .ref h_t_cost, .ref h_t_first, .ref h_t_block, .ref h_t_many, .ref h_t_stack, .int t_height, .ref h_t_written, .int t_length, .ref h_t_own, .ref h_t_levelAt, .ref h_t_itemAt, .ref h_t_times, .int t_at, .int t_ownLength, .int t_depth, .int t_deepest, .int t_letters, .int t_repeats, .int t_corrections, .int t_mostCorrections, .int t_place, .int t_reason])), (h_t_block, .inl (cI, 3125, .inl t_block)), (h_t_cost, .inl (cI, 3125, .inl t_cost)), (h_t_first, .inl (cI, 3125, .inl t_first)), (h_t_s, .inl (cI, 30, .inl t_s)), (h_t_stack, .inl (cI, 400, .inl t_stack)), (h_t_written, .inl (cC, 400, .inl t_written)), (h_t_wrong, .inl (cI, 15625, .inl t_wrong))])) (va_Qi (fun (r9 : Int32) (_ : Unit) => r9 = r) (fun (_ : Unit) (t : State) => va_P (dC, dI) vwCl [(h_t, .inr (10, [.ref h_t_s, .ref h_t_was, .ref h_t_begun, .int t_states, .ref h_t_text, .int t_typed, .ref h_t_wrong, .ref h_t_cost, .ref h_t_first, .ref h_t_block, .ref h_t_many, .ref h_t_stack, .int y_t_height, .ref h_t_written, .int y_t_length, .ref h_t_own, .ref h_t_levelAt, .ref h_t_itemAt, .ref h_t_times, .int t_at, .int t_ownLength, .int t_depth, .int t_deepest, .int t_letters, .int t_repeats, .int t_corrections, .int t_mostCorrections, .int t_place, .int t_reason])), (h_t_block, .inl (cI, 3125, .inl y_t_block)), (h_t_cost, .inl (cI, 3125, .inl y_t_cost)), (h_t_first, .inl (cI, 3125, .inl y_t_first)), (h_t_s, .inl (cI, 30, .inl t_s)), (h_t_stack, .inl (cI, 400, .inl y_t_stack)), (h_t_written, .inl (cC, 400, .inl y_t_written)), (h_t_wrong, .inl (cI, 15625, .inl y_t_wrong))] t.heap ∧ va_K (dC, dI) vwCl (tyA cI cJ cC cS) t ∧ va_D (va_A [(h_t, .inr (10, [.ref h_t_s, .ref h_t_was, .ref h_t_begun, .int t_states, .ref h_t_text, .int t_typed, .ref h_t_wrong, .ref h_t_cost, .ref h_t_first, .ref h_t_block, .ref h_t_many, .ref h_t_stack, .int t_height, .ref h_t_written, .int t_length, .ref h_t_own, .ref h_t_levelAt, .ref h_t_itemAt, .ref h_t_times, .int t_at, .int t_ownLength, .int t_depth, .int t_deepest, .int t_letters, .int t_repeats, .int t_corrections, .int t_mostCorrections, .int t_place, .int t_reason])), (h_t_block, .inl (cI, 3125, .inl t_block)), (h_t_cost, .inl (cI, 3125, .inl t_cost)), (h_t_first, .inl (cI, 3125, .inl t_first)), (h_t_s, .inl (cI, 30, .inl t_s)), (h_t_stack, .inl (cI, 400, .inl t_stack)), (h_t_written, .inl (cC, 400, .inl t_written)), (h_t_wrong, .inl (cI, 15625, .inl t_wrong))] sz) [(h_t, .inr (10, [.ref h_t_s, .ref h_t_was, .ref h_t_begun, .int t_states, .ref h_t_text, .int t_typed, .ref h_t_wrong, .ref h_t_cost, .ref h_t_first, .ref h_t_block, .ref h_t_many, .ref h_t_stack, .int y_t_height, .ref h_t_written, .int y_t_length, .ref h_t_own, .ref h_t_levelAt, .ref h_t_itemAt, .ref h_t_times, .int t_at, .int t_ownLength, .int t_depth, .int t_deepest, .int t_letters, .int t_repeats, .int t_corrections, .int t_mostCorrections, .int t_place, .int t_reason])), (h_t_block, .inl (cI, 3125, .inl y_t_block)), (h_t_cost, .inl (cI, 3125, .inl y_t_cost)), (h_t_first, .inl (cI, 3125, .inl y_t_first)), (h_t_s, .inl (cI, 30, .inl t_s)), (h_t_stack, .inl (cI, 400, .inl y_t_stack)), (h_t_written, .inl (cC, 400, .inl y_t_written)), (h_t_wrong, .inl (cI, 15625, .inl y_t_wrong))]) (va_A [(h_t, .inr (10, [.ref h_t_s, .ref h_t_was, .ref h_t_begun, .int t_states, .ref h_t_text, .int t_typed, .ref h_t_wrong, .ref h_t_cost, .ref h_t_first, .ref h_t_block, .ref h_t_many, .ref h_t_stack, .int t_height, .ref h_t_written, .int t_length, .ref h_t_own, .ref h_t_levelAt, .ref h_t_itemAt, .ref h_t_times, .int t_at, .int t_ownLength, .int t_depth, .int t_deepest, .int t_letters, .int t_repeats, .int t_corrections, .int t_mostCorrections, .int t_place, .int t_reason])), (h_t_block, .inl (cI, 3125, .inl t_block)), (h_t_cost, .inl (cI, 3125, .inl t_cost)), (h_t_first, .inl (cI, 3125, .inl t_first)), (h_t_s, .inl (cI, 30, .inl t_s)), (h_t_stack, .inl (cI, 400, .inl t_stack)), (h_t_written, .inl (cC, 400, .inl t_written)), (h_t_wrong, .inl (cI, 15625, .inl t_wrong))] sz)) 0 0 (va_A [(h_t, .inr (10, [.ref h_t_s, .ref h_t_was, .ref h_t_begun, .int t_states, .ref h_t_text, .int t_typed, .ref h_t_wrong, .ref h_t_cost, .ref h_t_first, .ref h_t_block, .ref h_t_many, .ref h_t_stack, .int t_height, .ref h_t_written, .int t_length, .ref h_t_own, .ref h_t_levelAt, .ref h_t_itemAt, .ref h_t_times, .int t_at, .int t_ownLength, .int t_depth, .int t_deepest, .int t_letters, .int t_repeats, .int t_corrections, .int t_mostCorrections, .int t_place, .int t_reason])), (h_t_block, .inl (cI, 3125, .inl t_block)), (h_t_cost, .inl (cI, 3125, .inl t_cost)), (h_t_first, .inl (cI, 3125, .inl t_first)), (h_t_s, .inl (cI, 30, .inl t_s)), (h_t_stack, .inl (cI, 400, .inl t_stack)), (h_t_written, .inl (cC, 400, .inl t_written)), (h_t_wrong, .inl (cI, 15625, .inl t_wrong))] sz) := by
  refine Met.ofW (cc := cX11_textAt) (maxL := 2) (ret := (some .int)) (by decide) rfl ?_
  intro p e s m args below meth c s₁ B hml hv
  obtain ⟨hargs, hsz, hP, hK, hN, hD0⟩ := hv
  have hx := B.exec
  have hb := B.bytes
  have hr := B.returns
  have hts := atoms_spec (ws := wsX11_textAt) B.pre
  have hown : s.vm.findClass RX11 = some m.cls := findClass_of_methodNamed B.named
  have hlocks := B.notSynchronized
  subst hsz
  have hD := hD0.self (sz := s.heap.size)
  generalize hAe : va_A [(h_t, .inr (10, [.ref h_t_s, .ref h_t_was, .ref h_t_begun, .int t_states, .ref h_t_text, .int t_typed, .ref h_t_wrong, .ref h_t_cost, .ref h_t_first, .ref h_t_block, .ref h_t_many, .ref h_t_stack, .int t_height, .ref h_t_written, .int t_length, .ref h_t_own, .ref h_t_levelAt, .ref h_t_itemAt, .ref h_t_times, .int t_at, .int t_ownLength, .int t_depth, .int t_deepest, .int t_letters, .int t_repeats, .int t_corrections, .int t_mostCorrections, .int t_place, .int t_reason])), (h_t_block, .inl (cI, 3125, .inl t_block)), (h_t_cost, .inl (cI, 3125, .inl t_cost)), (h_t_first, .inl (cI, 3125, .inl t_first)), (h_t_s, .inl (cI, 30, .inl t_s)), (h_t_stack, .inl (cI, 400, .inl t_stack)), (h_t_written, .inl (cC, 400, .inl t_written)), (h_t_wrong, .inl (cI, 15625, .inl t_wrong))] s.heap.size = A at hD ⊢
  have hA : ∀ q : Nat, s.heap.size ≤ q → A q := fun q h => by rw [← hAe]; exact Or.inr h
  have hS : va_S A s.heap s.heap [] := va_S.rf
  have hP : va_P (dC, dI) vwCl [(h_t, .inr (10, [.ref h_t_s, .ref h_t_was, .ref h_t_begun, .int t_states, .ref h_t_text, .int t_typed, .ref h_t_wrong, .ref h_t_cost, .ref h_t_first, .ref h_t_block, .ref h_t_many, .ref h_t_stack, .int t_height, .ref h_t_written, .int t_length, .ref h_t_own, .ref h_t_levelAt, .ref h_t_itemAt, .ref h_t_times, .int t_at, .int t_ownLength, .int t_depth, .int t_deepest, .int t_letters, .int t_repeats, .int t_corrections, .int t_mostCorrections, .int t_place, .int t_reason])), (h_t_block, .inl (cI, 3125, .inl t_block)), (h_t_cost, .inl (cI, 3125, .inl t_cost)), (h_t_first, .inl (cI, 3125, .inl t_first)), (h_t_s, .inl (cI, 30, .inl t_s)), (h_t_stack, .inl (cI, 400, .inl t_stack)), (h_t_written, .inl (cC, 400, .inl t_written)), (h_t_wrong, .inl (cI, 15625, .inl t_wrong))] s.heap := hP
  have hl := lv_entry [.ref h_t, .int x1] (n := 2) (Nat.le_of_ble_eq_true rfl)
  rw [show entryFrame m args 2 = entryFrame m ([.ref h_t, .int x1] : List Value).toArray 2 from by rw [hargs], lg_entry_eq]
  generalize (lg_sl [.ref h_t, .int x1] ++ List.replicate (2 - (lg_sl [.ref h_t, .int x1]).length) Slot.unset).toArray = ls at hl ⊢
  have hl : lv_has ls 2 [(0, .ref h_t), (1, .int x1)] := hl
  generalize hQQ : MQ below (va_Qi (fun (r9 : Int32) (_ : Unit) => r9 = r) (fun (_ : Unit) (t : State) => va_P (dC, dI) vwCl [(h_t, .inr (10, [.ref h_t_s, .ref h_t_was, .ref h_t_begun, .int t_states, .ref h_t_text, .int t_typed, .ref h_t_wrong, .ref h_t_cost, .ref h_t_first, .ref h_t_block, .ref h_t_many, .ref h_t_stack, .int y_t_height, .ref h_t_written, .int y_t_length, .ref h_t_own, .ref h_t_levelAt, .ref h_t_itemAt, .ref h_t_times, .int t_at, .int t_ownLength, .int t_depth, .int t_deepest, .int t_letters, .int t_repeats, .int t_corrections, .int t_mostCorrections, .int t_place, .int t_reason])), (h_t_block, .inl (cI, 3125, .inl y_t_block)), (h_t_cost, .inl (cI, 3125, .inl y_t_cost)), (h_t_first, .inl (cI, 3125, .inl y_t_first)), (h_t_s, .inl (cI, 30, .inl t_s)), (h_t_stack, .inl (cI, 400, .inl y_t_stack)), (h_t_written, .inl (cC, 400, .inl y_t_written)), (h_t_wrong, .inl (cI, 15625, .inl y_t_wrong))] t.heap ∧ va_K (dC, dI) vwCl (tyA cI cJ cC cS) t ∧ va_D A [(h_t, .inr (10, [.ref h_t_s, .ref h_t_was, .ref h_t_begun, .int t_states, .ref h_t_text, .int t_typed, .ref h_t_wrong, .ref h_t_cost, .ref h_t_first, .ref h_t_block, .ref h_t_many, .ref h_t_stack, .int y_t_height, .ref h_t_written, .int y_t_length, .ref h_t_own, .ref h_t_levelAt, .ref h_t_itemAt, .ref h_t_times, .int t_at, .int t_ownLength, .int t_depth, .int t_deepest, .int t_letters, .int t_repeats, .int t_corrections, .int t_mostCorrections, .int t_place, .int t_reason])), (h_t_block, .inl (cI, 3125, .inl y_t_block)), (h_t_cost, .inl (cI, 3125, .inl y_t_cost)), (h_t_first, .inl (cI, 3125, .inl y_t_first)), (h_t_s, .inl (cI, 30, .inl t_s)), (h_t_stack, .inl (cI, 400, .inl y_t_stack)), (h_t_written, .inl (cC, 400, .inl y_t_written)), (h_t_wrong, .inl (cI, 15625, .inl y_t_wrong))]) A) args s 0 0 A = QQ
  obtain ⟨H, hH⟩ : ∃ H : Heap, H = s.heap := ⟨_, rfl⟩
  obtain ⟨locs, hlocs⟩ : ∃ locs : List Loc, locs = [] := ⟨_, rfl⟩
  rw [← hH] at hP
  have hS : va_S A s.heap H locs := by rw [hH, hlocs]; exact hS
  suffices hZ : W p l e (headSpec wsX11_textAt ({ frames := 4, cells := 0, slots := 0, locals := 92 } : Room)).room s m args below meth c H locs 0 0 QQ (F0 m 0 ls []) by rw [hH, hlocs] at hZ; exact hZ
  clear hH hlocs
  rw [fMD_textAt] at hres
  refine lv_iload_n hx hb dX11_textAt_0 rfl (lv_at hl 1 rfl) ?_
  refine lv_if_ge (tgt := 7) hx hb dX11_textAt_1 (by decide) (fun c_1 => ?_) (fun c_1 => ?_)
  · have hres := it_of hres c_1
    refine lv_aload_n hx hb dX11_textAt_7 rfl (lv_at hl 0 rfl) ?_
    obtain ⟨o2, ho2, hres⟩ := bd_of hres
    have hPc := hP.sub (ws' := [(h_t, .inr (10, [.ref h_t_s, .ref h_t_was, .ref h_t_begun, .int t_states, .ref h_t_text, .int t_typed, .ref h_t_wrong, .ref h_t_cost, .ref h_t_first, .ref h_t_block, .ref h_t_many, .ref h_t_stack, .int t_height, .ref h_t_written, .int t_length, .ref h_t_own, .ref h_t_levelAt, .ref h_t_itemAt, .ref h_t_times, .int t_at, .int t_ownLength, .int t_depth, .int t_deepest, .int t_letters, .int t_repeats, .int t_corrections, .int t_mostCorrections, .int t_place, .int t_reason])), (h_t_block, .inl (cI, 3125, .inl t_block)), (h_t_cost, .inl (cI, 3125, .inl t_cost)), (h_t_first, .inl (cI, 3125, .inl t_first)), (h_t_s, .inl (cI, 30, .inl t_s)), (h_t_wrong, .inl (cI, 15625, .inl t_wrong))]) [0, 1, 2, 3, 4, 7] rfl
    have hDc := hD.sub (ws' := [(h_t, .inr (10, [.ref h_t_s, .ref h_t_was, .ref h_t_begun, .int t_states, .ref h_t_text, .int t_typed, .ref h_t_wrong, .ref h_t_cost, .ref h_t_first, .ref h_t_block, .ref h_t_many, .ref h_t_stack, .int t_height, .ref h_t_written, .int t_length, .ref h_t_own, .ref h_t_levelAt, .ref h_t_itemAt, .ref h_t_times, .int t_at, .int t_ownLength, .int t_depth, .int t_deepest, .int t_letters, .int t_repeats, .int t_corrections, .int t_mostCorrections, .int t_place, .int t_reason])), (h_t_block, .inl (cI, 3125, .inl t_block)), (h_t_cost, .inl (cI, 3125, .inl t_cost)), (h_t_first, .inl (cI, 3125, .inl t_first)), (h_t_s, .inl (cI, 30, .inl t_s)), (h_t_wrong, .inl (cI, 15625, .inl t_wrong))]) [0, 1, 2, 3, 4, 7] (by decide) rfl
    have hFc := va_free (wc := [(h_t, .inr (10, [.ref h_t_s, .ref h_t_was, .ref h_t_begun, .int t_states, .ref h_t_text, .int t_typed, .ref h_t_wrong, .ref h_t_cost, .ref h_t_first, .ref h_t_block, .ref h_t_many, .ref h_t_stack, .int t_height, .ref h_t_written, .int t_length, .ref h_t_own, .ref h_t_levelAt, .ref h_t_itemAt, .ref h_t_times, .int t_at, .int t_ownLength, .int t_depth, .int t_deepest, .int t_letters, .int t_repeats, .int t_corrections, .int t_mostCorrections, .int t_place, .int t_reason])), (h_t_block, .inl (cI, 3125, .inl t_block)), (h_t_cost, .inl (cI, 3125, .inl t_cost)), (h_t_first, .inl (cI, 3125, .inl t_first)), (h_t_s, .inl (cI, 30, .inl t_s)), (h_t_wrong, .inl (cI, 15625, .inl t_wrong))]) hD hS hA [0, 1, 2, 3, 4, 7] rfl
    refine va_callv (va_runV (As := []) (rest := []) ⟨hx, hb, hml, hown, hts⟩ (cMD_lays l dC dI cI cJ cC cS h_t h_t_s h_t_was h_t_begun h_t_text h_t_wrong h_t_cost h_t_first h_t_block h_t_many h_t_stack h_t_written h_t_own h_t_levelAt h_t_itemAt h_t_times H.size t_states t_typed t_height t_length t_at t_ownLength t_depth t_deepest t_letters t_repeats t_corrections t_mostCorrections t_place t_reason t_block t_cost t_first t_s t_wrong o2.1 o2.2.1 o2.2.2.1 o2.2.2.2 ho2) (cwV 0 hts gX11_textAt_X11_lays rfl rfl rfl (by decide +kernel) ⟨Nat.le_of_ble_eq_true rfl, Nat.le_of_ble_eq_true rfl⟩) ⟨fun a U g mk q => by obtain ⟨q0, q1, qP, qK, qN, qD⟩ := q; exact ⟨q0, q1, qP, va_K.moved (u := U) (U := U.calling g mk a) (Vm.Alike.refl U.vm) qK, nwS (u := U) (U := U.calling g mk a) rfl qN, qD⟩, va_recv hK hPc (ci := 10) (q0 := 0) rfl rfl, fun U hU hW => ⟨rfl, by rw [hU], by rw [hU]; exact hPc, va_K.moved hW.alike hK, nwW hW hN, hDc.weaken (fun _ _ _ _ => trivial)⟩⟩ rfl rfl hl.1 rfl (lv_room (Nat.le_of_ble_eq_true rfl)) dX11_textAt_8 ⟨Nat.zero_le _, Nat.zero_le _⟩) hS (fun q _ h => hFc q h) hFc (fun u9 t H1 locs ht hvm hw hB hz1 hk1 hS => ?_)
    obtain ⟨hP1, hK1, hD1⟩ := hB
    rw [ht] at hP1
    obtain ⟨hP, hD⟩ := va_join (wr := [(h_t_stack, .inl (cI, 400, .inl t_stack)), (h_t_written, .inl (cC, 400, .inl t_written))]) (w1 := [(h_t, .inr (10, [.ref h_t_s, .ref h_t_was, .ref h_t_begun, .int t_states, .ref h_t_text, .int t_typed, .ref h_t_wrong, .ref h_t_cost, .ref h_t_first, .ref h_t_block, .ref h_t_many, .ref h_t_stack, .int t_height, .ref h_t_written, .int t_length, .ref h_t_own, .ref h_t_levelAt, .ref h_t_itemAt, .ref h_t_times, .int t_at, .int t_ownLength, .int t_depth, .int t_deepest, .int t_letters, .int t_repeats, .int t_corrections, .int t_mostCorrections, .int t_place, .int t_reason])), (h_t_block, .inl (cI, 3125, .inl o2.1)), (h_t_cost, .inl (cI, 3125, .inl o2.2.1)), (h_t_first, .inl (cI, 3125, .inl o2.2.2.1)), (h_t_s, .inl (cI, 30, .inl t_s)), (h_t_wrong, .inl (cI, 15625, .inl o2.2.2.2))]) hP hD [0, 1, 2, 3, 4, 7] [5, 6] rfl rfl (by decide) (by decide) hk1 hFc hP1 hD1
    generalize H1 = H at hP hS ⊢
    have hP : va_P (dC, dI) vwCl [(h_t_stack, .inl (cI, 400, .inl t_stack)), (h_t_written, .inl (cC, 400, .inl t_written)), (h_t, .inr (10, [.ref h_t_s, .ref h_t_was, .ref h_t_begun, .int t_states, .ref h_t_text, .int t_typed, .ref h_t_wrong, .ref h_t_cost, .ref h_t_first, .ref h_t_block, .ref h_t_many, .ref h_t_stack, .int t_height, .ref h_t_written, .int t_length, .ref h_t_own, .ref h_t_levelAt, .ref h_t_itemAt, .ref h_t_times, .int t_at, .int t_ownLength, .int t_depth, .int t_deepest, .int t_letters, .int t_repeats, .int t_corrections, .int t_mostCorrections, .int t_place, .int t_reason])), (h_t_block, .inl (cI, 3125, .inl o2.1)), (h_t_cost, .inl (cI, 3125, .inl o2.2.1)), (h_t_first, .inl (cI, 3125, .inl o2.2.2.1)), (h_t_s, .inl (cI, 30, .inl t_s)), (h_t_wrong, .inl (cI, 15625, .inl o2.2.2.2))] H := hP
    have hD : va_D A [(h_t_stack, .inl (cI, 400, .inl t_stack)), (h_t_written, .inl (cC, 400, .inl t_written)), (h_t, .inr (10, [.ref h_t_s, .ref h_t_was, .ref h_t_begun, .int t_states, .ref h_t_text, .int t_typed, .ref h_t_wrong, .ref h_t_cost, .ref h_t_first, .ref h_t_block, .ref h_t_many, .ref h_t_stack, .int t_height, .ref h_t_written, .int t_length, .ref h_t_own, .ref h_t_levelAt, .ref h_t_itemAt, .ref h_t_times, .int t_at, .int t_ownLength, .int t_depth, .int t_deepest, .int t_letters, .int t_repeats, .int t_corrections, .int t_mostCorrections, .int t_place, .int t_reason])), (h_t_block, .inl (cI, 3125, .inl o2.1)), (h_t_cost, .inl (cI, 3125, .inl o2.2.1)), (h_t_first, .inl (cI, 3125, .inl o2.2.2.1)), (h_t_s, .inl (cI, 30, .inl t_s)), (h_t_wrong, .inl (cI, 15625, .inl o2.2.2.2))] := hD
    refine lv_aload_n hx hb dX11_textAt_11 rfl (lv_at hl 0 rfl) ?_
    refine lv_iconst (v := (0 : Int32)) hx hb dX11_textAt_12 (by decide) ?_
    refine lv_aload_n hx hb dX11_textAt_13 rfl (lv_at hl 0 rfl) ?_
    refine va_get (D := (dC, dI)) (ci := 10) (v := .ref h_t_s) (C := RX11) (T := TX11) (N := 29) hx hb hts iMD_textAt_X11_textAt_1 hown hK hP 2 rfl rfl 0 (by decide) (hts _ kMD_textAt_X11_textAt_0) (fun _ h9 => h9) rfl dX11_textAt_14 ?_
    refine lv_iconst (v := (0 : Int32)) hx hb dX11_textAt_17 (by decide) ?_
    refine va_iald hx hb hK hP 6 0 rfl rfl (vin (by decide)) dX11_textAt_18 ?_
    obtain ⟨o3, ho3, hres⟩ := bd_of hres
    have hPc := hP.sub (ws' := [(h_t, .inr (10, [.ref h_t_s, .ref h_t_was, .ref h_t_begun, .int t_states, .ref h_t_text, .int t_typed, .ref h_t_wrong, .ref h_t_cost, .ref h_t_first, .ref h_t_block, .ref h_t_many, .ref h_t_stack, .int t_height, .ref h_t_written, .int t_length, .ref h_t_own, .ref h_t_levelAt, .ref h_t_itemAt, .ref h_t_times, .int t_at, .int t_ownLength, .int t_depth, .int t_deepest, .int t_letters, .int t_repeats, .int t_corrections, .int t_mostCorrections, .int t_place, .int t_reason])), (h_t_block, .inl (cI, 3125, .inl o2.1)), (h_t_first, .inl (cI, 3125, .inl o2.2.2.1)), (h_t_s, .inl (cI, 30, .inl t_s)), (h_t_stack, .inl (cI, 400, .inl t_stack)), (h_t_written, .inl (cC, 400, .inl t_written))]) [2, 3, 5, 6, 0, 1] rfl
    have hDc := hD.sub (ws' := [(h_t, .inr (10, [.ref h_t_s, .ref h_t_was, .ref h_t_begun, .int t_states, .ref h_t_text, .int t_typed, .ref h_t_wrong, .ref h_t_cost, .ref h_t_first, .ref h_t_block, .ref h_t_many, .ref h_t_stack, .int t_height, .ref h_t_written, .int t_length, .ref h_t_own, .ref h_t_levelAt, .ref h_t_itemAt, .ref h_t_times, .int t_at, .int t_ownLength, .int t_depth, .int t_deepest, .int t_letters, .int t_repeats, .int t_corrections, .int t_mostCorrections, .int t_place, .int t_reason])), (h_t_block, .inl (cI, 3125, .inl o2.1)), (h_t_first, .inl (cI, 3125, .inl o2.2.2.1)), (h_t_s, .inl (cI, 30, .inl t_s)), (h_t_stack, .inl (cI, 400, .inl t_stack)), (h_t_written, .inl (cC, 400, .inl t_written))]) [2, 3, 5, 6, 0, 1] (by decide) rfl
    have hFc := va_free (wc := [(h_t, .inr (10, [.ref h_t_s, .ref h_t_was, .ref h_t_begun, .int t_states, .ref h_t_text, .int t_typed, .ref h_t_wrong, .ref h_t_cost, .ref h_t_first, .ref h_t_block, .ref h_t_many, .ref h_t_stack, .int t_height, .ref h_t_written, .int t_length, .ref h_t_own, .ref h_t_levelAt, .ref h_t_itemAt, .ref h_t_times, .int t_at, .int t_ownLength, .int t_depth, .int t_deepest, .int t_letters, .int t_repeats, .int t_corrections, .int t_mostCorrections, .int t_place, .int t_reason])), (h_t_block, .inl (cI, 3125, .inl o2.1)), (h_t_first, .inl (cI, 3125, .inl o2.2.2.1)), (h_t_s, .inl (cI, 30, .inl t_s)), (h_t_stack, .inl (cI, 400, .inl t_stack)), (h_t_written, .inl (cC, 400, .inl t_written))]) hD hS hA [2, 3, 5, 6, 0, 1] rfl
    refine va_callv (va_runV (As := [.int (0 : Int32), .int (rd t_s (0 : Int32))]) (rest := []) ⟨hx, hb, hml, hown, hts⟩ (cMD_describes l dC dI cI cJ cC cS h_t h_t_s h_t_was h_t_begun h_t_text h_t_wrong h_t_cost h_t_first h_t_block h_t_many h_t_stack h_t_written h_t_own h_t_levelAt h_t_itemAt h_t_times H.size t_states t_typed t_height t_length t_at t_ownLength t_depth t_deepest t_letters t_repeats t_corrections t_mostCorrections t_place t_reason o2.1 o2.2.2.1 t_s t_stack t_written (0 : Int32) (rd t_s (0 : Int32)) o3.1 o3.2.1 o3.2.2.1 o3.2.2.2 ho3) (cwV 2 hts gX11_textAt_X11_describes rfl rfl rfl (by decide +kernel) ⟨Nat.le_of_ble_eq_true rfl, Nat.le_of_ble_eq_true rfl⟩) ⟨fun a U g mk q => by obtain ⟨q0, q1, qP, qK, qN, qD⟩ := q; exact ⟨q0, q1, qP, va_K.moved (u := U) (U := U.calling g mk a) (Vm.Alike.refl U.vm) qK, nwS (u := U) (U := U.calling g mk a) rfl qN, qD⟩, va_recv hK hPc (ci := 10) (q0 := 0) rfl rfl, fun U hU hW => ⟨rfl, by rw [hU], by rw [hU]; exact hPc, va_K.moved hW.alike hK, nwW hW hN, hDc.weaken (fun _ _ _ _ => trivial)⟩⟩ rfl rfl hl.1 rfl (lv_room (Nat.le_of_ble_eq_true rfl)) dX11_textAt_19 ⟨Nat.zero_le _, Nat.zero_le _⟩) hS (fun q _ h => hFc q h) hFc (fun u9 t H1 locs ht hvm hw hB hz1 hk1 hS => ?_)
    obtain ⟨hP1, hK1, hD1⟩ := hB
    rw [ht] at hP1
    obtain ⟨hP, hD⟩ := va_join (wr := [(h_t_cost, .inl (cI, 3125, .inl o2.2.1)), (h_t_wrong, .inl (cI, 15625, .inl o2.2.2.2))]) (w1 := [(h_t, .inr (10, [.ref h_t_s, .ref h_t_was, .ref h_t_begun, .int t_states, .ref h_t_text, .int t_typed, .ref h_t_wrong, .ref h_t_cost, .ref h_t_first, .ref h_t_block, .ref h_t_many, .ref h_t_stack, .int o3.1, .ref h_t_written, .int o3.2.1, .ref h_t_own, .ref h_t_levelAt, .ref h_t_itemAt, .ref h_t_times, .int t_at, .int t_ownLength, .int t_depth, .int t_deepest, .int t_letters, .int t_repeats, .int t_corrections, .int t_mostCorrections, .int t_place, .int t_reason])), (h_t_block, .inl (cI, 3125, .inl o2.1)), (h_t_first, .inl (cI, 3125, .inl o2.2.2.1)), (h_t_s, .inl (cI, 30, .inl t_s)), (h_t_stack, .inl (cI, 400, .inl o3.2.2.1)), (h_t_written, .inl (cC, 400, .inl o3.2.2.2))]) hP hD [2, 3, 5, 6, 0, 1] [4, 7] rfl rfl (by decide) (by decide) hk1 hFc hP1 hD1
    generalize H1 = H at hP hS ⊢
    have hP : va_P (dC, dI) vwCl [(h_t_cost, .inl (cI, 3125, .inl o2.2.1)), (h_t_wrong, .inl (cI, 15625, .inl o2.2.2.2)), (h_t, .inr (10, [.ref h_t_s, .ref h_t_was, .ref h_t_begun, .int t_states, .ref h_t_text, .int t_typed, .ref h_t_wrong, .ref h_t_cost, .ref h_t_first, .ref h_t_block, .ref h_t_many, .ref h_t_stack, .int o3.1, .ref h_t_written, .int o3.2.1, .ref h_t_own, .ref h_t_levelAt, .ref h_t_itemAt, .ref h_t_times, .int t_at, .int t_ownLength, .int t_depth, .int t_deepest, .int t_letters, .int t_repeats, .int t_corrections, .int t_mostCorrections, .int t_place, .int t_reason])), (h_t_block, .inl (cI, 3125, .inl o2.1)), (h_t_first, .inl (cI, 3125, .inl o2.2.2.1)), (h_t_s, .inl (cI, 30, .inl t_s)), (h_t_stack, .inl (cI, 400, .inl o3.2.2.1)), (h_t_written, .inl (cC, 400, .inl o3.2.2.2))] H := hP
    have hD : va_D A [(h_t_cost, .inl (cI, 3125, .inl o2.2.1)), (h_t_wrong, .inl (cI, 15625, .inl o2.2.2.2)), (h_t, .inr (10, [.ref h_t_s, .ref h_t_was, .ref h_t_begun, .int t_states, .ref h_t_text, .int t_typed, .ref h_t_wrong, .ref h_t_cost, .ref h_t_first, .ref h_t_block, .ref h_t_many, .ref h_t_stack, .int o3.1, .ref h_t_written, .int o3.2.1, .ref h_t_own, .ref h_t_levelAt, .ref h_t_itemAt, .ref h_t_times, .int t_at, .int t_ownLength, .int t_depth, .int t_deepest, .int t_letters, .int t_repeats, .int t_corrections, .int t_mostCorrections, .int t_place, .int t_reason])), (h_t_block, .inl (cI, 3125, .inl o2.1)), (h_t_first, .inl (cI, 3125, .inl o2.2.2.1)), (h_t_s, .inl (cI, 30, .inl t_s)), (h_t_stack, .inl (cI, 400, .inl o3.2.2.1)), (h_t_written, .inl (cC, 400, .inl o3.2.2.2))] := hD
    refine lv_iload_n hx hb dX11_textAt_22 rfl (lv_at hl 1 rfl) ?_
    refine lv_aload_n hx hb dX11_textAt_23 rfl (lv_at hl 0 rfl) ?_
    refine va_get (D := (dC, dI)) (ci := 10) (v := .int o3.2.1) (C := RX11) (T := TX11) (N := 29) hx hb hts iMD_textAt_X11_textAt_1 hown hK hP 2 rfl rfl 14 (by decide) (hts _ kMD_textAt_X11_textAt_2) (fun _ h9 => h9) rfl dX11_textAt_24 ?_
    refine lv_icmp_ge (tgt := 39) hx hb dX11_textAt_27 (by decide) (fun c_4 => ?_) (fun c_4 => ?_)
    · have hres := it_of hres c_4
      refine lv_ldc (v := (-1000004 : Int32)) hx hb hown (hts _ kMD_textAt_X11_textAt_3) dX11_textAt_39 ?_
      obtain ⟨e9_0, e9_1, e9_2, e9_3, e9_4, e9_5, e9_6, e9_7, e9_8⟩ := tup9 hres
      subst e9_0
      subst e9_1
      subst e9_2
      subst e9_3
      subst e9_4
      subst e9_5
      subst e9_6
      subst e9_7
      subst e9_8
      rw [← hQQ]
      exact W.iret (v := (-1000004 : Int32)) hx hb hr (fun t ht hW => ⟨⟨(-1000004 : Int32), (), rfl, rfl, by rw [ht]; exact hP.sub [2, 3, 0, 4, 5, 6, 7, 1] rfl, va_K.moved hW.alike hK, hD.sub [2, 3, 0, 4, 5, 6, 7, 1] (by decide) rfl⟩, hS.F ht⟩) hS.2.2 dX11_textAt_41
    · have hres := ie_of hres c_4
      refine lv_aload_n hx hb dX11_textAt_30 rfl (lv_at hl 0 rfl) ?_
      refine va_get (D := (dC, dI)) (ci := 10) (v := .ref h_t_written) (C := RX11) (T := TX11) (N := 29) hx hb hts iMD_textAt_X11_textAt_1 hown hK hP 2 rfl rfl 13 (by decide) (hts _ kMD_textAt_X11_textAt_4) (fun _ h9 => h9) rfl dX11_textAt_31 ?_
      refine lv_iload_n hx hb dX11_textAt_34 rfl (lv_at hl 1 rfl) ?_
      obtain ⟨c_5, hres⟩ := ck_of hres
      refine va_cald hx hb hK hP 7 2 rfl rfl c_5 dX11_textAt_35 ?_
      refine lv_goto (tgt := 41) hx hb dX11_textAt_36 (by decide) ?_
      obtain ⟨e9_0, e9_1, e9_2, e9_3, e9_4, e9_5, e9_6, e9_7, e9_8⟩ := tup9 hres
      subst e9_0
      subst e9_1
      subst e9_2
      subst e9_3
      subst e9_4
      subst e9_5
      subst e9_6
      subst e9_7
      subst e9_8
      rw [← hQQ]
      exact W.iret (v := (rd o3.2.2.2 x1)) hx hb hr (fun t ht hW => ⟨⟨(rd o3.2.2.2 x1), (), rfl, rfl, by rw [ht]; exact hP.sub [2, 3, 0, 4, 5, 6, 7, 1] rfl, va_K.moved hW.alike hK, hD.sub [2, 3, 0, 4, 5, 6, 7, 1] (by decide) rfl⟩, hS.F ht⟩) hS.2.2 dX11_textAt_41
  · have hres := ie_of hres c_1
    refine lv_ldc (v := (-1000001 : Int32)) hx hb hown (hts _ kMD_textAt_X11_textAt_5) dX11_textAt_4 ?_
    obtain ⟨e9_0, e9_1, e9_2, e9_3, e9_4, e9_5, e9_6, e9_7, e9_8⟩ := tup9 hres
    subst e9_0
    subst e9_1
    subst e9_2
    subst e9_3
    subst e9_4
    subst e9_5
    subst e9_6
    subst e9_7
    subst e9_8
    rw [← hQQ]
    exact W.iret (v := (-1000001 : Int32)) hx hb hr (fun t ht hW => ⟨⟨(-1000001 : Int32), (), rfl, rfl, by rw [ht]; exact hP, va_K.moved hW.alike hK, hD⟩, hS.F ht⟩) hS.2.2 dX11_textAt_6

-- MD_told
theorem kMD_told_X11_told_0 : Cond.fieldLink RX11 179 "RepeatNestsModel" "letters" "I" ∈ wsX11_told := by decide +kernel
theorem iMD_told_X11_told_1 : ∀ w ∈ wsX110, w ∈ wsX11_told := by decide +kernel
theorem kMD_told_X11_told_2 : Cond.fieldLink RX11 7 "RepeatNestsModel" "s" "[I" ∈ wsX11_told := by decide +kernel
theorem kMD_told_X11_told_3 : Cond.fieldLink RX11 189 "RepeatNestsModel" "repeats" "I" ∈ wsX11_told := by decide +kernel
theorem kMD_told_X11_told_4 : Cond.fieldLink RX11 192 "RepeatNestsModel" "corrections" "I" ∈ wsX11_told := by decide +kernel
theorem kMD_told_X11_told_5 : Cond.fieldLink RX11 173 "RepeatNestsModel" "ownLength" "I" ∈ wsX11_told := by decide +kernel
theorem kMD_told_X11_told_6 : Cond.fieldLink RX11 186 "RepeatNestsModel" "deepest" "I" ∈ wsX11_told := by decide +kernel
theorem kMD_told_X11_told_7 : Cond.fieldLink RX11 199 "RepeatNestsModel" "mostCorrections" "I" ∈ wsX11_told := by decide +kernel
theorem kMD_told_X11_told_8 : Cond.constant RX11 79 (-1000004) ∈ wsX11_told := by decide +kernel
theorem kMD_told_X11_told_9 : Cond.fieldLink RX11 45 "RepeatNestsModel" "own" "[I" ∈ wsX11_told := by decide +kernel
theorem kMD_told_X11_told_10 : Cond.constant RX11 74 (-1000002) ∈ wsX11_told := by decide +kernel
theorem kMD_told_X11_told_11 : Cond.constant RX11 57 (-1000001) ∈ wsX11_told := by decide +kernel
set_option maxHeartbeats 4000000 in
set_option maxRecDepth 100000 in
theorem cMD_told (l : Launch) (dC : Nat → ClassId) (dI : Nat → Nat → Nat) (cI cJ cC cS : ClassId) (h_t h_t_s h_t_was h_t_begun h_t_text h_t_wrong h_t_cost h_t_first h_t_block h_t_many h_t_stack h_t_written h_t_own h_t_levelAt h_t_itemAt h_t_times : Nat) (sz : Nat) (t_states : Int32) (t_typed : Int32) (t_height : Int32) (t_length : Int32) (t_at : Int32) (t_ownLength : Int32) (t_depth : Int32) (t_deepest : Int32) (t_letters : Int32) (t_repeats : Int32) (t_corrections : Int32) (t_mostCorrections : Int32) (t_place : Int32) (t_reason : Int32) (t_itemAt : Nat → Int32) (t_levelAt : Nat → Int32) (t_own : Nat → Int32) (t_s : Nat → Int32) (t_text : Nat → Int32) (t_times : Nat → Int32) (x1 : Int32) (r : Int32) (y_t_at : Int32) (y_t_ownLength : Int32) (y_t_depth : Int32) (y_t_deepest : Int32) (y_t_letters : Int32) (y_t_repeats : Int32) (y_t_corrections : Int32) (y_t_mostCorrections : Int32) (y_t_place : Int32) (y_t_reason : Int32) (y_t_itemAt : Nat → Int32) (y_t_levelAt : Nat → Int32) (y_t_own : Nat → Int32) (y_t_times : Nat → Int32) (hres : fMD_told t_typed t_s t_text t_at t_ownLength t_depth t_deepest t_letters t_repeats t_corrections t_mostCorrections t_place t_reason t_itemAt t_levelAt t_own t_times x1 = some (r, y_t_at, y_t_ownLength, y_t_depth, y_t_deepest, y_t_letters, y_t_repeats, y_t_corrections, y_t_mostCorrections, y_t_place, y_t_reason, y_t_itemAt, y_t_levelAt, y_t_own, y_t_times)) :
    Met l yX11_told wsX11_told ({ frames := 5, cells := 0, slots := 0, locals := 120 } : Room) (va_Pc [.ref h_t, .int x1] (fun (U : State) => U.heap.size = sz ∧ va_P (dC, dI) vwCl [(h_t, .inr (10, [.ref h_t_s, .ref h_t_was, .ref h_t_begun, .int t_states, .ref h_t_text, .int t_typed, .ref h_t_wrong, .ref h_t_cost, .ref h_t_first, .ref h_t_block, .ref h_t_many, .ref h_t_stack, .int t_height, .ref h_t_written, .int t_length, .ref h_t_own, .ref h_t_levelAt, .ref h_t_itemAt, .ref h_t_times, .int t_at, .int t_ownLength, .int t_depth, .int t_deepest, .int t_letters, .int t_repeats, .int t_corrections, .int t_mostCorrections, .int t_place, .int t_reason])), (h_t_itemAt, .inl (cI, 62, .inl t_itemAt)), (h_t_levelAt, .inl (cI, 62, .inl t_levelAt)), (h_t_own, .inl (cI, 1500, .inl t_own)), (h_t_s, .inl (cI, 30, .inl t_s)), (h_t_text, .inl (cC, 60, .inl t_text)), (h_t_times, .inl (cI, 62, .inl t_times))] U.heap ∧ va_K (dC, dI) vwCl (tyA cI cJ cC cS) U ∧ nwN U ∧ va_D (fun _ => True) [(h_t, .inr (10, [.ref h_t_s, .ref h_t_was, .ref h_t_begun, .int t_states, .ref h_t_text, .int t_typed, .ref h_t_wrong, .ref h_t_cost, .ref h_t_first, .ref h_t_block, .ref h_t_many, .ref h_t_stack, .int t_height, .ref h_t_written, .int t_length, .ref h_t_own, .ref h_t_levelAt, .ref h_t_itemAt, .ref h_t_times, .int t_at, .int t_ownLength, .int t_depth, .int t_deepest, .int t_letters, .int t_repeats, .int t_corrections, .int t_mostCorrections, .int t_place, .int t_reason])), (h_t_itemAt, .inl (cI, 62, .inl t_itemAt)), (h_t_levelAt, .inl (cI, 62, .inl t_levelAt)), (h_t_own, .inl (cI, 1500, .inl t_own)), (h_t_s, .inl (cI, 30, .inl t_s)), (h_t_text, .inl (cC, 60, .inl t_text)), (h_t_times, .inl (cI, 62, .inl t_times))])) (va_Qi (fun (r9 : Int32) (_ : Unit) => r9 = r) (fun (_ : Unit) (t : State) => va_P (dC, dI) vwCl [(h_t, .inr (10, [.ref h_t_s, .ref h_t_was, .ref h_t_begun, .int t_states, .ref h_t_text, .int t_typed, .ref h_t_wrong, .ref h_t_cost, .ref h_t_first, .ref h_t_block, .ref h_t_many, .ref h_t_stack, .int t_height, .ref h_t_written, .int t_length, .ref h_t_own, .ref h_t_levelAt, .ref h_t_itemAt, .ref h_t_times, .int y_t_at, .int y_t_ownLength, .int y_t_depth, .int y_t_deepest, .int y_t_letters, .int y_t_repeats, .int y_t_corrections, .int y_t_mostCorrections, .int y_t_place, .int y_t_reason])), (h_t_itemAt, .inl (cI, 62, .inl y_t_itemAt)), (h_t_levelAt, .inl (cI, 62, .inl y_t_levelAt)), (h_t_own, .inl (cI, 1500, .inl y_t_own)), (h_t_s, .inl (cI, 30, .inl t_s)), (h_t_text, .inl (cC, 60, .inl t_text)), (h_t_times, .inl (cI, 62, .inl y_t_times))] t.heap ∧ va_K (dC, dI) vwCl (tyA cI cJ cC cS) t ∧ va_D (va_A [(h_t, .inr (10, [.ref h_t_s, .ref h_t_was, .ref h_t_begun, .int t_states, .ref h_t_text, .int t_typed, .ref h_t_wrong, .ref h_t_cost, .ref h_t_first, .ref h_t_block, .ref h_t_many, .ref h_t_stack, .int t_height, .ref h_t_written, .int t_length, .ref h_t_own, .ref h_t_levelAt, .ref h_t_itemAt, .ref h_t_times, .int t_at, .int t_ownLength, .int t_depth, .int t_deepest, .int t_letters, .int t_repeats, .int t_corrections, .int t_mostCorrections, .int t_place, .int t_reason])), (h_t_itemAt, .inl (cI, 62, .inl t_itemAt)), (h_t_levelAt, .inl (cI, 62, .inl t_levelAt)), (h_t_own, .inl (cI, 1500, .inl t_own)), (h_t_s, .inl (cI, 30, .inl t_s)), (h_t_text, .inl (cC, 60, .inl t_text)), (h_t_times, .inl (cI, 62, .inl t_times))] sz) [(h_t, .inr (10, [.ref h_t_s, .ref h_t_was, .ref h_t_begun, .int t_states, .ref h_t_text, .int t_typed, .ref h_t_wrong, .ref h_t_cost, .ref h_t_first, .ref h_t_block, .ref h_t_many, .ref h_t_stack, .int t_height, .ref h_t_written, .int t_length, .ref h_t_own, .ref h_t_levelAt, .ref h_t_itemAt, .ref h_t_times, .int y_t_at, .int y_t_ownLength, .int y_t_depth, .int y_t_deepest, .int y_t_letters, .int y_t_repeats, .int y_t_corrections, .int y_t_mostCorrections, .int y_t_place, .int y_t_reason])), (h_t_itemAt, .inl (cI, 62, .inl y_t_itemAt)), (h_t_levelAt, .inl (cI, 62, .inl y_t_levelAt)), (h_t_own, .inl (cI, 1500, .inl y_t_own)), (h_t_s, .inl (cI, 30, .inl t_s)), (h_t_text, .inl (cC, 60, .inl t_text)), (h_t_times, .inl (cI, 62, .inl y_t_times))]) (va_A [(h_t, .inr (10, [.ref h_t_s, .ref h_t_was, .ref h_t_begun, .int t_states, .ref h_t_text, .int t_typed, .ref h_t_wrong, .ref h_t_cost, .ref h_t_first, .ref h_t_block, .ref h_t_many, .ref h_t_stack, .int t_height, .ref h_t_written, .int t_length, .ref h_t_own, .ref h_t_levelAt, .ref h_t_itemAt, .ref h_t_times, .int t_at, .int t_ownLength, .int t_depth, .int t_deepest, .int t_letters, .int t_repeats, .int t_corrections, .int t_mostCorrections, .int t_place, .int t_reason])), (h_t_itemAt, .inl (cI, 62, .inl t_itemAt)), (h_t_levelAt, .inl (cI, 62, .inl t_levelAt)), (h_t_own, .inl (cI, 1500, .inl t_own)), (h_t_s, .inl (cI, 30, .inl t_s)), (h_t_text, .inl (cC, 60, .inl t_text)), (h_t_times, .inl (cI, 62, .inl t_times))] sz)) 0 0 (va_A [(h_t, .inr (10, [.ref h_t_s, .ref h_t_was, .ref h_t_begun, .int t_states, .ref h_t_text, .int t_typed, .ref h_t_wrong, .ref h_t_cost, .ref h_t_first, .ref h_t_block, .ref h_t_many, .ref h_t_stack, .int t_height, .ref h_t_written, .int t_length, .ref h_t_own, .ref h_t_levelAt, .ref h_t_itemAt, .ref h_t_times, .int t_at, .int t_ownLength, .int t_depth, .int t_deepest, .int t_letters, .int t_repeats, .int t_corrections, .int t_mostCorrections, .int t_place, .int t_reason])), (h_t_itemAt, .inl (cI, 62, .inl t_itemAt)), (h_t_levelAt, .inl (cI, 62, .inl t_levelAt)), (h_t_own, .inl (cI, 1500, .inl t_own)), (h_t_s, .inl (cI, 30, .inl t_s)), (h_t_text, .inl (cC, 60, .inl t_text)), (h_t_times, .inl (cI, 62, .inl t_times))] sz) := by
  refine Met.ofW (cc := cX11_told) (maxL := 2) (ret := (some .int)) (by decide) rfl ?_
  intro p e s m args below meth c s₁ B hml hv
  obtain ⟨hargs, hsz, hP, hK, hN, hD0⟩ := hv
  have hx := B.exec
  have hb := B.bytes
  have hr := B.returns
  have hts := atoms_spec (ws := wsX11_told) B.pre
  have hown : s.vm.findClass RX11 = some m.cls := findClass_of_methodNamed B.named
  have hlocks := B.notSynchronized
  subst hsz
  have hD := hD0.self (sz := s.heap.size)
  generalize hAe : va_A [(h_t, .inr (10, [.ref h_t_s, .ref h_t_was, .ref h_t_begun, .int t_states, .ref h_t_text, .int t_typed, .ref h_t_wrong, .ref h_t_cost, .ref h_t_first, .ref h_t_block, .ref h_t_many, .ref h_t_stack, .int t_height, .ref h_t_written, .int t_length, .ref h_t_own, .ref h_t_levelAt, .ref h_t_itemAt, .ref h_t_times, .int t_at, .int t_ownLength, .int t_depth, .int t_deepest, .int t_letters, .int t_repeats, .int t_corrections, .int t_mostCorrections, .int t_place, .int t_reason])), (h_t_itemAt, .inl (cI, 62, .inl t_itemAt)), (h_t_levelAt, .inl (cI, 62, .inl t_levelAt)), (h_t_own, .inl (cI, 1500, .inl t_own)), (h_t_s, .inl (cI, 30, .inl t_s)), (h_t_text, .inl (cC, 60, .inl t_text)), (h_t_times, .inl (cI, 62, .inl t_times))] s.heap.size = A at hD ⊢
  have hA : ∀ q : Nat, s.heap.size ≤ q → A q := fun q h => by rw [← hAe]; exact Or.inr h
  have hS : va_S A s.heap s.heap [] := va_S.rf
  have hP : va_P (dC, dI) vwCl [(h_t, .inr (10, [.ref h_t_s, .ref h_t_was, .ref h_t_begun, .int t_states, .ref h_t_text, .int t_typed, .ref h_t_wrong, .ref h_t_cost, .ref h_t_first, .ref h_t_block, .ref h_t_many, .ref h_t_stack, .int t_height, .ref h_t_written, .int t_length, .ref h_t_own, .ref h_t_levelAt, .ref h_t_itemAt, .ref h_t_times, .int t_at, .int t_ownLength, .int t_depth, .int t_deepest, .int t_letters, .int t_repeats, .int t_corrections, .int t_mostCorrections, .int t_place, .int t_reason])), (h_t_itemAt, .inl (cI, 62, .inl t_itemAt)), (h_t_levelAt, .inl (cI, 62, .inl t_levelAt)), (h_t_own, .inl (cI, 1500, .inl t_own)), (h_t_s, .inl (cI, 30, .inl t_s)), (h_t_text, .inl (cC, 60, .inl t_text)), (h_t_times, .inl (cI, 62, .inl t_times))] s.heap := hP
  have hl := lv_entry [.ref h_t, .int x1] (n := 2) (Nat.le_of_ble_eq_true rfl)
  rw [show entryFrame m args 2 = entryFrame m ([.ref h_t, .int x1] : List Value).toArray 2 from by rw [hargs], lg_entry_eq]
  generalize (lg_sl [.ref h_t, .int x1] ++ List.replicate (2 - (lg_sl [.ref h_t, .int x1]).length) Slot.unset).toArray = ls at hl ⊢
  have hl : lv_has ls 2 [(0, .ref h_t), (1, .int x1)] := hl
  generalize hQQ : MQ below (va_Qi (fun (r9 : Int32) (_ : Unit) => r9 = r) (fun (_ : Unit) (t : State) => va_P (dC, dI) vwCl [(h_t, .inr (10, [.ref h_t_s, .ref h_t_was, .ref h_t_begun, .int t_states, .ref h_t_text, .int t_typed, .ref h_t_wrong, .ref h_t_cost, .ref h_t_first, .ref h_t_block, .ref h_t_many, .ref h_t_stack, .int t_height, .ref h_t_written, .int t_length, .ref h_t_own, .ref h_t_levelAt, .ref h_t_itemAt, .ref h_t_times, .int y_t_at, .int y_t_ownLength, .int y_t_depth, .int y_t_deepest, .int y_t_letters, .int y_t_repeats, .int y_t_corrections, .int y_t_mostCorrections, .int y_t_place, .int y_t_reason])), (h_t_itemAt, .inl (cI, 62, .inl y_t_itemAt)), (h_t_levelAt, .inl (cI, 62, .inl y_t_levelAt)), (h_t_own, .inl (cI, 1500, .inl y_t_own)), (h_t_s, .inl (cI, 30, .inl t_s)), (h_t_text, .inl (cC, 60, .inl t_text)), (h_t_times, .inl (cI, 62, .inl y_t_times))] t.heap ∧ va_K (dC, dI) vwCl (tyA cI cJ cC cS) t ∧ va_D A [(h_t, .inr (10, [.ref h_t_s, .ref h_t_was, .ref h_t_begun, .int t_states, .ref h_t_text, .int t_typed, .ref h_t_wrong, .ref h_t_cost, .ref h_t_first, .ref h_t_block, .ref h_t_many, .ref h_t_stack, .int t_height, .ref h_t_written, .int t_length, .ref h_t_own, .ref h_t_levelAt, .ref h_t_itemAt, .ref h_t_times, .int y_t_at, .int y_t_ownLength, .int y_t_depth, .int y_t_deepest, .int y_t_letters, .int y_t_repeats, .int y_t_corrections, .int y_t_mostCorrections, .int y_t_place, .int y_t_reason])), (h_t_itemAt, .inl (cI, 62, .inl y_t_itemAt)), (h_t_levelAt, .inl (cI, 62, .inl y_t_levelAt)), (h_t_own, .inl (cI, 1500, .inl y_t_own)), (h_t_s, .inl (cI, 30, .inl t_s)), (h_t_text, .inl (cC, 60, .inl t_text)), (h_t_times, .inl (cI, 62, .inl y_t_times))]) A) args s 0 0 A = QQ
  obtain ⟨H, hH⟩ : ∃ H : Heap, H = s.heap := ⟨_, rfl⟩
  obtain ⟨locs, hlocs⟩ : ∃ locs : List Loc, locs = [] := ⟨_, rfl⟩
  rw [← hH] at hP
  have hS : va_S A s.heap H locs := by rw [hH, hlocs]; exact hS
  suffices hZ : W p l e (headSpec wsX11_told ({ frames := 5, cells := 0, slots := 0, locals := 120 } : Room)).room s m args below meth c H locs 0 0 QQ (F0 m 0 ls []) by rw [hH, hlocs] at hZ; exact hZ
  clear hH hlocs
  have hK23 : ∀ (t_at : Int32) (t_ownLength : Int32) (t_depth : Int32) (t_deepest : Int32) (t_letters : Int32) (t_repeats : Int32) (t_corrections : Int32) (t_mostCorrections : Int32) (t_place : Int32) (t_reason : Int32) (t_itemAt : Nat → Int32) (t_levelAt : Nat → Int32) (t_own : Nat → Int32) (t_times : Nat → Int32) (H : Heap) (locs : List Loc) (ls : Array Slot), fMD_told_23 t_typed t_s t_text x1 t_at t_ownLength t_depth t_deepest t_letters t_repeats t_corrections t_mostCorrections t_place t_reason t_itemAt t_levelAt t_own t_times = some (r, y_t_at, y_t_ownLength, y_t_depth, y_t_deepest, y_t_letters, y_t_repeats, y_t_corrections, y_t_mostCorrections, y_t_place, y_t_reason, y_t_itemAt, y_t_levelAt, y_t_own, y_t_times) → va_P (dC, dI) vwCl [(h_t, .inr (10, [.ref h_t_s, .ref h_t_was, .ref h_t_begun, .int t_states, .ref h_t_text, .int t_typed, .ref h_t_wrong, .ref h_t_cost, .ref h_t_first, .ref h_t_block, .ref h_t_many, .ref h_t_stack, .int t_height, .ref h_t_written, .int t_length, .ref h_t_own, .ref h_t_levelAt, .ref h_t_itemAt, .ref h_t_times, .int t_at, .int t_ownLength, .int t_depth, .int t_deepest, .int t_letters, .int t_repeats, .int t_corrections, .int t_mostCorrections, .int t_place, .int t_reason])), (h_t_itemAt, .inl (cI, 62, .inl t_itemAt)), (h_t_levelAt, .inl (cI, 62, .inl t_levelAt)), (h_t_own, .inl (cI, 1500, .inl t_own)), (h_t_s, .inl (cI, 30, .inl t_s)), (h_t_text, .inl (cC, 60, .inl t_text)), (h_t_times, .inl (cI, 62, .inl t_times))] H → va_D A [(h_t, .inr (10, [.ref h_t_s, .ref h_t_was, .ref h_t_begun, .int t_states, .ref h_t_text, .int t_typed, .ref h_t_wrong, .ref h_t_cost, .ref h_t_first, .ref h_t_block, .ref h_t_many, .ref h_t_stack, .int t_height, .ref h_t_written, .int t_length, .ref h_t_own, .ref h_t_levelAt, .ref h_t_itemAt, .ref h_t_times, .int t_at, .int t_ownLength, .int t_depth, .int t_deepest, .int t_letters, .int t_repeats, .int t_corrections, .int t_mostCorrections, .int t_place, .int t_reason])), (h_t_itemAt, .inl (cI, 62, .inl t_itemAt)), (h_t_levelAt, .inl (cI, 62, .inl t_levelAt)), (h_t_own, .inl (cI, 1500, .inl t_own)), (h_t_s, .inl (cI, 30, .inl t_s)), (h_t_text, .inl (cC, 60, .inl t_text)), (h_t_times, .inl (cI, 62, .inl t_times))] → va_S A s.heap H locs → lv_has ls 2 [(0, .ref h_t), (1, .int x1)] → W p l e (headSpec wsX11_told ({ frames := 5, cells := 0, slots := 0, locals := 120 } : Room)).room s m args below meth c H locs 0 0 QQ (F0 m 23 ls []) := by
    intro t_at t_ownLength t_depth t_deepest t_letters t_repeats t_corrections t_mostCorrections t_place t_reason t_itemAt t_levelAt t_own t_times H locs ls hres hP hD hS hl
    rw [fMD_told_23] at hres
    refine lv_aload_n hx hb dX11_told_23 rfl (lv_at hl 0 rfl) ?_
    obtain ⟨o1, ho1, hres⟩ := bd_of hres
    have hPc := hP.sub (ws' := [(h_t, .inr (10, [.ref h_t_s, .ref h_t_was, .ref h_t_begun, .int t_states, .ref h_t_text, .int t_typed, .ref h_t_wrong, .ref h_t_cost, .ref h_t_first, .ref h_t_block, .ref h_t_many, .ref h_t_stack, .int t_height, .ref h_t_written, .int t_length, .ref h_t_own, .ref h_t_levelAt, .ref h_t_itemAt, .ref h_t_times, .int t_at, .int t_ownLength, .int t_depth, .int t_deepest, .int t_letters, .int t_repeats, .int t_corrections, .int t_mostCorrections, .int t_place, .int t_reason])), (h_t_itemAt, .inl (cI, 62, .inl t_itemAt)), (h_t_levelAt, .inl (cI, 62, .inl t_levelAt)), (h_t_own, .inl (cI, 1500, .inl t_own)), (h_t_text, .inl (cC, 60, .inl t_text)), (h_t_times, .inl (cI, 62, .inl t_times))]) [0, 1, 2, 3, 5, 6] rfl
    have hDc := hD.sub (ws' := [(h_t, .inr (10, [.ref h_t_s, .ref h_t_was, .ref h_t_begun, .int t_states, .ref h_t_text, .int t_typed, .ref h_t_wrong, .ref h_t_cost, .ref h_t_first, .ref h_t_block, .ref h_t_many, .ref h_t_stack, .int t_height, .ref h_t_written, .int t_length, .ref h_t_own, .ref h_t_levelAt, .ref h_t_itemAt, .ref h_t_times, .int t_at, .int t_ownLength, .int t_depth, .int t_deepest, .int t_letters, .int t_repeats, .int t_corrections, .int t_mostCorrections, .int t_place, .int t_reason])), (h_t_itemAt, .inl (cI, 62, .inl t_itemAt)), (h_t_levelAt, .inl (cI, 62, .inl t_levelAt)), (h_t_own, .inl (cI, 1500, .inl t_own)), (h_t_text, .inl (cC, 60, .inl t_text)), (h_t_times, .inl (cI, 62, .inl t_times))]) [0, 1, 2, 3, 5, 6] (by decide) rfl
    have hFc := va_free (wc := [(h_t, .inr (10, [.ref h_t_s, .ref h_t_was, .ref h_t_begun, .int t_states, .ref h_t_text, .int t_typed, .ref h_t_wrong, .ref h_t_cost, .ref h_t_first, .ref h_t_block, .ref h_t_many, .ref h_t_stack, .int t_height, .ref h_t_written, .int t_length, .ref h_t_own, .ref h_t_levelAt, .ref h_t_itemAt, .ref h_t_times, .int t_at, .int t_ownLength, .int t_depth, .int t_deepest, .int t_letters, .int t_repeats, .int t_corrections, .int t_mostCorrections, .int t_place, .int t_reason])), (h_t_itemAt, .inl (cI, 62, .inl t_itemAt)), (h_t_levelAt, .inl (cI, 62, .inl t_levelAt)), (h_t_own, .inl (cI, 1500, .inl t_own)), (h_t_text, .inl (cC, 60, .inl t_text)), (h_t_times, .inl (cI, 62, .inl t_times))]) hD hS hA [0, 1, 2, 3, 5, 6] rfl
    refine va_calli (va_runV (As := []) (rest := []) ⟨hx, hb, hml, hown, hts⟩ (cMD_reads l dC dI cI cJ cC cS h_t h_t_s h_t_was h_t_begun h_t_text h_t_wrong h_t_cost h_t_first h_t_block h_t_many h_t_stack h_t_written h_t_own h_t_levelAt h_t_itemAt h_t_times H.size t_states t_typed t_height t_length t_at t_ownLength t_depth t_deepest t_letters t_repeats t_corrections t_mostCorrections t_place t_reason t_itemAt t_levelAt t_own t_text t_times o1.1 o1.2.1 o1.2.2.1 o1.2.2.2.1 o1.2.2.2.2.1 o1.2.2.2.2.2.1 o1.2.2.2.2.2.2.1 o1.2.2.2.2.2.2.2.1 o1.2.2.2.2.2.2.2.2.1 o1.2.2.2.2.2.2.2.2.2.1 o1.2.2.2.2.2.2.2.2.2.2.1 o1.2.2.2.2.2.2.2.2.2.2.2.1 o1.2.2.2.2.2.2.2.2.2.2.2.2.1 o1.2.2.2.2.2.2.2.2.2.2.2.2.2.1 o1.2.2.2.2.2.2.2.2.2.2.2.2.2.2 ho1) (cwV 0 hts gX11_told_X11_reads rfl rfl rfl (by decide +kernel) ⟨Nat.le_of_ble_eq_true rfl, Nat.le_of_ble_eq_true rfl⟩) ⟨fun a U g mk q => by obtain ⟨q0, q1, qP, qK, qN, qD⟩ := q; exact ⟨q0, q1, qP, va_K.moved (u := U) (U := U.calling g mk a) (Vm.Alike.refl U.vm) qK, nwS (u := U) (U := U.calling g mk a) rfl qN, qD⟩, va_recv hK hPc (ci := 10) (q0 := 0) rfl rfl, fun U hU hW => ⟨rfl, by rw [hU], by rw [hU]; exact hPc, va_K.moved hW.alike hK, nwW hW hN, hDc.weaken (fun _ _ _ _ => trivial)⟩⟩ rfl rfl hl.1 rfl (lv_room (Nat.le_of_ble_eq_true rfl)) dX11_told_24 ⟨Nat.zero_le _, Nat.zero_le _⟩) hS (fun q _ h => hFc q h) hFc (fun r9 u9 t H1 locs ht hvm hw hB hz1 hk1 hS => ?_)
    have hw := hw.symm
    subst hw
    obtain ⟨hP1, hK1, hD1⟩ := hB
    rw [ht] at hP1
    obtain ⟨hP, hD⟩ := va_join (wr := [(h_t_s, .inl (cI, 30, .inl t_s))]) (w1 := [(h_t, .inr (10, [.ref h_t_s, .ref h_t_was, .ref h_t_begun, .int t_states, .ref h_t_text, .int t_typed, .ref h_t_wrong, .ref h_t_cost, .ref h_t_first, .ref h_t_block, .ref h_t_many, .ref h_t_stack, .int t_height, .ref h_t_written, .int t_length, .ref h_t_own, .ref h_t_levelAt, .ref h_t_itemAt, .ref h_t_times, .int o1.2.1, .int o1.2.2.1, .int o1.2.2.2.1, .int o1.2.2.2.2.1, .int o1.2.2.2.2.2.1, .int o1.2.2.2.2.2.2.1, .int o1.2.2.2.2.2.2.2.1, .int o1.2.2.2.2.2.2.2.2.1, .int o1.2.2.2.2.2.2.2.2.2.1, .int o1.2.2.2.2.2.2.2.2.2.2.1])), (h_t_itemAt, .inl (cI, 62, .inl o1.2.2.2.2.2.2.2.2.2.2.2.1)), (h_t_levelAt, .inl (cI, 62, .inl o1.2.2.2.2.2.2.2.2.2.2.2.2.1)), (h_t_own, .inl (cI, 1500, .inl o1.2.2.2.2.2.2.2.2.2.2.2.2.2.1)), (h_t_text, .inl (cC, 60, .inl t_text)), (h_t_times, .inl (cI, 62, .inl o1.2.2.2.2.2.2.2.2.2.2.2.2.2.2))]) hP hD [0, 1, 2, 3, 5, 6] [4] rfl rfl (by decide) (by decide) hk1 hFc hP1 hD1
    generalize H1 = H at hP hS ⊢
    have hP : va_P (dC, dI) vwCl [(h_t_s, .inl (cI, 30, .inl t_s)), (h_t, .inr (10, [.ref h_t_s, .ref h_t_was, .ref h_t_begun, .int t_states, .ref h_t_text, .int t_typed, .ref h_t_wrong, .ref h_t_cost, .ref h_t_first, .ref h_t_block, .ref h_t_many, .ref h_t_stack, .int t_height, .ref h_t_written, .int t_length, .ref h_t_own, .ref h_t_levelAt, .ref h_t_itemAt, .ref h_t_times, .int o1.2.1, .int o1.2.2.1, .int o1.2.2.2.1, .int o1.2.2.2.2.1, .int o1.2.2.2.2.2.1, .int o1.2.2.2.2.2.2.1, .int o1.2.2.2.2.2.2.2.1, .int o1.2.2.2.2.2.2.2.2.1, .int o1.2.2.2.2.2.2.2.2.2.1, .int o1.2.2.2.2.2.2.2.2.2.2.1])), (h_t_itemAt, .inl (cI, 62, .inl o1.2.2.2.2.2.2.2.2.2.2.2.1)), (h_t_levelAt, .inl (cI, 62, .inl o1.2.2.2.2.2.2.2.2.2.2.2.2.1)), (h_t_own, .inl (cI, 1500, .inl o1.2.2.2.2.2.2.2.2.2.2.2.2.2.1)), (h_t_text, .inl (cC, 60, .inl t_text)), (h_t_times, .inl (cI, 62, .inl o1.2.2.2.2.2.2.2.2.2.2.2.2.2.2))] H := hP
    have hD : va_D A [(h_t_s, .inl (cI, 30, .inl t_s)), (h_t, .inr (10, [.ref h_t_s, .ref h_t_was, .ref h_t_begun, .int t_states, .ref h_t_text, .int t_typed, .ref h_t_wrong, .ref h_t_cost, .ref h_t_first, .ref h_t_block, .ref h_t_many, .ref h_t_stack, .int t_height, .ref h_t_written, .int t_length, .ref h_t_own, .ref h_t_levelAt, .ref h_t_itemAt, .ref h_t_times, .int o1.2.1, .int o1.2.2.1, .int o1.2.2.2.1, .int o1.2.2.2.2.1, .int o1.2.2.2.2.2.1, .int o1.2.2.2.2.2.2.1, .int o1.2.2.2.2.2.2.2.1, .int o1.2.2.2.2.2.2.2.2.1, .int o1.2.2.2.2.2.2.2.2.2.1, .int o1.2.2.2.2.2.2.2.2.2.2.1])), (h_t_itemAt, .inl (cI, 62, .inl o1.2.2.2.2.2.2.2.2.2.2.2.1)), (h_t_levelAt, .inl (cI, 62, .inl o1.2.2.2.2.2.2.2.2.2.2.2.2.1)), (h_t_own, .inl (cI, 1500, .inl o1.2.2.2.2.2.2.2.2.2.2.2.2.2.1)), (h_t_text, .inl (cC, 60, .inl t_text)), (h_t_times, .inl (cI, 62, .inl o1.2.2.2.2.2.2.2.2.2.2.2.2.2.2))] := hD
    refine lv_if_ne (tgt := 33) hx hb dX11_told_27 (by decide) (fun c_2 => ?_) (fun c_2 => ?_)
    · have hres := ie_of hres c_2
      refine lv_iload_n hx hb dX11_told_33 rfl (lv_at hl 1 rfl) ?_
      by_cases c_3 : x1 = (0 : Int32)
      · have hres := it_of hres c_3
        refine lv_tableIn (off := 38) (tgt := 72) hx hb dX11_told_34 (by rw [c_3]; decide) (by rw [c_3]; decide) (by rw [c_3]; rfl) (by decide) ?_
        refine lv_aload_n hx hb dX11_told_72 rfl (lv_at hl 0 rfl) ?_
        refine va_get (D := (dC, dI)) (ci := 10) (v := .int o1.2.2.2.2.2.1) (C := RX11) (T := TX11) (N := 29) hx hb hts iMD_told_X11_told_1 hown hK hP 1 rfl rfl 23 (by decide) (hts _ kMD_told_X11_told_0) (fun _ h9 => h9) rfl dX11_told_73 ?_
        refine lv_aload_n hx hb dX11_told_76 rfl (lv_at hl 0 rfl) ?_
        refine va_get (D := (dC, dI)) (ci := 10) (v := .ref h_t_s) (C := RX11) (T := TX11) (N := 29) hx hb hts iMD_told_X11_told_1 hown hK hP 1 rfl rfl 0 (by decide) (hts _ kMD_told_X11_told_2) (fun _ h9 => h9) rfl dX11_told_77 ?_
        refine lv_iconst (v := (1 : Int32)) hx hb dX11_told_80 (by decide) ?_
        refine va_iald hx hb hK hP 0 0 rfl rfl (vin (by decide)) dX11_told_81 ?_
        refine lv_imul hx hb dX11_told_82 ?_
        refine lv_aload_n hx hb dX11_told_83 rfl (lv_at hl 0 rfl) ?_
        refine va_get (D := (dC, dI)) (ci := 10) (v := .int o1.2.2.2.2.2.2.1) (C := RX11) (T := TX11) (N := 29) hx hb hts iMD_told_X11_told_1 hown hK hP 1 rfl rfl 24 (by decide) (hts _ kMD_told_X11_told_3) (fun _ h9 => h9) rfl dX11_told_84 ?_
        refine lv_aload_n hx hb dX11_told_87 rfl (lv_at hl 0 rfl) ?_
        refine va_get (D := (dC, dI)) (ci := 10) (v := .ref h_t_s) (C := RX11) (T := TX11) (N := 29) hx hb hts iMD_told_X11_told_1 hown hK hP 1 rfl rfl 0 (by decide) (hts _ kMD_told_X11_told_2) (fun _ h9 => h9) rfl dX11_told_88 ?_
        refine lv_iconst (v := (2 : Int32)) hx hb dX11_told_91 (by decide) ?_
        refine va_iald hx hb hK hP 0 0 rfl rfl (vin (by decide)) dX11_told_92 ?_
        refine lv_imul hx hb dX11_told_93 ?_
        refine lv_iadd hx hb dX11_told_94 ?_
        refine lv_aload_n hx hb dX11_told_95 rfl (lv_at hl 0 rfl) ?_
        refine va_get (D := (dC, dI)) (ci := 10) (v := .int o1.2.2.2.2.2.2.2.1) (C := RX11) (T := TX11) (N := 29) hx hb hts iMD_told_X11_told_1 hown hK hP 1 rfl rfl 25 (by decide) (hts _ kMD_told_X11_told_4) (fun _ h9 => h9) rfl dX11_told_96 ?_
        refine lv_aload_n hx hb dX11_told_99 rfl (lv_at hl 0 rfl) ?_
        refine va_get (D := (dC, dI)) (ci := 10) (v := .ref h_t_s) (C := RX11) (T := TX11) (N := 29) hx hb hts iMD_told_X11_told_1 hown hK hP 1 rfl rfl 0 (by decide) (hts _ kMD_told_X11_told_2) (fun _ h9 => h9) rfl dX11_told_100 ?_
        refine lv_iconst (v := (3 : Int32)) hx hb dX11_told_103 (by decide) ?_
        refine va_iald hx hb hK hP 0 0 rfl rfl (vin (by decide)) dX11_told_104 ?_
        refine lv_imul hx hb dX11_told_105 ?_
        refine lv_iadd hx hb dX11_told_106 ?_
        obtain ⟨e9_0, e9_1, e9_2, e9_3, e9_4, e9_5, e9_6, e9_7, e9_8, e9_9, e9_10, e9_11, e9_12, e9_13, e9_14⟩ := tup15 hres
        subst e9_0
        subst e9_1
        subst e9_2
        subst e9_3
        subst e9_4
        subst e9_5
        subst e9_6
        subst e9_7
        subst e9_8
        subst e9_9
        subst e9_10
        subst e9_11
        subst e9_12
        subst e9_13
        subst e9_14
        rw [← hQQ]
        exact W.iret (v := (((o1.2.2.2.2.2.1 * (rd t_s (1 : Int32))) + (o1.2.2.2.2.2.2.1 * (rd t_s (2 : Int32)))) + (o1.2.2.2.2.2.2.2.1 * (rd t_s (3 : Int32))))) hx hb hr (fun t ht hW => ⟨⟨(((o1.2.2.2.2.2.1 * (rd t_s (1 : Int32))) + (o1.2.2.2.2.2.2.1 * (rd t_s (2 : Int32)))) + (o1.2.2.2.2.2.2.2.1 * (rd t_s (3 : Int32)))), (), rfl, rfl, by rw [ht]; exact hP.sub [1, 2, 3, 4, 0, 5, 6] rfl, va_K.moved hW.alike hK, hD.sub [1, 2, 3, 4, 0, 5, 6] (by decide) rfl⟩, hS.F ht⟩) hS.2.2 dX11_told_107
      · have hres := ie_of hres c_3
        by_cases c_4 : x1 = (1 : Int32)
        · have hres := it_of hres c_4
          refine lv_tableIn (off := 74) (tgt := 108) hx hb dX11_told_34 (by rw [c_4]; decide) (by rw [c_4]; decide) (by rw [c_4]; rfl) (by decide) ?_
          refine lv_aload_n hx hb dX11_told_108 rfl (lv_at hl 0 rfl) ?_
          refine va_get (D := (dC, dI)) (ci := 10) (v := .int o1.2.2.1) (C := RX11) (T := TX11) (N := 29) hx hb hts iMD_told_X11_told_1 hown hK hP 1 rfl rfl 20 (by decide) (hts _ kMD_told_X11_told_5) (fun _ h9 => h9) rfl dX11_told_109 ?_
          obtain ⟨e9_0, e9_1, e9_2, e9_3, e9_4, e9_5, e9_6, e9_7, e9_8, e9_9, e9_10, e9_11, e9_12, e9_13, e9_14⟩ := tup15 hres
          subst e9_0
          subst e9_1
          subst e9_2
          subst e9_3
          subst e9_4
          subst e9_5
          subst e9_6
          subst e9_7
          subst e9_8
          subst e9_9
          subst e9_10
          subst e9_11
          subst e9_12
          subst e9_13
          subst e9_14
          rw [← hQQ]
          exact W.iret (v := o1.2.2.1) hx hb hr (fun t ht hW => ⟨⟨o1.2.2.1, (), rfl, rfl, by rw [ht]; exact hP.sub [1, 2, 3, 4, 0, 5, 6] rfl, va_K.moved hW.alike hK, hD.sub [1, 2, 3, 4, 0, 5, 6] (by decide) rfl⟩, hS.F ht⟩) hS.2.2 dX11_told_112
        · have hres := ie_of hres c_4
          by_cases c_5 : x1 = (2 : Int32)
          · have hres := it_of hres c_5
            refine lv_tableIn (off := 79) (tgt := 113) hx hb dX11_told_34 (by rw [c_5]; decide) (by rw [c_5]; decide) (by rw [c_5]; rfl) (by decide) ?_
            refine lv_aload_n hx hb dX11_told_113 rfl (lv_at hl 0 rfl) ?_
            refine va_get (D := (dC, dI)) (ci := 10) (v := .int o1.2.2.2.2.1) (C := RX11) (T := TX11) (N := 29) hx hb hts iMD_told_X11_told_1 hown hK hP 1 rfl rfl 22 (by decide) (hts _ kMD_told_X11_told_6) (fun _ h9 => h9) rfl dX11_told_114 ?_
            obtain ⟨e9_0, e9_1, e9_2, e9_3, e9_4, e9_5, e9_6, e9_7, e9_8, e9_9, e9_10, e9_11, e9_12, e9_13, e9_14⟩ := tup15 hres
            subst e9_0
            subst e9_1
            subst e9_2
            subst e9_3
            subst e9_4
            subst e9_5
            subst e9_6
            subst e9_7
            subst e9_8
            subst e9_9
            subst e9_10
            subst e9_11
            subst e9_12
            subst e9_13
            subst e9_14
            rw [← hQQ]
            exact W.iret (v := o1.2.2.2.2.1) hx hb hr (fun t ht hW => ⟨⟨o1.2.2.2.2.1, (), rfl, rfl, by rw [ht]; exact hP.sub [1, 2, 3, 4, 0, 5, 6] rfl, va_K.moved hW.alike hK, hD.sub [1, 2, 3, 4, 0, 5, 6] (by decide) rfl⟩, hS.F ht⟩) hS.2.2 dX11_told_117
          · have hres := ie_of hres c_5
            by_cases c_6 : x1 = (3 : Int32)
            · have hres := it_of hres c_6
              refine lv_tableIn (off := 84) (tgt := 118) hx hb dX11_told_34 (by rw [c_6]; decide) (by rw [c_6]; decide) (by rw [c_6]; rfl) (by decide) ?_
              refine lv_aload_n hx hb dX11_told_118 rfl (lv_at hl 0 rfl) ?_
              refine va_get (D := (dC, dI)) (ci := 10) (v := .int o1.2.2.2.2.2.2.2.1) (C := RX11) (T := TX11) (N := 29) hx hb hts iMD_told_X11_told_1 hown hK hP 1 rfl rfl 25 (by decide) (hts _ kMD_told_X11_told_4) (fun _ h9 => h9) rfl dX11_told_119 ?_
              obtain ⟨e9_0, e9_1, e9_2, e9_3, e9_4, e9_5, e9_6, e9_7, e9_8, e9_9, e9_10, e9_11, e9_12, e9_13, e9_14⟩ := tup15 hres
              subst e9_0
              subst e9_1
              subst e9_2
              subst e9_3
              subst e9_4
              subst e9_5
              subst e9_6
              subst e9_7
              subst e9_8
              subst e9_9
              subst e9_10
              subst e9_11
              subst e9_12
              subst e9_13
              subst e9_14
              rw [← hQQ]
              exact W.iret (v := o1.2.2.2.2.2.2.2.1) hx hb hr (fun t ht hW => ⟨⟨o1.2.2.2.2.2.2.2.1, (), rfl, rfl, by rw [ht]; exact hP.sub [1, 2, 3, 4, 0, 5, 6] rfl, va_K.moved hW.alike hK, hD.sub [1, 2, 3, 4, 0, 5, 6] (by decide) rfl⟩, hS.F ht⟩) hS.2.2 dX11_told_122
            · have hres := ie_of hres c_6
              by_cases c_7 : x1 = (4 : Int32)
              · have hres := it_of hres c_7
                refine lv_tableIn (off := 89) (tgt := 123) hx hb dX11_told_34 (by rw [c_7]; decide) (by rw [c_7]; decide) (by rw [c_7]; rfl) (by decide) ?_
                refine lv_aload_n hx hb dX11_told_123 rfl (lv_at hl 0 rfl) ?_
                refine va_get (D := (dC, dI)) (ci := 10) (v := .int o1.2.2.2.2.2.2.2.2.1) (C := RX11) (T := TX11) (N := 29) hx hb hts iMD_told_X11_told_1 hown hK hP 1 rfl rfl 26 (by decide) (hts _ kMD_told_X11_told_7) (fun _ h9 => h9) rfl dX11_told_124 ?_
                obtain ⟨e9_0, e9_1, e9_2, e9_3, e9_4, e9_5, e9_6, e9_7, e9_8, e9_9, e9_10, e9_11, e9_12, e9_13, e9_14⟩ := tup15 hres
                subst e9_0
                subst e9_1
                subst e9_2
                subst e9_3
                subst e9_4
                subst e9_5
                subst e9_6
                subst e9_7
                subst e9_8
                subst e9_9
                subst e9_10
                subst e9_11
                subst e9_12
                subst e9_13
                subst e9_14
                rw [← hQQ]
                exact W.iret (v := o1.2.2.2.2.2.2.2.2.1) hx hb hr (fun t ht hW => ⟨⟨o1.2.2.2.2.2.2.2.2.1, (), rfl, rfl, by rw [ht]; exact hP.sub [1, 2, 3, 4, 0, 5, 6] rfl, va_K.moved hW.alike hK, hD.sub [1, 2, 3, 4, 0, 5, 6] (by decide) rfl⟩, hS.F ht⟩) hS.2.2 dX11_told_127
              · have hres := ie_of hres c_7
                by_cases c_8 : x1 = (5 : Int32)
                · have hres := it_of hres c_8
                  refine lv_tableIn (off := 94) (tgt := 128) hx hb dX11_told_34 (by rw [c_8]; decide) (by rw [c_8]; decide) (by rw [c_8]; rfl) (by decide) ?_
                  refine lv_aload_n hx hb dX11_told_128 rfl (lv_at hl 0 rfl) ?_
                  obtain ⟨o9, ho9, hres⟩ := bd_of hres
                  have hPc := hP.sub (ws' := [(h_t, .inr (10, [.ref h_t_s, .ref h_t_was, .ref h_t_begun, .int t_states, .ref h_t_text, .int t_typed, .ref h_t_wrong, .ref h_t_cost, .ref h_t_first, .ref h_t_block, .ref h_t_many, .ref h_t_stack, .int t_height, .ref h_t_written, .int t_length, .ref h_t_own, .ref h_t_levelAt, .ref h_t_itemAt, .ref h_t_times, .int o1.2.1, .int o1.2.2.1, .int o1.2.2.2.1, .int o1.2.2.2.2.1, .int o1.2.2.2.2.2.1, .int o1.2.2.2.2.2.2.1, .int o1.2.2.2.2.2.2.2.1, .int o1.2.2.2.2.2.2.2.2.1, .int o1.2.2.2.2.2.2.2.2.2.1, .int o1.2.2.2.2.2.2.2.2.2.2.1])), (h_t_own, .inl (cI, 1500, .inl o1.2.2.2.2.2.2.2.2.2.2.2.2.2.1)), (h_t_s, .inl (cI, 30, .inl t_s))]) [1, 4, 0] rfl
                  have hDc := hD.sub (ws' := [(h_t, .inr (10, [.ref h_t_s, .ref h_t_was, .ref h_t_begun, .int t_states, .ref h_t_text, .int t_typed, .ref h_t_wrong, .ref h_t_cost, .ref h_t_first, .ref h_t_block, .ref h_t_many, .ref h_t_stack, .int t_height, .ref h_t_written, .int t_length, .ref h_t_own, .ref h_t_levelAt, .ref h_t_itemAt, .ref h_t_times, .int o1.2.1, .int o1.2.2.1, .int o1.2.2.2.1, .int o1.2.2.2.2.1, .int o1.2.2.2.2.2.1, .int o1.2.2.2.2.2.2.1, .int o1.2.2.2.2.2.2.2.1, .int o1.2.2.2.2.2.2.2.2.1, .int o1.2.2.2.2.2.2.2.2.2.1, .int o1.2.2.2.2.2.2.2.2.2.2.1])), (h_t_own, .inl (cI, 1500, .inl o1.2.2.2.2.2.2.2.2.2.2.2.2.2.1)), (h_t_s, .inl (cI, 30, .inl t_s))]) [1, 4, 0] (by decide) rfl
                  have hFc := va_free (wc := [(h_t, .inr (10, [.ref h_t_s, .ref h_t_was, .ref h_t_begun, .int t_states, .ref h_t_text, .int t_typed, .ref h_t_wrong, .ref h_t_cost, .ref h_t_first, .ref h_t_block, .ref h_t_many, .ref h_t_stack, .int t_height, .ref h_t_written, .int t_length, .ref h_t_own, .ref h_t_levelAt, .ref h_t_itemAt, .ref h_t_times, .int o1.2.1, .int o1.2.2.1, .int o1.2.2.2.1, .int o1.2.2.2.2.1, .int o1.2.2.2.2.2.1, .int o1.2.2.2.2.2.2.1, .int o1.2.2.2.2.2.2.2.1, .int o1.2.2.2.2.2.2.2.2.1, .int o1.2.2.2.2.2.2.2.2.2.1, .int o1.2.2.2.2.2.2.2.2.2.2.1])), (h_t_own, .inl (cI, 1500, .inl o1.2.2.2.2.2.2.2.2.2.2.2.2.2.1)), (h_t_s, .inl (cI, 30, .inl t_s))]) hD hS hA [1, 4, 0] rfl
                  refine va_calli (va_runV (As := []) (rest := []) ⟨hx, hb, hml, hown, hts⟩ (cMD_isRow l dC dI cI cJ cC cS h_t h_t_s h_t_was h_t_begun h_t_text h_t_wrong h_t_cost h_t_first h_t_block h_t_many h_t_stack h_t_written h_t_own h_t_levelAt h_t_itemAt h_t_times H.size t_states t_typed t_height t_length o1.2.1 o1.2.2.1 o1.2.2.2.1 o1.2.2.2.2.1 o1.2.2.2.2.2.1 o1.2.2.2.2.2.2.1 o1.2.2.2.2.2.2.2.1 o1.2.2.2.2.2.2.2.2.1 o1.2.2.2.2.2.2.2.2.2.1 o1.2.2.2.2.2.2.2.2.2.2.1 o1.2.2.2.2.2.2.2.2.2.2.2.2.2.1 t_s o9 ho9) (cwV 0 hts gX11_told_X11_isRow rfl rfl rfl (by decide +kernel) ⟨Nat.le_of_ble_eq_true rfl, Nat.le_of_ble_eq_true rfl⟩) ⟨fun a U g mk q => by obtain ⟨q0, q1, qP, qK, qN, qD⟩ := q; exact ⟨q0, q1, qP, va_K.moved (u := U) (U := U.calling g mk a) (Vm.Alike.refl U.vm) qK, nwS (u := U) (U := U.calling g mk a) rfl qN, qD⟩, va_recv hK hPc (ci := 10) (q0 := 0) rfl rfl, fun U hU hW => ⟨rfl, by rw [hU], by rw [hU]; exact hPc, va_K.moved hW.alike hK, nwW hW hN, hDc.weaken (fun _ _ _ _ => trivial)⟩⟩ rfl rfl hl.1 rfl (lv_room (Nat.le_of_ble_eq_true rfl)) dX11_told_129 ⟨Nat.zero_le _, Nat.zero_le _⟩) hS (fun q _ h => hFc q h) hFc (fun r9 u9 t H1 locs ht hvm hw hB hz1 hk1 hS => ?_)
                  have hw := hw.symm
                  subst hw
                  obtain ⟨hP1, hK1, hD1⟩ := hB
                  rw [ht] at hP1
                  obtain ⟨hP, hD⟩ := va_join (wr := [(h_t_itemAt, .inl (cI, 62, .inl o1.2.2.2.2.2.2.2.2.2.2.2.1)), (h_t_levelAt, .inl (cI, 62, .inl o1.2.2.2.2.2.2.2.2.2.2.2.2.1)), (h_t_text, .inl (cC, 60, .inl t_text)), (h_t_times, .inl (cI, 62, .inl o1.2.2.2.2.2.2.2.2.2.2.2.2.2.2))]) (w1 := [(h_t, .inr (10, [.ref h_t_s, .ref h_t_was, .ref h_t_begun, .int t_states, .ref h_t_text, .int t_typed, .ref h_t_wrong, .ref h_t_cost, .ref h_t_first, .ref h_t_block, .ref h_t_many, .ref h_t_stack, .int t_height, .ref h_t_written, .int t_length, .ref h_t_own, .ref h_t_levelAt, .ref h_t_itemAt, .ref h_t_times, .int o1.2.1, .int o1.2.2.1, .int o1.2.2.2.1, .int o1.2.2.2.2.1, .int o1.2.2.2.2.2.1, .int o1.2.2.2.2.2.2.1, .int o1.2.2.2.2.2.2.2.1, .int o1.2.2.2.2.2.2.2.2.1, .int o1.2.2.2.2.2.2.2.2.2.1, .int o1.2.2.2.2.2.2.2.2.2.2.1])), (h_t_own, .inl (cI, 1500, .inl o1.2.2.2.2.2.2.2.2.2.2.2.2.2.1)), (h_t_s, .inl (cI, 30, .inl t_s))]) hP hD [1, 4, 0] [2, 3, 5, 6] rfl rfl (by decide) (by decide) hk1 hFc hP1 hD1
                  generalize H1 = H at hP hS ⊢
                  have hP : va_P (dC, dI) vwCl [(h_t_itemAt, .inl (cI, 62, .inl o1.2.2.2.2.2.2.2.2.2.2.2.1)), (h_t_levelAt, .inl (cI, 62, .inl o1.2.2.2.2.2.2.2.2.2.2.2.2.1)), (h_t_text, .inl (cC, 60, .inl t_text)), (h_t_times, .inl (cI, 62, .inl o1.2.2.2.2.2.2.2.2.2.2.2.2.2.2)), (h_t, .inr (10, [.ref h_t_s, .ref h_t_was, .ref h_t_begun, .int t_states, .ref h_t_text, .int t_typed, .ref h_t_wrong, .ref h_t_cost, .ref h_t_first, .ref h_t_block, .ref h_t_many, .ref h_t_stack, .int t_height, .ref h_t_written, .int t_length, .ref h_t_own, .ref h_t_levelAt, .ref h_t_itemAt, .ref h_t_times, .int o1.2.1, .int o1.2.2.1, .int o1.2.2.2.1, .int o1.2.2.2.2.1, .int o1.2.2.2.2.2.1, .int o1.2.2.2.2.2.2.1, .int o1.2.2.2.2.2.2.2.1, .int o1.2.2.2.2.2.2.2.2.1, .int o1.2.2.2.2.2.2.2.2.2.1, .int o1.2.2.2.2.2.2.2.2.2.2.1])), (h_t_own, .inl (cI, 1500, .inl o1.2.2.2.2.2.2.2.2.2.2.2.2.2.1)), (h_t_s, .inl (cI, 30, .inl t_s))] H := hP
                  have hD : va_D A [(h_t_itemAt, .inl (cI, 62, .inl o1.2.2.2.2.2.2.2.2.2.2.2.1)), (h_t_levelAt, .inl (cI, 62, .inl o1.2.2.2.2.2.2.2.2.2.2.2.2.1)), (h_t_text, .inl (cC, 60, .inl t_text)), (h_t_times, .inl (cI, 62, .inl o1.2.2.2.2.2.2.2.2.2.2.2.2.2.2)), (h_t, .inr (10, [.ref h_t_s, .ref h_t_was, .ref h_t_begun, .int t_states, .ref h_t_text, .int t_typed, .ref h_t_wrong, .ref h_t_cost, .ref h_t_first, .ref h_t_block, .ref h_t_many, .ref h_t_stack, .int t_height, .ref h_t_written, .int t_length, .ref h_t_own, .ref h_t_levelAt, .ref h_t_itemAt, .ref h_t_times, .int o1.2.1, .int o1.2.2.1, .int o1.2.2.2.1, .int o1.2.2.2.2.1, .int o1.2.2.2.2.2.1, .int o1.2.2.2.2.2.2.1, .int o1.2.2.2.2.2.2.2.1, .int o1.2.2.2.2.2.2.2.2.1, .int o1.2.2.2.2.2.2.2.2.2.1, .int o1.2.2.2.2.2.2.2.2.2.2.1])), (h_t_own, .inl (cI, 1500, .inl o1.2.2.2.2.2.2.2.2.2.2.2.2.2.1)), (h_t_s, .inl (cI, 30, .inl t_s))] := hD
                  refine lv_if_eq (tgt := 139) hx hb dX11_told_132 (by decide) (fun c_10 => ?_) (fun c_10 => ?_)
                  · have hres := it_of hres c_10
                    refine lv_iconst (v := (0 : Int32)) hx hb dX11_told_139 (by decide) ?_
                    obtain ⟨e9_0, e9_1, e9_2, e9_3, e9_4, e9_5, e9_6, e9_7, e9_8, e9_9, e9_10, e9_11, e9_12, e9_13, e9_14⟩ := tup15 hres
                    subst e9_0
                    subst e9_1
                    subst e9_2
                    subst e9_3
                    subst e9_4
                    subst e9_5
                    subst e9_6
                    subst e9_7
                    subst e9_8
                    subst e9_9
                    subst e9_10
                    subst e9_11
                    subst e9_12
                    subst e9_13
                    subst e9_14
                    rw [← hQQ]
                    exact W.iret (v := (0 : Int32)) hx hb hr (fun t ht hW => ⟨⟨(0 : Int32), (), rfl, rfl, by rw [ht]; exact hP.sub [4, 0, 1, 5, 6, 2, 3] rfl, va_K.moved hW.alike hK, hD.sub [4, 0, 1, 5, 6, 2, 3] (by decide) rfl⟩, hS.F ht⟩) hS.2.2 dX11_told_140
                  · have hres := ie_of hres c_10
                    refine lv_iconst (v := (1 : Int32)) hx hb dX11_told_135 (by decide) ?_
                    refine lv_goto (tgt := 140) hx hb dX11_told_136 (by decide) ?_
                    obtain ⟨e9_0, e9_1, e9_2, e9_3, e9_4, e9_5, e9_6, e9_7, e9_8, e9_9, e9_10, e9_11, e9_12, e9_13, e9_14⟩ := tup15 hres
                    subst e9_0
                    subst e9_1
                    subst e9_2
                    subst e9_3
                    subst e9_4
                    subst e9_5
                    subst e9_6
                    subst e9_7
                    subst e9_8
                    subst e9_9
                    subst e9_10
                    subst e9_11
                    subst e9_12
                    subst e9_13
                    subst e9_14
                    rw [← hQQ]
                    exact W.iret (v := (1 : Int32)) hx hb hr (fun t ht hW => ⟨⟨(1 : Int32), (), rfl, rfl, by rw [ht]; exact hP.sub [4, 0, 1, 5, 6, 2, 3] rfl, va_K.moved hW.alike hK, hD.sub [4, 0, 1, 5, 6, 2, 3] (by decide) rfl⟩, hS.F ht⟩) hS.2.2 dX11_told_140
                · have hres := ie_of hres c_8
                  refine lv_tableOut (tgt := 141) hx hb dX11_told_34 (tab_out (lo := 0) (hi := 5) (fun k h1 h2 => by rcases (show k = 0 ∨ k = 1 ∨ k = 2 ∨ k = 3 ∨ k = 4 ∨ k = 5 by omega) with rfl | rfl | rfl | rfl | rfl | rfl <;> assumption)) (by decide) ?_
                  refine lv_iload_n hx hb dX11_told_141 rfl (lv_at hl 1 rfl) ?_
                  refine lv_bipush (v := (100 : Int32)) hx hb dX11_told_142 (by decide) ?_
                  refine lv_isub hx hb dX11_told_144 ?_
                  refine lv_aload_n hx hb dX11_told_145 rfl (lv_at hl 0 rfl) ?_
                  refine va_get (D := (dC, dI)) (ci := 10) (v := .int o1.2.2.1) (C := RX11) (T := TX11) (N := 29) hx hb hts iMD_told_X11_told_1 hown hK hP 1 rfl rfl 20 (by decide) (hts _ kMD_told_X11_told_5) (fun _ h9 => h9) rfl dX11_told_146 ?_
                  refine lv_icmp_ge (tgt := 164) hx hb dX11_told_149 (by decide) (fun c_11 => ?_) (fun c_11 => ?_)
                  · have hres := it_of hres c_11
                    refine lv_ldc (v := (-1000004 : Int32)) hx hb hown (hts _ kMD_told_X11_told_8) dX11_told_164 ?_
                    obtain ⟨e9_0, e9_1, e9_2, e9_3, e9_4, e9_5, e9_6, e9_7, e9_8, e9_9, e9_10, e9_11, e9_12, e9_13, e9_14⟩ := tup15 hres
                    subst e9_0
                    subst e9_1
                    subst e9_2
                    subst e9_3
                    subst e9_4
                    subst e9_5
                    subst e9_6
                    subst e9_7
                    subst e9_8
                    subst e9_9
                    subst e9_10
                    subst e9_11
                    subst e9_12
                    subst e9_13
                    subst e9_14
                    rw [← hQQ]
                    exact W.iret (v := (-1000004 : Int32)) hx hb hr (fun t ht hW => ⟨⟨(-1000004 : Int32), (), rfl, rfl, by rw [ht]; exact hP.sub [1, 2, 3, 4, 0, 5, 6] rfl, va_K.moved hW.alike hK, hD.sub [1, 2, 3, 4, 0, 5, 6] (by decide) rfl⟩, hS.F ht⟩) hS.2.2 dX11_told_166
                  · have hres := ie_of hres c_11
                    refine lv_aload_n hx hb dX11_told_152 rfl (lv_at hl 0 rfl) ?_
                    refine va_get (D := (dC, dI)) (ci := 10) (v := .ref h_t_own) (C := RX11) (T := TX11) (N := 29) hx hb hts iMD_told_X11_told_1 hown hK hP 1 rfl rfl 15 (by decide) (hts _ kMD_told_X11_told_9) (fun _ h9 => h9) rfl dX11_told_153 ?_
                    refine lv_iload_n hx hb dX11_told_156 rfl (lv_at hl 1 rfl) ?_
                    refine lv_bipush (v := (100 : Int32)) hx hb dX11_told_157 (by decide) ?_
                    refine lv_isub hx hb dX11_told_159 ?_
                    obtain ⟨c_12, hres⟩ := ck_of hres
                    refine va_iald hx hb hK hP 4 0 rfl rfl c_12 dX11_told_160 ?_
                    refine lv_goto (tgt := 166) hx hb dX11_told_161 (by decide) ?_
                    obtain ⟨e9_0, e9_1, e9_2, e9_3, e9_4, e9_5, e9_6, e9_7, e9_8, e9_9, e9_10, e9_11, e9_12, e9_13, e9_14⟩ := tup15 hres
                    subst e9_0
                    subst e9_1
                    subst e9_2
                    subst e9_3
                    subst e9_4
                    subst e9_5
                    subst e9_6
                    subst e9_7
                    subst e9_8
                    subst e9_9
                    subst e9_10
                    subst e9_11
                    subst e9_12
                    subst e9_13
                    subst e9_14
                    rw [← hQQ]
                    exact W.iret (v := (rd o1.2.2.2.2.2.2.2.2.2.2.2.2.2.1 (x1 - (100 : Int32)))) hx hb hr (fun t ht hW => ⟨⟨(rd o1.2.2.2.2.2.2.2.2.2.2.2.2.2.1 (x1 - (100 : Int32))), (), rfl, rfl, by rw [ht]; exact hP.sub [1, 2, 3, 4, 0, 5, 6] rfl, va_K.moved hW.alike hK, hD.sub [1, 2, 3, 4, 0, 5, 6] (by decide) rfl⟩, hS.F ht⟩) hS.2.2 dX11_told_166
    · have hres := it_of hres c_2
      refine lv_ldc (v := (-1000002 : Int32)) hx hb hown (hts _ kMD_told_X11_told_10) dX11_told_30 ?_
      obtain ⟨e9_0, e9_1, e9_2, e9_3, e9_4, e9_5, e9_6, e9_7, e9_8, e9_9, e9_10, e9_11, e9_12, e9_13, e9_14⟩ := tup15 hres
      subst e9_0
      subst e9_1
      subst e9_2
      subst e9_3
      subst e9_4
      subst e9_5
      subst e9_6
      subst e9_7
      subst e9_8
      subst e9_9
      subst e9_10
      subst e9_11
      subst e9_12
      subst e9_13
      subst e9_14
      rw [← hQQ]
      exact W.iret (v := (-1000002 : Int32)) hx hb hr (fun t ht hW => ⟨⟨(-1000002 : Int32), (), rfl, rfl, by rw [ht]; exact hP.sub [1, 2, 3, 4, 0, 5, 6] rfl, va_K.moved hW.alike hK, hD.sub [1, 2, 3, 4, 0, 5, 6] (by decide) rfl⟩, hS.F ht⟩) hS.2.2 dX11_told_32
  rw [fMD_told] at hres
  refine lv_iload_n hx hb dX11_told_0 rfl (lv_at hl 1 rfl) ?_
  refine lv_iconst (v := (0 : Int32)) hx hb dX11_told_1 (by decide) ?_
  refine lv_iconst (v := (5 : Int32)) hx hb dX11_told_2 (by decide) ?_
  obtain ⟨o13, ho13, hres⟩ := bd_of hres
  have hPc := hP.sub (ws' := []) [] rfl
  have hDc := hD.sub (ws' := []) [] (by decide) rfl
  have hFc := va_free (wc := []) hD hS hA [] rfl
  refine va_calli (va_runS (As := [.int x1, .int (0 : Int32), .int (5 : Int32)]) (rest := []) ⟨hx, hb, hml, hown, hts⟩ (cMD_in l dC dI cI cJ cC cS H.size x1 (0 : Int32) (5 : Int32) o13 ho13) (va_cwS 3 hts gX11_told_X11_in rfl rfl rfl (by decide +kernel) ⟨Nat.le_of_ble_eq_true rfl, Nat.le_of_ble_eq_true rfl⟩) ⟨fun a U g mk q => by obtain ⟨q0, q1, qP, qK, qN, qD⟩ := q; exact ⟨q0, q1, qP, va_K.moved (u := U) (U := U.calling g mk a) (Vm.Alike.refl U.vm) qK, nwS (u := U) (U := U.calling g mk a) rfl qN, qD⟩, fun U hU hW => ⟨rfl, by rw [hU], by rw [hU]; exact hPc, va_K.moved hW.alike hK, nwW hW hN, hDc.weaken (fun _ _ _ _ => trivial)⟩⟩ rfl rfl hl.1 rfl (lv_room (Nat.le_of_ble_eq_true rfl)) dX11_told_3 ⟨Nat.zero_le _, Nat.zero_le _⟩) hS (fun q _ h => hFc q h) hFc (fun r9 u9 t H1 locs ht hvm hw hB hz1 hk1 hS => ?_)
  have hw := hw.symm
  subst hw
  obtain ⟨hP1, hK1, hD1⟩ := hB
  rw [ht] at hP1
  obtain ⟨hP, hD⟩ := va_join (wr := [(h_t, .inr (10, [.ref h_t_s, .ref h_t_was, .ref h_t_begun, .int t_states, .ref h_t_text, .int t_typed, .ref h_t_wrong, .ref h_t_cost, .ref h_t_first, .ref h_t_block, .ref h_t_many, .ref h_t_stack, .int t_height, .ref h_t_written, .int t_length, .ref h_t_own, .ref h_t_levelAt, .ref h_t_itemAt, .ref h_t_times, .int t_at, .int t_ownLength, .int t_depth, .int t_deepest, .int t_letters, .int t_repeats, .int t_corrections, .int t_mostCorrections, .int t_place, .int t_reason])), (h_t_itemAt, .inl (cI, 62, .inl t_itemAt)), (h_t_levelAt, .inl (cI, 62, .inl t_levelAt)), (h_t_own, .inl (cI, 1500, .inl t_own)), (h_t_s, .inl (cI, 30, .inl t_s)), (h_t_text, .inl (cC, 60, .inl t_text)), (h_t_times, .inl (cI, 62, .inl t_times))]) (w1 := []) hP hD [] [0, 1, 2, 3, 4, 5, 6] rfl rfl (by decide) (by decide) hk1 hFc hP1 hD1
  generalize H1 = H at hP hS ⊢
  have hP : va_P (dC, dI) vwCl [(h_t, .inr (10, [.ref h_t_s, .ref h_t_was, .ref h_t_begun, .int t_states, .ref h_t_text, .int t_typed, .ref h_t_wrong, .ref h_t_cost, .ref h_t_first, .ref h_t_block, .ref h_t_many, .ref h_t_stack, .int t_height, .ref h_t_written, .int t_length, .ref h_t_own, .ref h_t_levelAt, .ref h_t_itemAt, .ref h_t_times, .int t_at, .int t_ownLength, .int t_depth, .int t_deepest, .int t_letters, .int t_repeats, .int t_corrections, .int t_mostCorrections, .int t_place, .int t_reason])), (h_t_itemAt, .inl (cI, 62, .inl t_itemAt)), (h_t_levelAt, .inl (cI, 62, .inl t_levelAt)), (h_t_own, .inl (cI, 1500, .inl t_own)), (h_t_s, .inl (cI, 30, .inl t_s)), (h_t_text, .inl (cC, 60, .inl t_text)), (h_t_times, .inl (cI, 62, .inl t_times))] H := hP
  have hD : va_D A [(h_t, .inr (10, [.ref h_t_s, .ref h_t_was, .ref h_t_begun, .int t_states, .ref h_t_text, .int t_typed, .ref h_t_wrong, .ref h_t_cost, .ref h_t_first, .ref h_t_block, .ref h_t_many, .ref h_t_stack, .int t_height, .ref h_t_written, .int t_length, .ref h_t_own, .ref h_t_levelAt, .ref h_t_itemAt, .ref h_t_times, .int t_at, .int t_ownLength, .int t_depth, .int t_deepest, .int t_letters, .int t_repeats, .int t_corrections, .int t_mostCorrections, .int t_place, .int t_reason])), (h_t_itemAt, .inl (cI, 62, .inl t_itemAt)), (h_t_levelAt, .inl (cI, 62, .inl t_levelAt)), (h_t_own, .inl (cI, 1500, .inl t_own)), (h_t_s, .inl (cI, 30, .inl t_s)), (h_t_text, .inl (cC, 60, .inl t_text)), (h_t_times, .inl (cI, 62, .inl t_times))] := hD
  refine lv_if_ne (tgt := 23) hx hb dX11_told_6 (by decide) (fun c_14 => ?_) (fun c_14 => ?_)
  · have hres := ie_of hres c_14
    exact hK23 t_at t_ownLength t_depth t_deepest t_letters t_repeats t_corrections t_mostCorrections t_place t_reason t_itemAt t_levelAt t_own t_times H locs ls hres hP hD hS (lv_sub hl [0, 1] rfl)
  · have hres := it_of hres c_14
    refine lv_iload_n hx hb dX11_told_9 rfl (lv_at hl 1 rfl) ?_
    refine lv_bipush (v := (100 : Int32)) hx hb dX11_told_10 (by decide) ?_
    refine lv_bipush (v := (123 : Int32)) hx hb dX11_told_12 (by decide) ?_
    obtain ⟨o15, ho15, hres⟩ := bd_of hres
    have hPc := hP.sub (ws' := []) [] rfl
    have hDc := hD.sub (ws' := []) [] (by decide) rfl
    have hFc := va_free (wc := []) hD hS hA [] rfl
    refine va_calli (va_runS (As := [.int x1, .int (100 : Int32), .int (123 : Int32)]) (rest := []) ⟨hx, hb, hml, hown, hts⟩ (cMD_in l dC dI cI cJ cC cS H.size x1 (100 : Int32) (123 : Int32) o15 ho15) (va_cwS 3 hts gX11_told_X11_in rfl rfl rfl (by decide +kernel) ⟨Nat.le_of_ble_eq_true rfl, Nat.le_of_ble_eq_true rfl⟩) ⟨fun a U g mk q => by obtain ⟨q0, q1, qP, qK, qN, qD⟩ := q; exact ⟨q0, q1, qP, va_K.moved (u := U) (U := U.calling g mk a) (Vm.Alike.refl U.vm) qK, nwS (u := U) (U := U.calling g mk a) rfl qN, qD⟩, fun U hU hW => ⟨rfl, by rw [hU], by rw [hU]; exact hPc, va_K.moved hW.alike hK, nwW hW hN, hDc.weaken (fun _ _ _ _ => trivial)⟩⟩ rfl rfl hl.1 rfl (lv_room (Nat.le_of_ble_eq_true rfl)) dX11_told_14 ⟨Nat.zero_le _, Nat.zero_le _⟩) hS (fun q _ h => hFc q h) hFc (fun r9 u9 t H1 locs ht hvm hw hB hz1 hk1 hS => ?_)
    have hw := hw.symm
    subst hw
    obtain ⟨hP1, hK1, hD1⟩ := hB
    rw [ht] at hP1
    obtain ⟨hP, hD⟩ := va_join (wr := [(h_t, .inr (10, [.ref h_t_s, .ref h_t_was, .ref h_t_begun, .int t_states, .ref h_t_text, .int t_typed, .ref h_t_wrong, .ref h_t_cost, .ref h_t_first, .ref h_t_block, .ref h_t_many, .ref h_t_stack, .int t_height, .ref h_t_written, .int t_length, .ref h_t_own, .ref h_t_levelAt, .ref h_t_itemAt, .ref h_t_times, .int t_at, .int t_ownLength, .int t_depth, .int t_deepest, .int t_letters, .int t_repeats, .int t_corrections, .int t_mostCorrections, .int t_place, .int t_reason])), (h_t_itemAt, .inl (cI, 62, .inl t_itemAt)), (h_t_levelAt, .inl (cI, 62, .inl t_levelAt)), (h_t_own, .inl (cI, 1500, .inl t_own)), (h_t_s, .inl (cI, 30, .inl t_s)), (h_t_text, .inl (cC, 60, .inl t_text)), (h_t_times, .inl (cI, 62, .inl t_times))]) (w1 := []) hP hD [] [0, 1, 2, 3, 4, 5, 6] rfl rfl (by decide) (by decide) hk1 hFc hP1 hD1
    generalize H1 = H at hP hS ⊢
    have hP : va_P (dC, dI) vwCl [(h_t, .inr (10, [.ref h_t_s, .ref h_t_was, .ref h_t_begun, .int t_states, .ref h_t_text, .int t_typed, .ref h_t_wrong, .ref h_t_cost, .ref h_t_first, .ref h_t_block, .ref h_t_many, .ref h_t_stack, .int t_height, .ref h_t_written, .int t_length, .ref h_t_own, .ref h_t_levelAt, .ref h_t_itemAt, .ref h_t_times, .int t_at, .int t_ownLength, .int t_depth, .int t_deepest, .int t_letters, .int t_repeats, .int t_corrections, .int t_mostCorrections, .int t_place, .int t_reason])), (h_t_itemAt, .inl (cI, 62, .inl t_itemAt)), (h_t_levelAt, .inl (cI, 62, .inl t_levelAt)), (h_t_own, .inl (cI, 1500, .inl t_own)), (h_t_s, .inl (cI, 30, .inl t_s)), (h_t_text, .inl (cC, 60, .inl t_text)), (h_t_times, .inl (cI, 62, .inl t_times))] H := hP
    have hD : va_D A [(h_t, .inr (10, [.ref h_t_s, .ref h_t_was, .ref h_t_begun, .int t_states, .ref h_t_text, .int t_typed, .ref h_t_wrong, .ref h_t_cost, .ref h_t_first, .ref h_t_block, .ref h_t_many, .ref h_t_stack, .int t_height, .ref h_t_written, .int t_length, .ref h_t_own, .ref h_t_levelAt, .ref h_t_itemAt, .ref h_t_times, .int t_at, .int t_ownLength, .int t_depth, .int t_deepest, .int t_letters, .int t_repeats, .int t_corrections, .int t_mostCorrections, .int t_place, .int t_reason])), (h_t_itemAt, .inl (cI, 62, .inl t_itemAt)), (h_t_levelAt, .inl (cI, 62, .inl t_levelAt)), (h_t_own, .inl (cI, 1500, .inl t_own)), (h_t_s, .inl (cI, 30, .inl t_s)), (h_t_text, .inl (cC, 60, .inl t_text)), (h_t_times, .inl (cI, 62, .inl t_times))] := hD
    refine lv_if_ne (tgt := 23) hx hb dX11_told_17 (by decide) (fun c_16 => ?_) (fun c_16 => ?_)
    · have hres := ie_of hres c_16
      exact hK23 t_at t_ownLength t_depth t_deepest t_letters t_repeats t_corrections t_mostCorrections t_place t_reason t_itemAt t_levelAt t_own t_times H locs ls hres hP hD hS (lv_sub hl [0, 1] rfl)
    · have hres := it_of hres c_16
      refine lv_ldc (v := (-1000001 : Int32)) hx hb hown (hts _ kMD_told_X11_told_11) dX11_told_20 ?_
      obtain ⟨e9_0, e9_1, e9_2, e9_3, e9_4, e9_5, e9_6, e9_7, e9_8, e9_9, e9_10, e9_11, e9_12, e9_13, e9_14⟩ := tup15 hres
      subst e9_0
      subst e9_1
      subst e9_2
      subst e9_3
      subst e9_4
      subst e9_5
      subst e9_6
      subst e9_7
      subst e9_8
      subst e9_9
      subst e9_10
      subst e9_11
      subst e9_12
      subst e9_13
      subst e9_14
      rw [← hQQ]
      exact W.iret (v := (-1000001 : Int32)) hx hb hr (fun t ht hW => ⟨⟨(-1000001 : Int32), (), rfl, rfl, by rw [ht]; exact hP, va_K.moved hW.alike hK, hD⟩, hS.F ht⟩) hS.2.2 dX11_told_22

-- MD_turn
theorem kMD_turn_X11_turn_0 : Cond.fieldLink RX11 7 "RepeatNestsModel" "s" "[I" ∈ wsX11_turn := by decide +kernel
theorem iMD_turn_X11_turn_1 : ∀ w ∈ wsX110, w ∈ wsX11_turn := by decide +kernel
theorem kMD_turn_X11_turn_2 : Cond.fieldLink RX11 16 "RepeatNestsModel" "begun" "[I" ∈ wsX11_turn := by decide +kernel
theorem kMD_turn_X11_turn_3 : Cond.constant RX11 74 (-1000002) ∈ wsX11_turn := by decide +kernel
set_option maxHeartbeats 4000000 in
set_option maxRecDepth 100000 in
theorem cMD_turn (l : Launch) (dC : Nat → ClassId) (dI : Nat → Nat → Nat) (cI cJ cC cS : ClassId) (h_t h_t_s h_t_was h_t_begun h_t_text h_t_wrong h_t_cost h_t_first h_t_block h_t_many h_t_stack h_t_written h_t_own h_t_levelAt h_t_itemAt h_t_times : Nat) (sz : Nat) (t_states : Int32) (t_typed : Int32) (t_height : Int32) (t_length : Int32) (t_at : Int32) (t_ownLength : Int32) (t_depth : Int32) (t_deepest : Int32) (t_letters : Int32) (t_repeats : Int32) (t_corrections : Int32) (t_mostCorrections : Int32) (t_place : Int32) (t_reason : Int32) (t_begun : Nat → Int32) (t_s : Nat → Int32) (t_was : Nat → Int32) (r : Int32) (y_t_states : Int32) (y_t_begun : Nat → Int32) (y_t_s : Nat → Int32) (y_t_was : Nat → Int32) (hres : fMD_turn t_states t_begun t_s t_was = some (r, y_t_states, y_t_begun, y_t_s, y_t_was)) :
    Met l yX11_turn wsX11_turn ({ frames := 1, cells := 0, slots := 0, locals := 22 } : Room) (va_Pc [.ref h_t] (fun (U : State) => U.heap.size = sz ∧ va_P (dC, dI) vwCl [(h_t, .inr (10, [.ref h_t_s, .ref h_t_was, .ref h_t_begun, .int t_states, .ref h_t_text, .int t_typed, .ref h_t_wrong, .ref h_t_cost, .ref h_t_first, .ref h_t_block, .ref h_t_many, .ref h_t_stack, .int t_height, .ref h_t_written, .int t_length, .ref h_t_own, .ref h_t_levelAt, .ref h_t_itemAt, .ref h_t_times, .int t_at, .int t_ownLength, .int t_depth, .int t_deepest, .int t_letters, .int t_repeats, .int t_corrections, .int t_mostCorrections, .int t_place, .int t_reason])), (h_t_begun, .inl (cI, 30, .inl t_begun)), (h_t_s, .inl (cI, 30, .inl t_s)), (h_t_was, .inl (cI, 120, .inl t_was))] U.heap ∧ va_K (dC, dI) vwCl (tyA cI cJ cC cS) U ∧ nwN U ∧ va_D (fun _ => True) [(h_t, .inr (10, [.ref h_t_s, .ref h_t_was, .ref h_t_begun, .int t_states, .ref h_t_text, .int t_typed, .ref h_t_wrong, .ref h_t_cost, .ref h_t_first, .ref h_t_block, .ref h_t_many, .ref h_t_stack, .int t_height, .ref h_t_written, .int t_length, .ref h_t_own, .ref h_t_levelAt, .ref h_t_itemAt, .ref h_t_times, .int t_at, .int t_ownLength, .int t_depth, .int t_deepest, .int t_letters, .int t_repeats, .int t_corrections, .int t_mostCorrections, .int t_place, .int t_reason])), (h_t_begun, .inl (cI, 30, .inl t_begun)), (h_t_s, .inl (cI, 30, .inl t_s)), (h_t_was, .inl (cI, 120, .inl t_was))])) (va_Qi (fun (r9 : Int32) (_ : Unit) => r9 = r) (fun (_ : Unit) (t : State) => va_P (dC, dI) vwCl [(h_t, .inr (10, [.ref h_t_s, .ref h_t_was, .ref h_t_begun, .int y_t_states, .ref h_t_text, .int t_typed, .ref h_t_wrong, .ref h_t_cost, .ref h_t_first, .ref h_t_block, .ref h_t_many, .ref h_t_stack, .int t_height, .ref h_t_written, .int t_length, .ref h_t_own, .ref h_t_levelAt, .ref h_t_itemAt, .ref h_t_times, .int t_at, .int t_ownLength, .int t_depth, .int t_deepest, .int t_letters, .int t_repeats, .int t_corrections, .int t_mostCorrections, .int t_place, .int t_reason])), (h_t_begun, .inl (cI, 30, .inl y_t_begun)), (h_t_s, .inl (cI, 30, .inl y_t_s)), (h_t_was, .inl (cI, 120, .inl y_t_was))] t.heap ∧ va_K (dC, dI) vwCl (tyA cI cJ cC cS) t ∧ va_D (va_A [(h_t, .inr (10, [.ref h_t_s, .ref h_t_was, .ref h_t_begun, .int t_states, .ref h_t_text, .int t_typed, .ref h_t_wrong, .ref h_t_cost, .ref h_t_first, .ref h_t_block, .ref h_t_many, .ref h_t_stack, .int t_height, .ref h_t_written, .int t_length, .ref h_t_own, .ref h_t_levelAt, .ref h_t_itemAt, .ref h_t_times, .int t_at, .int t_ownLength, .int t_depth, .int t_deepest, .int t_letters, .int t_repeats, .int t_corrections, .int t_mostCorrections, .int t_place, .int t_reason])), (h_t_begun, .inl (cI, 30, .inl t_begun)), (h_t_s, .inl (cI, 30, .inl t_s)), (h_t_was, .inl (cI, 120, .inl t_was))] sz) [(h_t, .inr (10, [.ref h_t_s, .ref h_t_was, .ref h_t_begun, .int y_t_states, .ref h_t_text, .int t_typed, .ref h_t_wrong, .ref h_t_cost, .ref h_t_first, .ref h_t_block, .ref h_t_many, .ref h_t_stack, .int t_height, .ref h_t_written, .int t_length, .ref h_t_own, .ref h_t_levelAt, .ref h_t_itemAt, .ref h_t_times, .int t_at, .int t_ownLength, .int t_depth, .int t_deepest, .int t_letters, .int t_repeats, .int t_corrections, .int t_mostCorrections, .int t_place, .int t_reason])), (h_t_begun, .inl (cI, 30, .inl y_t_begun)), (h_t_s, .inl (cI, 30, .inl y_t_s)), (h_t_was, .inl (cI, 120, .inl y_t_was))]) (va_A [(h_t, .inr (10, [.ref h_t_s, .ref h_t_was, .ref h_t_begun, .int t_states, .ref h_t_text, .int t_typed, .ref h_t_wrong, .ref h_t_cost, .ref h_t_first, .ref h_t_block, .ref h_t_many, .ref h_t_stack, .int t_height, .ref h_t_written, .int t_length, .ref h_t_own, .ref h_t_levelAt, .ref h_t_itemAt, .ref h_t_times, .int t_at, .int t_ownLength, .int t_depth, .int t_deepest, .int t_letters, .int t_repeats, .int t_corrections, .int t_mostCorrections, .int t_place, .int t_reason])), (h_t_begun, .inl (cI, 30, .inl t_begun)), (h_t_s, .inl (cI, 30, .inl t_s)), (h_t_was, .inl (cI, 120, .inl t_was))] sz)) 0 0 (va_A [(h_t, .inr (10, [.ref h_t_s, .ref h_t_was, .ref h_t_begun, .int t_states, .ref h_t_text, .int t_typed, .ref h_t_wrong, .ref h_t_cost, .ref h_t_first, .ref h_t_block, .ref h_t_many, .ref h_t_stack, .int t_height, .ref h_t_written, .int t_length, .ref h_t_own, .ref h_t_levelAt, .ref h_t_itemAt, .ref h_t_times, .int t_at, .int t_ownLength, .int t_depth, .int t_deepest, .int t_letters, .int t_repeats, .int t_corrections, .int t_mostCorrections, .int t_place, .int t_reason])), (h_t_begun, .inl (cI, 30, .inl t_begun)), (h_t_s, .inl (cI, 30, .inl t_s)), (h_t_was, .inl (cI, 120, .inl t_was))] sz) := by
  refine Met.ofW (cc := cX11_turn) (maxL := 3) (ret := (some .int)) (by decide) rfl ?_
  intro p e s m args below meth c s₁ B hml hv
  obtain ⟨hargs, hsz, hP, hK, hN, hD0⟩ := hv
  have hx := B.exec
  have hb := B.bytes
  have hr := B.returns
  have hts := atoms_spec (ws := wsX11_turn) B.pre
  have hown : s.vm.findClass RX11 = some m.cls := findClass_of_methodNamed B.named
  have hlocks := B.notSynchronized
  subst hsz
  have hD := hD0.self (sz := s.heap.size)
  generalize hAe : va_A [(h_t, .inr (10, [.ref h_t_s, .ref h_t_was, .ref h_t_begun, .int t_states, .ref h_t_text, .int t_typed, .ref h_t_wrong, .ref h_t_cost, .ref h_t_first, .ref h_t_block, .ref h_t_many, .ref h_t_stack, .int t_height, .ref h_t_written, .int t_length, .ref h_t_own, .ref h_t_levelAt, .ref h_t_itemAt, .ref h_t_times, .int t_at, .int t_ownLength, .int t_depth, .int t_deepest, .int t_letters, .int t_repeats, .int t_corrections, .int t_mostCorrections, .int t_place, .int t_reason])), (h_t_begun, .inl (cI, 30, .inl t_begun)), (h_t_s, .inl (cI, 30, .inl t_s)), (h_t_was, .inl (cI, 120, .inl t_was))] s.heap.size = A at hD ⊢
  have hA : ∀ q : Nat, s.heap.size ≤ q → A q := fun q h => by rw [← hAe]; exact Or.inr h
  have hS : va_S A s.heap s.heap [] := va_S.rf
  have hP : va_P (dC, dI) vwCl [(h_t, .inr (10, [.ref h_t_s, .ref h_t_was, .ref h_t_begun, .int t_states, .ref h_t_text, .int t_typed, .ref h_t_wrong, .ref h_t_cost, .ref h_t_first, .ref h_t_block, .ref h_t_many, .ref h_t_stack, .int t_height, .ref h_t_written, .int t_length, .ref h_t_own, .ref h_t_levelAt, .ref h_t_itemAt, .ref h_t_times, .int t_at, .int t_ownLength, .int t_depth, .int t_deepest, .int t_letters, .int t_repeats, .int t_corrections, .int t_mostCorrections, .int t_place, .int t_reason])), (h_t_begun, .inl (cI, 30, .inl t_begun)), (h_t_s, .inl (cI, 30, .inl t_s)), (h_t_was, .inl (cI, 120, .inl t_was))] s.heap := hP
  have hl := lv_entry [.ref h_t] (n := 3) (Nat.le_of_ble_eq_true rfl)
  rw [show entryFrame m args 3 = entryFrame m ([.ref h_t] : List Value).toArray 3 from by rw [hargs], lg_entry_eq]
  generalize (lg_sl [.ref h_t] ++ List.replicate (3 - (lg_sl [.ref h_t]).length) Slot.unset).toArray = ls at hl ⊢
  have hl : lv_has ls 3 [(0, .ref h_t)] := hl
  generalize hQQ : MQ below (va_Qi (fun (r9 : Int32) (_ : Unit) => r9 = r) (fun (_ : Unit) (t : State) => va_P (dC, dI) vwCl [(h_t, .inr (10, [.ref h_t_s, .ref h_t_was, .ref h_t_begun, .int y_t_states, .ref h_t_text, .int t_typed, .ref h_t_wrong, .ref h_t_cost, .ref h_t_first, .ref h_t_block, .ref h_t_many, .ref h_t_stack, .int t_height, .ref h_t_written, .int t_length, .ref h_t_own, .ref h_t_levelAt, .ref h_t_itemAt, .ref h_t_times, .int t_at, .int t_ownLength, .int t_depth, .int t_deepest, .int t_letters, .int t_repeats, .int t_corrections, .int t_mostCorrections, .int t_place, .int t_reason])), (h_t_begun, .inl (cI, 30, .inl y_t_begun)), (h_t_s, .inl (cI, 30, .inl y_t_s)), (h_t_was, .inl (cI, 120, .inl y_t_was))] t.heap ∧ va_K (dC, dI) vwCl (tyA cI cJ cC cS) t ∧ va_D A [(h_t, .inr (10, [.ref h_t_s, .ref h_t_was, .ref h_t_begun, .int y_t_states, .ref h_t_text, .int t_typed, .ref h_t_wrong, .ref h_t_cost, .ref h_t_first, .ref h_t_block, .ref h_t_many, .ref h_t_stack, .int t_height, .ref h_t_written, .int t_length, .ref h_t_own, .ref h_t_levelAt, .ref h_t_itemAt, .ref h_t_times, .int t_at, .int t_ownLength, .int t_depth, .int t_deepest, .int t_letters, .int t_repeats, .int t_corrections, .int t_mostCorrections, .int t_place, .int t_reason])), (h_t_begun, .inl (cI, 30, .inl y_t_begun)), (h_t_s, .inl (cI, 30, .inl y_t_s)), (h_t_was, .inl (cI, 120, .inl y_t_was))]) A) args s 0 0 A = QQ
  obtain ⟨H, hH⟩ : ∃ H : Heap, H = s.heap := ⟨_, rfl⟩
  obtain ⟨locs, hlocs⟩ : ∃ locs : List Loc, locs = [] := ⟨_, rfl⟩
  rw [← hH] at hP
  have hS : va_S A s.heap H locs := by rw [hH, hlocs]; exact hS
  suffices hZ : W p l e (headSpec wsX11_turn ({ frames := 1, cells := 0, slots := 0, locals := 22 } : Room)).room s m args below meth c H locs 0 0 QQ (F0 m 0 ls []) by rw [hH, hlocs] at hZ; exact hZ
  clear hH hlocs
  have hL20 : ∀ (n20 : Nat) , ∀ (x1 : Int32) (x2 : Int32) (t_states : Int32) (t_begun : Nat → Int32) (t_s : Nat → Int32) (t_was : Nat → Int32) (H : Heap) (locs : List Loc) (ls : Array Slot), fMD_turn_20 n20 x1 x2 t_states t_begun t_s t_was = some (r, y_t_states, y_t_begun, y_t_s, y_t_was) → va_P (dC, dI) vwCl [(h_t, .inr (10, [.ref h_t_s, .ref h_t_was, .ref h_t_begun, .int t_states, .ref h_t_text, .int t_typed, .ref h_t_wrong, .ref h_t_cost, .ref h_t_first, .ref h_t_block, .ref h_t_many, .ref h_t_stack, .int t_height, .ref h_t_written, .int t_length, .ref h_t_own, .ref h_t_levelAt, .ref h_t_itemAt, .ref h_t_times, .int t_at, .int t_ownLength, .int t_depth, .int t_deepest, .int t_letters, .int t_repeats, .int t_corrections, .int t_mostCorrections, .int t_place, .int t_reason])), (h_t_begun, .inl (cI, 30, .inl t_begun)), (h_t_s, .inl (cI, 30, .inl t_s)), (h_t_was, .inl (cI, 120, .inl t_was))] H → va_D A [(h_t, .inr (10, [.ref h_t_s, .ref h_t_was, .ref h_t_begun, .int t_states, .ref h_t_text, .int t_typed, .ref h_t_wrong, .ref h_t_cost, .ref h_t_first, .ref h_t_block, .ref h_t_many, .ref h_t_stack, .int t_height, .ref h_t_written, .int t_length, .ref h_t_own, .ref h_t_levelAt, .ref h_t_itemAt, .ref h_t_times, .int t_at, .int t_ownLength, .int t_depth, .int t_deepest, .int t_letters, .int t_repeats, .int t_corrections, .int t_mostCorrections, .int t_place, .int t_reason])), (h_t_begun, .inl (cI, 30, .inl t_begun)), (h_t_s, .inl (cI, 30, .inl t_s)), (h_t_was, .inl (cI, 120, .inl t_was))] → va_S A s.heap H locs → lv_has ls 3 [(0, .ref h_t), (1, .int x1), (2, .int x2)] → W p l e (headSpec wsX11_turn ({ frames := 1, cells := 0, slots := 0, locals := 22 } : Room)).room s m args below meth c H locs 0 0 QQ (F0 m 20 ls []) := by
    intro n20
    induction n20 with
    | zero =>
      intro x1 x2 t_states t_begun t_s t_was H locs ls hres
      rw [fMD_turn_20] at hres
      cases hres
    | succ n20 ih20 =>
      intro x1 x2 t_states t_begun t_s t_was H locs ls hres hP hD hS hl
      rw [fMD_turn_20] at hres
      refine lv_iload_n hx hb dX11_turn_20 rfl (lv_at hl 2 rfl) ?_
      refine lv_iload_n hx hb dX11_turn_21 rfl (lv_at hl 1 rfl) ?_
      refine lv_icmp_ge (tgt := 53) hx hb dX11_turn_22 (by decide) (fun c_1 => ?_) (fun c_1 => ?_)
      · have hres := it_of hres c_1
        refine lv_aload_n hx hb dX11_turn_53 rfl (lv_at hl 0 rfl) ?_
        refine lv_aload_n hx hb dX11_turn_54 rfl (lv_at hl 0 rfl) ?_
        refine va_get (D := (dC, dI)) (ci := 10) (v := .ref h_t_s) (C := RX11) (T := TX11) (N := 29) hx hb hts iMD_turn_X11_turn_1 hown hK hP 0 rfl rfl 0 (by decide) (hts _ kMD_turn_X11_turn_0) (fun _ h9 => h9) rfl dX11_turn_55 ?_
        refine lv_bipush (v := (6 : Int32)) hx hb dX11_turn_58 (by decide) ?_
        refine va_iald hx hb hK hP 2 0 rfl rfl (vin (by decide)) dX11_turn_60 ?_
        obtain ⟨o2, ho2, hres⟩ := bd_of hres
        have hPc := hP.sub (ws' := [(h_t, .inr (10, [.ref h_t_s, .ref h_t_was, .ref h_t_begun, .int t_states, .ref h_t_text, .int t_typed, .ref h_t_wrong, .ref h_t_cost, .ref h_t_first, .ref h_t_block, .ref h_t_many, .ref h_t_stack, .int t_height, .ref h_t_written, .int t_length, .ref h_t_own, .ref h_t_levelAt, .ref h_t_itemAt, .ref h_t_times, .int t_at, .int t_ownLength, .int t_depth, .int t_deepest, .int t_letters, .int t_repeats, .int t_corrections, .int t_mostCorrections, .int t_place, .int t_reason])), (h_t_begun, .inl (cI, 30, .inl t_begun)), (h_t_was, .inl (cI, 120, .inl t_was))]) [0, 1, 3] rfl
        have hDc := hD.sub (ws' := [(h_t, .inr (10, [.ref h_t_s, .ref h_t_was, .ref h_t_begun, .int t_states, .ref h_t_text, .int t_typed, .ref h_t_wrong, .ref h_t_cost, .ref h_t_first, .ref h_t_block, .ref h_t_many, .ref h_t_stack, .int t_height, .ref h_t_written, .int t_length, .ref h_t_own, .ref h_t_levelAt, .ref h_t_itemAt, .ref h_t_times, .int t_at, .int t_ownLength, .int t_depth, .int t_deepest, .int t_letters, .int t_repeats, .int t_corrections, .int t_mostCorrections, .int t_place, .int t_reason])), (h_t_begun, .inl (cI, 30, .inl t_begun)), (h_t_was, .inl (cI, 120, .inl t_was))]) [0, 1, 3] (by decide) rfl
        have hFc := va_free (wc := [(h_t, .inr (10, [.ref h_t_s, .ref h_t_was, .ref h_t_begun, .int t_states, .ref h_t_text, .int t_typed, .ref h_t_wrong, .ref h_t_cost, .ref h_t_first, .ref h_t_block, .ref h_t_many, .ref h_t_stack, .int t_height, .ref h_t_written, .int t_length, .ref h_t_own, .ref h_t_levelAt, .ref h_t_itemAt, .ref h_t_times, .int t_at, .int t_ownLength, .int t_depth, .int t_deepest, .int t_letters, .int t_repeats, .int t_corrections, .int t_mostCorrections, .int t_place, .int t_reason])), (h_t_begun, .inl (cI, 30, .inl t_begun)), (h_t_was, .inl (cI, 120, .inl t_was))]) hD hS hA [0, 1, 3] rfl
        refine va_calli (va_runV (As := [.int (rd t_s (6 : Int32))]) (rest := []) ⟨hx, hb, hml, hown, hts⟩ (cMD_acted l dC dI cI cJ cC cS h_t h_t_s h_t_was h_t_begun h_t_text h_t_wrong h_t_cost h_t_first h_t_block h_t_many h_t_stack h_t_written h_t_own h_t_levelAt h_t_itemAt h_t_times H.size t_states t_typed t_height t_length t_at t_ownLength t_depth t_deepest t_letters t_repeats t_corrections t_mostCorrections t_place t_reason t_begun t_was (rd t_s (6 : Int32)) o2.1 o2.2.1 o2.2.2 ho2) (cwV 1 hts gX11_turn_X11_acted rfl rfl rfl (by decide +kernel) ⟨Nat.le_of_ble_eq_true rfl, Nat.le_of_ble_eq_true rfl⟩) ⟨fun a U g mk q => by obtain ⟨q0, q1, qP, qK, qN, qD⟩ := q; exact ⟨q0, q1, qP, va_K.moved (u := U) (U := U.calling g mk a) (Vm.Alike.refl U.vm) qK, nwS (u := U) (U := U.calling g mk a) rfl qN, qD⟩, va_recv hK hPc (ci := 10) (q0 := 0) rfl rfl, fun U hU hW => ⟨rfl, by rw [hU], by rw [hU]; exact hPc, va_K.moved hW.alike hK, nwW hW hN, hDc.weaken (fun _ _ _ _ => trivial)⟩⟩ rfl rfl hl.1 rfl (lv_room (Nat.le_of_ble_eq_true rfl)) dX11_turn_61 ⟨Nat.zero_le _, Nat.zero_le _⟩) hS (fun q _ h => hFc q h) hFc (fun r9 u9 t H1 locs ht hvm hw hB hz1 hk1 hS => ?_)
        have hw := hw.symm
        subst hw
        obtain ⟨hP1, hK1, hD1⟩ := hB
        rw [ht] at hP1
        obtain ⟨hP, hD⟩ := va_join (wr := [(h_t_s, .inl (cI, 30, .inl t_s))]) (w1 := [(h_t, .inr (10, [.ref h_t_s, .ref h_t_was, .ref h_t_begun, .int o2.2.1, .ref h_t_text, .int t_typed, .ref h_t_wrong, .ref h_t_cost, .ref h_t_first, .ref h_t_block, .ref h_t_many, .ref h_t_stack, .int t_height, .ref h_t_written, .int t_length, .ref h_t_own, .ref h_t_levelAt, .ref h_t_itemAt, .ref h_t_times, .int t_at, .int t_ownLength, .int t_depth, .int t_deepest, .int t_letters, .int t_repeats, .int t_corrections, .int t_mostCorrections, .int t_place, .int t_reason])), (h_t_begun, .inl (cI, 30, .inl t_begun)), (h_t_was, .inl (cI, 120, .inl o2.2.2))]) hP hD [0, 1, 3] [2] rfl rfl (by decide) (by decide) hk1 hFc hP1 hD1
        generalize H1 = H at hP hS ⊢
        have hP : va_P (dC, dI) vwCl [(h_t_s, .inl (cI, 30, .inl t_s)), (h_t, .inr (10, [.ref h_t_s, .ref h_t_was, .ref h_t_begun, .int o2.2.1, .ref h_t_text, .int t_typed, .ref h_t_wrong, .ref h_t_cost, .ref h_t_first, .ref h_t_block, .ref h_t_many, .ref h_t_stack, .int t_height, .ref h_t_written, .int t_length, .ref h_t_own, .ref h_t_levelAt, .ref h_t_itemAt, .ref h_t_times, .int t_at, .int t_ownLength, .int t_depth, .int t_deepest, .int t_letters, .int t_repeats, .int t_corrections, .int t_mostCorrections, .int t_place, .int t_reason])), (h_t_begun, .inl (cI, 30, .inl t_begun)), (h_t_was, .inl (cI, 120, .inl o2.2.2))] H := hP
        have hD : va_D A [(h_t_s, .inl (cI, 30, .inl t_s)), (h_t, .inr (10, [.ref h_t_s, .ref h_t_was, .ref h_t_begun, .int o2.2.1, .ref h_t_text, .int t_typed, .ref h_t_wrong, .ref h_t_cost, .ref h_t_first, .ref h_t_block, .ref h_t_many, .ref h_t_stack, .int t_height, .ref h_t_written, .int t_length, .ref h_t_own, .ref h_t_levelAt, .ref h_t_itemAt, .ref h_t_times, .int t_at, .int t_ownLength, .int t_depth, .int t_deepest, .int t_letters, .int t_repeats, .int t_corrections, .int t_mostCorrections, .int t_place, .int t_reason])), (h_t_begun, .inl (cI, 30, .inl t_begun)), (h_t_was, .inl (cI, 120, .inl o2.2.2))] := hD
        obtain ⟨e9_0, e9_1, e9_2, e9_3, e9_4⟩ := tup5 hres
        subst e9_0
        subst e9_1
        subst e9_2
        subst e9_3
        subst e9_4
        rw [← hQQ]
        exact W.iret (v := o2.1) hx hb hr (fun t ht hW => ⟨⟨o2.1, (), rfl, rfl, by rw [ht]; exact hP.sub [1, 2, 0, 3] rfl, va_K.moved hW.alike hK, hD.sub [1, 2, 0, 3] (by decide) rfl⟩, hS.F ht⟩) hS.2.2 dX11_turn_64
      · have hres := ie_of hres c_1
        refine lv_aload_n hx hb dX11_turn_25 rfl (lv_at hl 0 rfl) ?_
        refine va_get (D := (dC, dI)) (ci := 10) (v := .ref h_t_s) (C := RX11) (T := TX11) (N := 29) hx hb hts iMD_turn_X11_turn_1 hown hK hP 0 rfl rfl 0 (by decide) (hts _ kMD_turn_X11_turn_0) (fun _ h9 => h9) rfl dX11_turn_26 ?_
        refine lv_bipush (v := (6 : Int32)) hx hb dX11_turn_29 (by decide) ?_
        refine lv_iload_n hx hb dX11_turn_31 rfl (lv_at hl 2 rfl) ?_
        refine lv_iadd hx hb dX11_turn_32 ?_
        refine lv_aload_n hx hb dX11_turn_33 rfl (lv_at hl 0 rfl) ?_
        refine va_get (D := (dC, dI)) (ci := 10) (v := .ref h_t_begun) (C := RX11) (T := TX11) (N := 29) hx hb hts iMD_turn_X11_turn_1 hown hK hP 0 rfl rfl 2 (by decide) (hts _ kMD_turn_X11_turn_2) (fun _ h9 => h9) rfl dX11_turn_34 ?_
        refine lv_bipush (v := (6 : Int32)) hx hb dX11_turn_37 (by decide) ?_
        refine lv_iload_n hx hb dX11_turn_39 rfl (lv_at hl 1 rfl) ?_
        refine lv_iadd hx hb dX11_turn_40 ?_
        refine lv_iconst (v := (1 : Int32)) hx hb dX11_turn_41 (by decide) ?_
        refine lv_isub hx hb dX11_turn_42 ?_
        refine lv_iload_n hx hb dX11_turn_43 rfl (lv_at hl 2 rfl) ?_
        refine lv_isub hx hb dX11_turn_44 ?_
        obtain ⟨c_3, hres⟩ := ck_of hres
        refine va_iald hx hb hK hP 1 0 rfl rfl c_3 dX11_turn_45 ?_
        obtain ⟨c_4, hres⟩ := ck_of hres
        refine va_iast hx hb hK hP hD hS 2 0 rfl rfl c_4 dX11_turn_46 (fun H locs hP hD hS => ?_)
        have hP : va_P (dC, dI) vwCl [(h_t, .inr (10, [.ref h_t_s, .ref h_t_was, .ref h_t_begun, .int t_states, .ref h_t_text, .int t_typed, .ref h_t_wrong, .ref h_t_cost, .ref h_t_first, .ref h_t_block, .ref h_t_many, .ref h_t_stack, .int t_height, .ref h_t_written, .int t_length, .ref h_t_own, .ref h_t_levelAt, .ref h_t_itemAt, .ref h_t_times, .int t_at, .int t_ownLength, .int t_depth, .int t_deepest, .int t_letters, .int t_repeats, .int t_corrections, .int t_mostCorrections, .int t_place, .int t_reason])), (h_t_begun, .inl (cI, 30, .inl t_begun)), (h_t_s, .inl (cI, 30, .inl (wr t_s ((6 : Int32) + x2) (rd t_begun ((((6 : Int32) + x1) - (1 : Int32)) - x2))))), (h_t_was, .inl (cI, 120, .inl t_was))] H := hP
        have hD : va_D A [(h_t, .inr (10, [.ref h_t_s, .ref h_t_was, .ref h_t_begun, .int t_states, .ref h_t_text, .int t_typed, .ref h_t_wrong, .ref h_t_cost, .ref h_t_first, .ref h_t_block, .ref h_t_many, .ref h_t_stack, .int t_height, .ref h_t_written, .int t_length, .ref h_t_own, .ref h_t_levelAt, .ref h_t_itemAt, .ref h_t_times, .int t_at, .int t_ownLength, .int t_depth, .int t_deepest, .int t_letters, .int t_repeats, .int t_corrections, .int t_mostCorrections, .int t_place, .int t_reason])), (h_t_begun, .inl (cI, 30, .inl t_begun)), (h_t_s, .inl (cI, 30, .inl (wr t_s ((6 : Int32) + x2) (rd t_begun ((((6 : Int32) + x1) - (1 : Int32)) - x2))))), (h_t_was, .inl (cI, 120, .inl t_was))] := hD
        refine lv_iinc (v := (x2 + 1)) (lv' := [(2, .int (x2 + 1)), (0, .ref h_t), (1, .int x1)]) hx hb dX11_turn_47 hl (k := 2) rfl rfl (by decide) rfl (fun ls hl => ?_)
        refine lv_goto (tgt := 20) hx hb dX11_turn_50 (by decide) ?_
        exact ih20 x1 (x2 + 1) t_states t_begun (wr t_s ((6 : Int32) + x2) (rd t_begun ((((6 : Int32) + x1) - (1 : Int32)) - x2))) t_was H locs ls hres hP hD hS (lv_sub hl [1, 2, 0] rfl)
  rw [fMD_turn] at hres
  refine lv_aload_n hx hb dX11_turn_0 rfl (lv_at hl 0 rfl) ?_
  refine va_get (D := (dC, dI)) (ci := 10) (v := .ref h_t_s) (C := RX11) (T := TX11) (N := 29) hx hb hts iMD_turn_X11_turn_1 hown hK hP 0 rfl rfl 0 (by decide) (hts _ kMD_turn_X11_turn_0) (fun _ h9 => h9) rfl dX11_turn_1 ?_
  refine lv_iconst (v := (0 : Int32)) hx hb dX11_turn_4 (by decide) ?_
  refine va_iald hx hb hK hP 2 0 rfl rfl (vin (by decide)) dX11_turn_5 ?_
  refine lv_istore_n (lv' := [(1, .int (rd t_s (0 : Int32))), (0, .ref h_t)]) hx hb dX11_turn_6 rfl hl (by decide) rfl (fun ls hl => ?_)
  refine lv_iload_n hx hb dX11_turn_7 rfl (lv_at hl 0 rfl) ?_
  refine lv_if_ne (tgt := 14) hx hb dX11_turn_8 (by decide) (fun c_5 => ?_) (fun c_5 => ?_)
  · have hres := ie_of hres c_5
    refine lv_aload_n hx hb dX11_turn_14 rfl (lv_at hl 1 rfl) ?_
    obtain ⟨o6, ho6, hres⟩ := bd_of hres
    have hPc := hP.sub (ws' := [(h_t, .inr (10, [.ref h_t_s, .ref h_t_was, .ref h_t_begun, .int t_states, .ref h_t_text, .int t_typed, .ref h_t_wrong, .ref h_t_cost, .ref h_t_first, .ref h_t_block, .ref h_t_many, .ref h_t_stack, .int t_height, .ref h_t_written, .int t_length, .ref h_t_own, .ref h_t_levelAt, .ref h_t_itemAt, .ref h_t_times, .int t_at, .int t_ownLength, .int t_depth, .int t_deepest, .int t_letters, .int t_repeats, .int t_corrections, .int t_mostCorrections, .int t_place, .int t_reason])), (h_t_begun, .inl (cI, 30, .inl t_begun)), (h_t_s, .inl (cI, 30, .inl t_s))]) [0, 1, 2] rfl
    have hDc := hD.sub (ws' := [(h_t, .inr (10, [.ref h_t_s, .ref h_t_was, .ref h_t_begun, .int t_states, .ref h_t_text, .int t_typed, .ref h_t_wrong, .ref h_t_cost, .ref h_t_first, .ref h_t_block, .ref h_t_many, .ref h_t_stack, .int t_height, .ref h_t_written, .int t_length, .ref h_t_own, .ref h_t_levelAt, .ref h_t_itemAt, .ref h_t_times, .int t_at, .int t_ownLength, .int t_depth, .int t_deepest, .int t_letters, .int t_repeats, .int t_corrections, .int t_mostCorrections, .int t_place, .int t_reason])), (h_t_begun, .inl (cI, 30, .inl t_begun)), (h_t_s, .inl (cI, 30, .inl t_s))]) [0, 1, 2] (by decide) rfl
    have hFc := va_free (wc := [(h_t, .inr (10, [.ref h_t_s, .ref h_t_was, .ref h_t_begun, .int t_states, .ref h_t_text, .int t_typed, .ref h_t_wrong, .ref h_t_cost, .ref h_t_first, .ref h_t_block, .ref h_t_many, .ref h_t_stack, .int t_height, .ref h_t_written, .int t_length, .ref h_t_own, .ref h_t_levelAt, .ref h_t_itemAt, .ref h_t_times, .int t_at, .int t_ownLength, .int t_depth, .int t_deepest, .int t_letters, .int t_repeats, .int t_corrections, .int t_mostCorrections, .int t_place, .int t_reason])), (h_t_begun, .inl (cI, 30, .inl t_begun)), (h_t_s, .inl (cI, 30, .inl t_s))]) hD hS hA [0, 1, 2] rfl
    refine va_callv (va_runV (As := []) (rest := []) ⟨hx, hb, hml, hown, hts⟩ (cMD_keeps l dC dI cI cJ cC cS h_t h_t_s h_t_was h_t_begun h_t_text h_t_wrong h_t_cost h_t_first h_t_block h_t_many h_t_stack h_t_written h_t_own h_t_levelAt h_t_itemAt h_t_times H.size t_states t_typed t_height t_length t_at t_ownLength t_depth t_deepest t_letters t_repeats t_corrections t_mostCorrections t_place t_reason t_begun t_s o6 ho6) (cwV 0 hts gX11_turn_X11_keeps rfl rfl rfl (by decide +kernel) ⟨Nat.le_of_ble_eq_true rfl, Nat.le_of_ble_eq_true rfl⟩) ⟨fun a U g mk q => by obtain ⟨q0, q1, qP, qK, qN, qD⟩ := q; exact ⟨q0, q1, qP, va_K.moved (u := U) (U := U.calling g mk a) (Vm.Alike.refl U.vm) qK, nwS (u := U) (U := U.calling g mk a) rfl qN, qD⟩, va_recv hK hPc (ci := 10) (q0 := 0) rfl rfl, fun U hU hW => ⟨rfl, by rw [hU], by rw [hU]; exact hPc, va_K.moved hW.alike hK, nwW hW hN, hDc.weaken (fun _ _ _ _ => trivial)⟩⟩ rfl rfl hl.1 rfl (lv_room (Nat.le_of_ble_eq_true rfl)) dX11_turn_15 ⟨Nat.zero_le _, Nat.zero_le _⟩) hS (fun q _ h => hFc q h) hFc (fun u9 t H1 locs ht hvm hw hB hz1 hk1 hS => ?_)
    obtain ⟨hP1, hK1, hD1⟩ := hB
    rw [ht] at hP1
    obtain ⟨hP, hD⟩ := va_join (wr := [(h_t_was, .inl (cI, 120, .inl t_was))]) (w1 := [(h_t, .inr (10, [.ref h_t_s, .ref h_t_was, .ref h_t_begun, .int t_states, .ref h_t_text, .int t_typed, .ref h_t_wrong, .ref h_t_cost, .ref h_t_first, .ref h_t_block, .ref h_t_many, .ref h_t_stack, .int t_height, .ref h_t_written, .int t_length, .ref h_t_own, .ref h_t_levelAt, .ref h_t_itemAt, .ref h_t_times, .int t_at, .int t_ownLength, .int t_depth, .int t_deepest, .int t_letters, .int t_repeats, .int t_corrections, .int t_mostCorrections, .int t_place, .int t_reason])), (h_t_begun, .inl (cI, 30, .inl o6)), (h_t_s, .inl (cI, 30, .inl t_s))]) hP hD [0, 1, 2] [3] rfl rfl (by decide) (by decide) hk1 hFc hP1 hD1
    generalize H1 = H at hP hS ⊢
    have hP : va_P (dC, dI) vwCl [(h_t_was, .inl (cI, 120, .inl t_was)), (h_t, .inr (10, [.ref h_t_s, .ref h_t_was, .ref h_t_begun, .int t_states, .ref h_t_text, .int t_typed, .ref h_t_wrong, .ref h_t_cost, .ref h_t_first, .ref h_t_block, .ref h_t_many, .ref h_t_stack, .int t_height, .ref h_t_written, .int t_length, .ref h_t_own, .ref h_t_levelAt, .ref h_t_itemAt, .ref h_t_times, .int t_at, .int t_ownLength, .int t_depth, .int t_deepest, .int t_letters, .int t_repeats, .int t_corrections, .int t_mostCorrections, .int t_place, .int t_reason])), (h_t_begun, .inl (cI, 30, .inl o6)), (h_t_s, .inl (cI, 30, .inl t_s))] H := hP
    have hD : va_D A [(h_t_was, .inl (cI, 120, .inl t_was)), (h_t, .inr (10, [.ref h_t_s, .ref h_t_was, .ref h_t_begun, .int t_states, .ref h_t_text, .int t_typed, .ref h_t_wrong, .ref h_t_cost, .ref h_t_first, .ref h_t_block, .ref h_t_many, .ref h_t_stack, .int t_height, .ref h_t_written, .int t_length, .ref h_t_own, .ref h_t_levelAt, .ref h_t_itemAt, .ref h_t_times, .int t_at, .int t_ownLength, .int t_depth, .int t_deepest, .int t_letters, .int t_repeats, .int t_corrections, .int t_mostCorrections, .int t_place, .int t_reason])), (h_t_begun, .inl (cI, 30, .inl o6)), (h_t_s, .inl (cI, 30, .inl t_s))] := hD
    refine lv_iconst (v := (0 : Int32)) hx hb dX11_turn_18 (by decide) ?_
    refine lv_istore_n (lv' := [(2, .int (0 : Int32)), (1, .int (rd t_s (0 : Int32))), (0, .ref h_t)]) hx hb dX11_turn_19 rfl hl (by decide) rfl (fun ls hl => ?_)
    exact hL20 FU (rd t_s (0 : Int32)) (0 : Int32) t_states o6 t_s t_was H locs ls hres (hP.sub [1, 2, 3, 0] rfl) (hD.sub [1, 2, 3, 0] (by decide) rfl) hS (lv_sub hl [2, 1, 0] rfl)
  · have hres := it_of hres c_5
    refine lv_ldc (v := (-1000002 : Int32)) hx hb hown (hts _ kMD_turn_X11_turn_3) dX11_turn_11 ?_
    obtain ⟨e9_0, e9_1, e9_2, e9_3, e9_4⟩ := tup5 hres
    subst e9_0
    subst e9_1
    subst e9_2
    subst e9_3
    subst e9_4
    rw [← hQQ]
    exact W.iret (v := (-1000002 : Int32)) hx hb hr (fun t ht hW => ⟨⟨(-1000002 : Int32), (), rfl, rfl, by rw [ht]; exact hP, va_K.moved hW.alike hK, hD⟩, hS.F ht⟩) hS.2.2 dX11_turn_13

-- MD_type
theorem kMD_type_X11_type_0 : Cond.fieldLink RX11 155 "RepeatNestsModel" "typed" "I" ∈ wsX11_type := by decide +kernel
theorem iMD_type_X11_type_1 : ∀ w ∈ wsX110, w ∈ wsX11_type := by decide +kernel
theorem kMD_type_X11_type_2 : Cond.fieldLink RX11 19 "RepeatNestsModel" "text" "[C" ∈ wsX11_type := by decide +kernel
theorem kMD_type_X11_type_3 : Cond.constant RX11 66 (-1000003) ∈ wsX11_type := by decide +kernel
theorem kMD_type_X11_type_4 : Cond.constant RX11 57 (-1000001) ∈ wsX11_type := by decide +kernel
set_option maxHeartbeats 4000000 in
set_option maxRecDepth 100000 in
theorem cMD_type (l : Launch) (dC : Nat → ClassId) (dI : Nat → Nat → Nat) (cI cJ cC cS : ClassId) (h_t h_t_s h_t_was h_t_begun h_t_text h_t_wrong h_t_cost h_t_first h_t_block h_t_many h_t_stack h_t_written h_t_own h_t_levelAt h_t_itemAt h_t_times : Nat) (sz : Nat) (t_states : Int32) (t_typed : Int32) (t_height : Int32) (t_length : Int32) (t_at : Int32) (t_ownLength : Int32) (t_depth : Int32) (t_deepest : Int32) (t_letters : Int32) (t_repeats : Int32) (t_corrections : Int32) (t_mostCorrections : Int32) (t_place : Int32) (t_reason : Int32) (t_text : Nat → Int32) (x1 : Int32) (r : Int32) (y_t_typed : Int32) (y_t_text : Nat → Int32) (hres : fMD_type t_typed t_text x1 = some (r, y_t_typed, y_t_text)) :
    Met l yX11_type wsX11_type ({ frames := 1, cells := 0, slots := 0, locals := 22 } : Room) (va_Pc [.ref h_t, .int x1] (fun (U : State) => U.heap.size = sz ∧ va_P (dC, dI) vwCl [(h_t, .inr (10, [.ref h_t_s, .ref h_t_was, .ref h_t_begun, .int t_states, .ref h_t_text, .int t_typed, .ref h_t_wrong, .ref h_t_cost, .ref h_t_first, .ref h_t_block, .ref h_t_many, .ref h_t_stack, .int t_height, .ref h_t_written, .int t_length, .ref h_t_own, .ref h_t_levelAt, .ref h_t_itemAt, .ref h_t_times, .int t_at, .int t_ownLength, .int t_depth, .int t_deepest, .int t_letters, .int t_repeats, .int t_corrections, .int t_mostCorrections, .int t_place, .int t_reason])), (h_t_text, .inl (cC, 60, .inl t_text))] U.heap ∧ va_K (dC, dI) vwCl (tyA cI cJ cC cS) U ∧ nwN U ∧ va_D (fun _ => True) [(h_t, .inr (10, [.ref h_t_s, .ref h_t_was, .ref h_t_begun, .int t_states, .ref h_t_text, .int t_typed, .ref h_t_wrong, .ref h_t_cost, .ref h_t_first, .ref h_t_block, .ref h_t_many, .ref h_t_stack, .int t_height, .ref h_t_written, .int t_length, .ref h_t_own, .ref h_t_levelAt, .ref h_t_itemAt, .ref h_t_times, .int t_at, .int t_ownLength, .int t_depth, .int t_deepest, .int t_letters, .int t_repeats, .int t_corrections, .int t_mostCorrections, .int t_place, .int t_reason])), (h_t_text, .inl (cC, 60, .inl t_text))])) (va_Qi (fun (r9 : Int32) (_ : Unit) => r9 = r) (fun (_ : Unit) (t : State) => va_P (dC, dI) vwCl [(h_t, .inr (10, [.ref h_t_s, .ref h_t_was, .ref h_t_begun, .int t_states, .ref h_t_text, .int y_t_typed, .ref h_t_wrong, .ref h_t_cost, .ref h_t_first, .ref h_t_block, .ref h_t_many, .ref h_t_stack, .int t_height, .ref h_t_written, .int t_length, .ref h_t_own, .ref h_t_levelAt, .ref h_t_itemAt, .ref h_t_times, .int t_at, .int t_ownLength, .int t_depth, .int t_deepest, .int t_letters, .int t_repeats, .int t_corrections, .int t_mostCorrections, .int t_place, .int t_reason])), (h_t_text, .inl (cC, 60, .inl y_t_text))] t.heap ∧ va_K (dC, dI) vwCl (tyA cI cJ cC cS) t ∧ va_D (va_A [(h_t, .inr (10, [.ref h_t_s, .ref h_t_was, .ref h_t_begun, .int t_states, .ref h_t_text, .int t_typed, .ref h_t_wrong, .ref h_t_cost, .ref h_t_first, .ref h_t_block, .ref h_t_many, .ref h_t_stack, .int t_height, .ref h_t_written, .int t_length, .ref h_t_own, .ref h_t_levelAt, .ref h_t_itemAt, .ref h_t_times, .int t_at, .int t_ownLength, .int t_depth, .int t_deepest, .int t_letters, .int t_repeats, .int t_corrections, .int t_mostCorrections, .int t_place, .int t_reason])), (h_t_text, .inl (cC, 60, .inl t_text))] sz) [(h_t, .inr (10, [.ref h_t_s, .ref h_t_was, .ref h_t_begun, .int t_states, .ref h_t_text, .int y_t_typed, .ref h_t_wrong, .ref h_t_cost, .ref h_t_first, .ref h_t_block, .ref h_t_many, .ref h_t_stack, .int t_height, .ref h_t_written, .int t_length, .ref h_t_own, .ref h_t_levelAt, .ref h_t_itemAt, .ref h_t_times, .int t_at, .int t_ownLength, .int t_depth, .int t_deepest, .int t_letters, .int t_repeats, .int t_corrections, .int t_mostCorrections, .int t_place, .int t_reason])), (h_t_text, .inl (cC, 60, .inl y_t_text))]) (va_A [(h_t, .inr (10, [.ref h_t_s, .ref h_t_was, .ref h_t_begun, .int t_states, .ref h_t_text, .int t_typed, .ref h_t_wrong, .ref h_t_cost, .ref h_t_first, .ref h_t_block, .ref h_t_many, .ref h_t_stack, .int t_height, .ref h_t_written, .int t_length, .ref h_t_own, .ref h_t_levelAt, .ref h_t_itemAt, .ref h_t_times, .int t_at, .int t_ownLength, .int t_depth, .int t_deepest, .int t_letters, .int t_repeats, .int t_corrections, .int t_mostCorrections, .int t_place, .int t_reason])), (h_t_text, .inl (cC, 60, .inl t_text))] sz)) 0 0 (va_A [(h_t, .inr (10, [.ref h_t_s, .ref h_t_was, .ref h_t_begun, .int t_states, .ref h_t_text, .int t_typed, .ref h_t_wrong, .ref h_t_cost, .ref h_t_first, .ref h_t_block, .ref h_t_many, .ref h_t_stack, .int t_height, .ref h_t_written, .int t_length, .ref h_t_own, .ref h_t_levelAt, .ref h_t_itemAt, .ref h_t_times, .int t_at, .int t_ownLength, .int t_depth, .int t_deepest, .int t_letters, .int t_repeats, .int t_corrections, .int t_mostCorrections, .int t_place, .int t_reason])), (h_t_text, .inl (cC, 60, .inl t_text))] sz) := by
  refine Met.ofW (cc := cX11_type) (maxL := 2) (ret := (some .int)) (by decide) rfl ?_
  intro p e s m args below meth c s₁ B hml hv
  obtain ⟨hargs, hsz, hP, hK, hN, hD0⟩ := hv
  have hx := B.exec
  have hb := B.bytes
  have hr := B.returns
  have hts := atoms_spec (ws := wsX11_type) B.pre
  have hown : s.vm.findClass RX11 = some m.cls := findClass_of_methodNamed B.named
  have hlocks := B.notSynchronized
  subst hsz
  have hD := hD0.self (sz := s.heap.size)
  generalize hAe : va_A [(h_t, .inr (10, [.ref h_t_s, .ref h_t_was, .ref h_t_begun, .int t_states, .ref h_t_text, .int t_typed, .ref h_t_wrong, .ref h_t_cost, .ref h_t_first, .ref h_t_block, .ref h_t_many, .ref h_t_stack, .int t_height, .ref h_t_written, .int t_length, .ref h_t_own, .ref h_t_levelAt, .ref h_t_itemAt, .ref h_t_times, .int t_at, .int t_ownLength, .int t_depth, .int t_deepest, .int t_letters, .int t_repeats, .int t_corrections, .int t_mostCorrections, .int t_place, .int t_reason])), (h_t_text, .inl (cC, 60, .inl t_text))] s.heap.size = A at hD ⊢
  have hA : ∀ q : Nat, s.heap.size ≤ q → A q := fun q h => by rw [← hAe]; exact Or.inr h
  have hS : va_S A s.heap s.heap [] := va_S.rf
  have hP : va_P (dC, dI) vwCl [(h_t, .inr (10, [.ref h_t_s, .ref h_t_was, .ref h_t_begun, .int t_states, .ref h_t_text, .int t_typed, .ref h_t_wrong, .ref h_t_cost, .ref h_t_first, .ref h_t_block, .ref h_t_many, .ref h_t_stack, .int t_height, .ref h_t_written, .int t_length, .ref h_t_own, .ref h_t_levelAt, .ref h_t_itemAt, .ref h_t_times, .int t_at, .int t_ownLength, .int t_depth, .int t_deepest, .int t_letters, .int t_repeats, .int t_corrections, .int t_mostCorrections, .int t_place, .int t_reason])), (h_t_text, .inl (cC, 60, .inl t_text))] s.heap := hP
  have hl := lv_entry [.ref h_t, .int x1] (n := 2) (Nat.le_of_ble_eq_true rfl)
  rw [show entryFrame m args 2 = entryFrame m ([.ref h_t, .int x1] : List Value).toArray 2 from by rw [hargs], lg_entry_eq]
  generalize (lg_sl [.ref h_t, .int x1] ++ List.replicate (2 - (lg_sl [.ref h_t, .int x1]).length) Slot.unset).toArray = ls at hl ⊢
  have hl : lv_has ls 2 [(0, .ref h_t), (1, .int x1)] := hl
  generalize hQQ : MQ below (va_Qi (fun (r9 : Int32) (_ : Unit) => r9 = r) (fun (_ : Unit) (t : State) => va_P (dC, dI) vwCl [(h_t, .inr (10, [.ref h_t_s, .ref h_t_was, .ref h_t_begun, .int t_states, .ref h_t_text, .int y_t_typed, .ref h_t_wrong, .ref h_t_cost, .ref h_t_first, .ref h_t_block, .ref h_t_many, .ref h_t_stack, .int t_height, .ref h_t_written, .int t_length, .ref h_t_own, .ref h_t_levelAt, .ref h_t_itemAt, .ref h_t_times, .int t_at, .int t_ownLength, .int t_depth, .int t_deepest, .int t_letters, .int t_repeats, .int t_corrections, .int t_mostCorrections, .int t_place, .int t_reason])), (h_t_text, .inl (cC, 60, .inl y_t_text))] t.heap ∧ va_K (dC, dI) vwCl (tyA cI cJ cC cS) t ∧ va_D A [(h_t, .inr (10, [.ref h_t_s, .ref h_t_was, .ref h_t_begun, .int t_states, .ref h_t_text, .int y_t_typed, .ref h_t_wrong, .ref h_t_cost, .ref h_t_first, .ref h_t_block, .ref h_t_many, .ref h_t_stack, .int t_height, .ref h_t_written, .int t_length, .ref h_t_own, .ref h_t_levelAt, .ref h_t_itemAt, .ref h_t_times, .int t_at, .int t_ownLength, .int t_depth, .int t_deepest, .int t_letters, .int t_repeats, .int t_corrections, .int t_mostCorrections, .int t_place, .int t_reason])), (h_t_text, .inl (cC, 60, .inl y_t_text))]) A) args s 0 0 A = QQ
  obtain ⟨H, hH⟩ : ∃ H : Heap, H = s.heap := ⟨_, rfl⟩
  obtain ⟨locs, hlocs⟩ : ∃ locs : List Loc, locs = [] := ⟨_, rfl⟩
  rw [← hH] at hP
  have hS : va_S A s.heap H locs := by rw [hH, hlocs]; exact hS
  suffices hZ : W p l e (headSpec wsX11_type ({ frames := 1, cells := 0, slots := 0, locals := 22 } : Room)).room s m args below meth c H locs 0 0 QQ (F0 m 0 ls []) by rw [hH, hlocs] at hZ; exact hZ
  clear hH hlocs
  rw [fMD_type] at hres
  refine lv_iload_n hx hb dX11_type_0 rfl (lv_at hl 1 rfl) ?_
  refine lv_bipush (v := (32 : Int32)) hx hb dX11_type_1 (by decide) ?_
  refine lv_bipush (v := (126 : Int32)) hx hb dX11_type_3 (by decide) ?_
  obtain ⟨o1, ho1, hres⟩ := bd_of hres
  have hPc := hP.sub (ws' := []) [] rfl
  have hDc := hD.sub (ws' := []) [] (by decide) rfl
  have hFc := va_free (wc := []) hD hS hA [] rfl
  refine va_calli (va_runS (As := [.int x1, .int (32 : Int32), .int (126 : Int32)]) (rest := []) ⟨hx, hb, hml, hown, hts⟩ (cMD_in l dC dI cI cJ cC cS H.size x1 (32 : Int32) (126 : Int32) o1 ho1) (va_cwS 3 hts gX11_type_X11_in rfl rfl rfl (by decide +kernel) ⟨Nat.le_of_ble_eq_true rfl, Nat.le_of_ble_eq_true rfl⟩) ⟨fun a U g mk q => by obtain ⟨q0, q1, qP, qK, qN, qD⟩ := q; exact ⟨q0, q1, qP, va_K.moved (u := U) (U := U.calling g mk a) (Vm.Alike.refl U.vm) qK, nwS (u := U) (U := U.calling g mk a) rfl qN, qD⟩, fun U hU hW => ⟨rfl, by rw [hU], by rw [hU]; exact hPc, va_K.moved hW.alike hK, nwW hW hN, hDc.weaken (fun _ _ _ _ => trivial)⟩⟩ rfl rfl hl.1 rfl (lv_room (Nat.le_of_ble_eq_true rfl)) dX11_type_5 ⟨Nat.zero_le _, Nat.zero_le _⟩) hS (fun q _ h => hFc q h) hFc (fun r9 u9 t H1 locs ht hvm hw hB hz1 hk1 hS => ?_)
  have hw := hw.symm
  subst hw
  obtain ⟨hP1, hK1, hD1⟩ := hB
  rw [ht] at hP1
  obtain ⟨hP, hD⟩ := va_join (wr := [(h_t, .inr (10, [.ref h_t_s, .ref h_t_was, .ref h_t_begun, .int t_states, .ref h_t_text, .int t_typed, .ref h_t_wrong, .ref h_t_cost, .ref h_t_first, .ref h_t_block, .ref h_t_many, .ref h_t_stack, .int t_height, .ref h_t_written, .int t_length, .ref h_t_own, .ref h_t_levelAt, .ref h_t_itemAt, .ref h_t_times, .int t_at, .int t_ownLength, .int t_depth, .int t_deepest, .int t_letters, .int t_repeats, .int t_corrections, .int t_mostCorrections, .int t_place, .int t_reason])), (h_t_text, .inl (cC, 60, .inl t_text))]) (w1 := []) hP hD [] [0, 1] rfl rfl (by decide) (by decide) hk1 hFc hP1 hD1
  generalize H1 = H at hP hS ⊢
  have hP : va_P (dC, dI) vwCl [(h_t, .inr (10, [.ref h_t_s, .ref h_t_was, .ref h_t_begun, .int t_states, .ref h_t_text, .int t_typed, .ref h_t_wrong, .ref h_t_cost, .ref h_t_first, .ref h_t_block, .ref h_t_many, .ref h_t_stack, .int t_height, .ref h_t_written, .int t_length, .ref h_t_own, .ref h_t_levelAt, .ref h_t_itemAt, .ref h_t_times, .int t_at, .int t_ownLength, .int t_depth, .int t_deepest, .int t_letters, .int t_repeats, .int t_corrections, .int t_mostCorrections, .int t_place, .int t_reason])), (h_t_text, .inl (cC, 60, .inl t_text))] H := hP
  have hD : va_D A [(h_t, .inr (10, [.ref h_t_s, .ref h_t_was, .ref h_t_begun, .int t_states, .ref h_t_text, .int t_typed, .ref h_t_wrong, .ref h_t_cost, .ref h_t_first, .ref h_t_block, .ref h_t_many, .ref h_t_stack, .int t_height, .ref h_t_written, .int t_length, .ref h_t_own, .ref h_t_levelAt, .ref h_t_itemAt, .ref h_t_times, .int t_at, .int t_ownLength, .int t_depth, .int t_deepest, .int t_letters, .int t_repeats, .int t_corrections, .int t_mostCorrections, .int t_place, .int t_reason])), (h_t_text, .inl (cC, 60, .inl t_text))] := hD
  refine lv_if_ne (tgt := 14) hx hb dX11_type_8 (by decide) (fun c_2 => ?_) (fun c_2 => ?_)
  · have hres := ie_of hres c_2
    refine lv_aload_n hx hb dX11_type_14 rfl (lv_at hl 0 rfl) ?_
    refine va_get (D := (dC, dI)) (ci := 10) (v := .int t_typed) (C := RX11) (T := TX11) (N := 29) hx hb hts iMD_type_X11_type_1 hown hK hP 0 rfl rfl 5 (by decide) (hts _ kMD_type_X11_type_0) (fun _ h9 => h9) rfl dX11_type_15 ?_
    refine lv_bipush (v := (60 : Int32)) hx hb dX11_type_18 (by decide) ?_
    refine lv_icmp_ne (tgt := 26) hx hb dX11_type_20 (by decide) (fun c_3 => ?_) (fun c_3 => ?_)
    · have hres := ie_of hres c_3
      refine lv_aload_n hx hb dX11_type_26 rfl (lv_at hl 0 rfl) ?_
      refine va_get (D := (dC, dI)) (ci := 10) (v := .ref h_t_text) (C := RX11) (T := TX11) (N := 29) hx hb hts iMD_type_X11_type_1 hown hK hP 0 rfl rfl 4 (by decide) (hts _ kMD_type_X11_type_2) (fun _ h9 => h9) rfl dX11_type_27 ?_
      refine lv_aload_n hx hb dX11_type_30 rfl (lv_at hl 0 rfl) ?_
      refine va_get (D := (dC, dI)) (ci := 10) (v := .int t_typed) (C := RX11) (T := TX11) (N := 29) hx hb hts iMD_type_X11_type_1 hown hK hP 0 rfl rfl 5 (by decide) (hts _ kMD_type_X11_type_0) (fun _ h9 => h9) rfl dX11_type_31 ?_
      refine lv_iload_n hx hb dX11_type_34 rfl (lv_at hl 1 rfl) ?_
      refine lv_i2c (v := (Int32.toUInt32 x1 % 65536).toInt32) hx hb dX11_type_35 rfl ?_
      obtain ⟨c_4, hres⟩ := ck_of hres
      refine va_cast hx hb hK hP hD hS 1 2 rfl rfl c_4 dX11_type_36 (fun H locs hP hD hS => ?_)
      have hP : va_P (dC, dI) vwCl [(h_t, .inr (10, [.ref h_t_s, .ref h_t_was, .ref h_t_begun, .int t_states, .ref h_t_text, .int t_typed, .ref h_t_wrong, .ref h_t_cost, .ref h_t_first, .ref h_t_block, .ref h_t_many, .ref h_t_stack, .int t_height, .ref h_t_written, .int t_length, .ref h_t_own, .ref h_t_levelAt, .ref h_t_itemAt, .ref h_t_times, .int t_at, .int t_ownLength, .int t_depth, .int t_deepest, .int t_letters, .int t_repeats, .int t_corrections, .int t_mostCorrections, .int t_place, .int t_reason])), (h_t_text, .inl (cC, 60, .inl (wrC t_text t_typed ((Int32.toUInt32 x1 % 65536).toInt32))))] H := hP
      have hD : va_D A [(h_t, .inr (10, [.ref h_t_s, .ref h_t_was, .ref h_t_begun, .int t_states, .ref h_t_text, .int t_typed, .ref h_t_wrong, .ref h_t_cost, .ref h_t_first, .ref h_t_block, .ref h_t_many, .ref h_t_stack, .int t_height, .ref h_t_written, .int t_length, .ref h_t_own, .ref h_t_levelAt, .ref h_t_itemAt, .ref h_t_times, .int t_at, .int t_ownLength, .int t_depth, .int t_deepest, .int t_letters, .int t_repeats, .int t_corrections, .int t_mostCorrections, .int t_place, .int t_reason])), (h_t_text, .inl (cC, 60, .inl (wrC t_text t_typed ((Int32.toUInt32 x1 % 65536).toInt32))))] := hD
      refine lv_aload_n hx hb dX11_type_37 rfl (lv_at hl 0 rfl) ?_
      refine lv_dup hx hb dX11_type_38 rfl ?_
      refine va_get (D := (dC, dI)) (ci := 10) (v := .int t_typed) (C := RX11) (T := TX11) (N := 29) hx hb hts iMD_type_X11_type_1 hown hK hP 0 rfl rfl 5 (by decide) (hts _ kMD_type_X11_type_0) (fun _ h9 => h9) rfl dX11_type_39 ?_
      refine lv_iconst (v := (1 : Int32)) hx hb dX11_type_42 (by decide) ?_
      refine lv_iadd hx hb dX11_type_43 ?_
      refine va_put (D := (dC, dI)) (ci := 10) (v := .int (t_typed + (1 : Int32))) (ty := .int) (C := RX11) (T := TX11) (N := 29) hx hb hts iMD_type_X11_type_1 tyX11 tyX11_ok nmX11 hown hK hP hD hS 0 rfl rfl 5 (by decide) (hts _ kMD_type_X11_type_0) (fun _ h9 => h9) rfl (by decide +kernel) rfl rfl (Nat.le_of_ble_eq_true rfl) dX11_type_44 (fun H locs hP hD hS => ?_)
      have hP : va_P (dC, dI) vwCl [(h_t, .inr (10, [.ref h_t_s, .ref h_t_was, .ref h_t_begun, .int t_states, .ref h_t_text, .int (t_typed + (1 : Int32)), .ref h_t_wrong, .ref h_t_cost, .ref h_t_first, .ref h_t_block, .ref h_t_many, .ref h_t_stack, .int t_height, .ref h_t_written, .int t_length, .ref h_t_own, .ref h_t_levelAt, .ref h_t_itemAt, .ref h_t_times, .int t_at, .int t_ownLength, .int t_depth, .int t_deepest, .int t_letters, .int t_repeats, .int t_corrections, .int t_mostCorrections, .int t_place, .int t_reason])), (h_t_text, .inl (cC, 60, .inl (wrC t_text t_typed ((Int32.toUInt32 x1 % 65536).toInt32))))] H := hP
      have hD : va_D A [(h_t, .inr (10, [.ref h_t_s, .ref h_t_was, .ref h_t_begun, .int t_states, .ref h_t_text, .int (t_typed + (1 : Int32)), .ref h_t_wrong, .ref h_t_cost, .ref h_t_first, .ref h_t_block, .ref h_t_many, .ref h_t_stack, .int t_height, .ref h_t_written, .int t_length, .ref h_t_own, .ref h_t_levelAt, .ref h_t_itemAt, .ref h_t_times, .int t_at, .int t_ownLength, .int t_depth, .int t_deepest, .int t_letters, .int t_repeats, .int t_corrections, .int t_mostCorrections, .int t_place, .int t_reason])), (h_t_text, .inl (cC, 60, .inl (wrC t_text t_typed ((Int32.toUInt32 x1 % 65536).toInt32))))] := hD
      refine lv_aload_n hx hb dX11_type_47 rfl (lv_at hl 0 rfl) ?_
      refine va_get (D := (dC, dI)) (ci := 10) (v := .int (t_typed + (1 : Int32))) (C := RX11) (T := TX11) (N := 29) hx hb hts iMD_type_X11_type_1 hown hK hP 0 rfl rfl 5 (by decide) (hts _ kMD_type_X11_type_0) (fun _ h9 => h9) rfl dX11_type_48 ?_
      obtain ⟨e9_0, e9_1, e9_2⟩ := tup3 hres
      subst e9_0
      subst e9_1
      subst e9_2
      rw [← hQQ]
      exact W.iret (v := (t_typed + (1 : Int32))) hx hb hr (fun t ht hW => ⟨⟨(t_typed + (1 : Int32)), (), rfl, rfl, by rw [ht]; exact hP, va_K.moved hW.alike hK, hD⟩, hS.F ht⟩) hS.2.2 dX11_type_51
    · have hres := it_of hres c_3
      refine lv_ldc (v := (-1000003 : Int32)) hx hb hown (hts _ kMD_type_X11_type_3) dX11_type_23 ?_
      obtain ⟨e9_0, e9_1, e9_2⟩ := tup3 hres
      subst e9_0
      subst e9_1
      subst e9_2
      rw [← hQQ]
      exact W.iret (v := (-1000003 : Int32)) hx hb hr (fun t ht hW => ⟨⟨(-1000003 : Int32), (), rfl, rfl, by rw [ht]; exact hP, va_K.moved hW.alike hK, hD⟩, hS.F ht⟩) hS.2.2 dX11_type_25
  · have hres := it_of hres c_2
    refine lv_ldc (v := (-1000001 : Int32)) hx hb hown (hts _ kMD_type_X11_type_4) dX11_type_11 ?_
    obtain ⟨e9_0, e9_1, e9_2⟩ := tup3 hres
    subst e9_0
    subst e9_1
    subst e9_2
    rw [← hQQ]
    exact W.iret (v := (-1000001 : Int32)) hx hb hr (fun t ht hW => ⟨⟨(-1000001 : Int32), (), rfl, rfl, by rw [ht]; exact hP, va_K.moved hW.alike hK, hD⟩, hS.F ht⟩) hS.2.2 dX11_type_13

-- MD_undo
theorem kMD_undo_X11_undo_0 : Cond.fieldLink RX11 58 "RepeatNestsModel" "states" "I" ∈ wsX11_undo := by decide +kernel
theorem iMD_undo_X11_undo_1 : ∀ w ∈ wsX110, w ∈ wsX11_undo := by decide +kernel
theorem kMD_undo_X11_undo_2 : Cond.fieldLink RX11 7 "RepeatNestsModel" "s" "[I" ∈ wsX11_undo := by decide +kernel
theorem kMD_undo_X11_undo_3 : Cond.fieldLink RX11 13 "RepeatNestsModel" "was" "[I" ∈ wsX11_undo := by decide +kernel
theorem kMD_undo_X11_undo_4 : Cond.constant RX11 74 (-1000002) ∈ wsX11_undo := by decide +kernel
set_option maxHeartbeats 4000000 in
set_option maxRecDepth 100000 in
theorem cMD_undo (l : Launch) (dC : Nat → ClassId) (dI : Nat → Nat → Nat) (cI cJ cC cS : ClassId) (h_t h_t_s h_t_was h_t_begun h_t_text h_t_wrong h_t_cost h_t_first h_t_block h_t_many h_t_stack h_t_written h_t_own h_t_levelAt h_t_itemAt h_t_times : Nat) (sz : Nat) (t_states : Int32) (t_typed : Int32) (t_height : Int32) (t_length : Int32) (t_at : Int32) (t_ownLength : Int32) (t_depth : Int32) (t_deepest : Int32) (t_letters : Int32) (t_repeats : Int32) (t_corrections : Int32) (t_mostCorrections : Int32) (t_place : Int32) (t_reason : Int32) (t_s : Nat → Int32) (t_was : Nat → Int32) (r : Int32) (y_t_states : Int32) (y_t_s : Nat → Int32) (hres : fMD_undo t_was t_states t_s = some (r, y_t_states, y_t_s)) :
    Met l yX11_undo wsX11_undo ({ frames := 0, cells := 0, slots := 0, locals := 0 } : Room) (va_Pc [.ref h_t] (fun (U : State) => U.heap.size = sz ∧ va_P (dC, dI) vwCl [(h_t, .inr (10, [.ref h_t_s, .ref h_t_was, .ref h_t_begun, .int t_states, .ref h_t_text, .int t_typed, .ref h_t_wrong, .ref h_t_cost, .ref h_t_first, .ref h_t_block, .ref h_t_many, .ref h_t_stack, .int t_height, .ref h_t_written, .int t_length, .ref h_t_own, .ref h_t_levelAt, .ref h_t_itemAt, .ref h_t_times, .int t_at, .int t_ownLength, .int t_depth, .int t_deepest, .int t_letters, .int t_repeats, .int t_corrections, .int t_mostCorrections, .int t_place, .int t_reason])), (h_t_s, .inl (cI, 30, .inl t_s)), (h_t_was, .inl (cI, 120, .inl t_was))] U.heap ∧ va_K (dC, dI) vwCl (tyA cI cJ cC cS) U ∧ nwN U ∧ va_D (fun _ => True) [(h_t, .inr (10, [.ref h_t_s, .ref h_t_was, .ref h_t_begun, .int t_states, .ref h_t_text, .int t_typed, .ref h_t_wrong, .ref h_t_cost, .ref h_t_first, .ref h_t_block, .ref h_t_many, .ref h_t_stack, .int t_height, .ref h_t_written, .int t_length, .ref h_t_own, .ref h_t_levelAt, .ref h_t_itemAt, .ref h_t_times, .int t_at, .int t_ownLength, .int t_depth, .int t_deepest, .int t_letters, .int t_repeats, .int t_corrections, .int t_mostCorrections, .int t_place, .int t_reason])), (h_t_s, .inl (cI, 30, .inl t_s)), (h_t_was, .inl (cI, 120, .inl t_was))])) (va_Qi (fun (r9 : Int32) (_ : Unit) => r9 = r) (fun (_ : Unit) (t : State) => va_P (dC, dI) vwCl [(h_t, .inr (10, [.ref h_t_s, .ref h_t_was, .ref h_t_begun, .int y_t_states, .ref h_t_text, .int t_typed, .ref h_t_wrong, .ref h_t_cost, .ref h_t_first, .ref h_t_block, .ref h_t_many, .ref h_t_stack, .int t_height, .ref h_t_written, .int t_length, .ref h_t_own, .ref h_t_levelAt, .ref h_t_itemAt, .ref h_t_times, .int t_at, .int t_ownLength, .int t_depth, .int t_deepest, .int t_letters, .int t_repeats, .int t_corrections, .int t_mostCorrections, .int t_place, .int t_reason])), (h_t_s, .inl (cI, 30, .inl y_t_s)), (h_t_was, .inl (cI, 120, .inl t_was))] t.heap ∧ va_K (dC, dI) vwCl (tyA cI cJ cC cS) t ∧ va_D (va_A [(h_t, .inr (10, [.ref h_t_s, .ref h_t_was, .ref h_t_begun, .int t_states, .ref h_t_text, .int t_typed, .ref h_t_wrong, .ref h_t_cost, .ref h_t_first, .ref h_t_block, .ref h_t_many, .ref h_t_stack, .int t_height, .ref h_t_written, .int t_length, .ref h_t_own, .ref h_t_levelAt, .ref h_t_itemAt, .ref h_t_times, .int t_at, .int t_ownLength, .int t_depth, .int t_deepest, .int t_letters, .int t_repeats, .int t_corrections, .int t_mostCorrections, .int t_place, .int t_reason])), (h_t_s, .inl (cI, 30, .inl t_s)), (h_t_was, .inl (cI, 120, .inl t_was))] sz) [(h_t, .inr (10, [.ref h_t_s, .ref h_t_was, .ref h_t_begun, .int y_t_states, .ref h_t_text, .int t_typed, .ref h_t_wrong, .ref h_t_cost, .ref h_t_first, .ref h_t_block, .ref h_t_many, .ref h_t_stack, .int t_height, .ref h_t_written, .int t_length, .ref h_t_own, .ref h_t_levelAt, .ref h_t_itemAt, .ref h_t_times, .int t_at, .int t_ownLength, .int t_depth, .int t_deepest, .int t_letters, .int t_repeats, .int t_corrections, .int t_mostCorrections, .int t_place, .int t_reason])), (h_t_s, .inl (cI, 30, .inl y_t_s)), (h_t_was, .inl (cI, 120, .inl t_was))]) (va_A [(h_t, .inr (10, [.ref h_t_s, .ref h_t_was, .ref h_t_begun, .int t_states, .ref h_t_text, .int t_typed, .ref h_t_wrong, .ref h_t_cost, .ref h_t_first, .ref h_t_block, .ref h_t_many, .ref h_t_stack, .int t_height, .ref h_t_written, .int t_length, .ref h_t_own, .ref h_t_levelAt, .ref h_t_itemAt, .ref h_t_times, .int t_at, .int t_ownLength, .int t_depth, .int t_deepest, .int t_letters, .int t_repeats, .int t_corrections, .int t_mostCorrections, .int t_place, .int t_reason])), (h_t_s, .inl (cI, 30, .inl t_s)), (h_t_was, .inl (cI, 120, .inl t_was))] sz)) 0 0 (va_A [(h_t, .inr (10, [.ref h_t_s, .ref h_t_was, .ref h_t_begun, .int t_states, .ref h_t_text, .int t_typed, .ref h_t_wrong, .ref h_t_cost, .ref h_t_first, .ref h_t_block, .ref h_t_many, .ref h_t_stack, .int t_height, .ref h_t_written, .int t_length, .ref h_t_own, .ref h_t_levelAt, .ref h_t_itemAt, .ref h_t_times, .int t_at, .int t_ownLength, .int t_depth, .int t_deepest, .int t_letters, .int t_repeats, .int t_corrections, .int t_mostCorrections, .int t_place, .int t_reason])), (h_t_s, .inl (cI, 30, .inl t_s)), (h_t_was, .inl (cI, 120, .inl t_was))] sz) := by
  refine Met.ofW (cc := cX11_undo) (maxL := 2) (ret := (some .int)) (by decide) rfl ?_
  intro p e s m args below meth c s₁ B hml hv
  obtain ⟨hargs, hsz, hP, hK, hN, hD0⟩ := hv
  have hx := B.exec
  have hb := B.bytes
  have hr := B.returns
  have hts := atoms_spec (ws := wsX11_undo) B.pre
  have hown : s.vm.findClass RX11 = some m.cls := findClass_of_methodNamed B.named
  have hlocks := B.notSynchronized
  subst hsz
  have hD := hD0.self (sz := s.heap.size)
  generalize hAe : va_A [(h_t, .inr (10, [.ref h_t_s, .ref h_t_was, .ref h_t_begun, .int t_states, .ref h_t_text, .int t_typed, .ref h_t_wrong, .ref h_t_cost, .ref h_t_first, .ref h_t_block, .ref h_t_many, .ref h_t_stack, .int t_height, .ref h_t_written, .int t_length, .ref h_t_own, .ref h_t_levelAt, .ref h_t_itemAt, .ref h_t_times, .int t_at, .int t_ownLength, .int t_depth, .int t_deepest, .int t_letters, .int t_repeats, .int t_corrections, .int t_mostCorrections, .int t_place, .int t_reason])), (h_t_s, .inl (cI, 30, .inl t_s)), (h_t_was, .inl (cI, 120, .inl t_was))] s.heap.size = A at hD ⊢
  have hA : ∀ q : Nat, s.heap.size ≤ q → A q := fun q h => by rw [← hAe]; exact Or.inr h
  have hS : va_S A s.heap s.heap [] := va_S.rf
  have hP : va_P (dC, dI) vwCl [(h_t, .inr (10, [.ref h_t_s, .ref h_t_was, .ref h_t_begun, .int t_states, .ref h_t_text, .int t_typed, .ref h_t_wrong, .ref h_t_cost, .ref h_t_first, .ref h_t_block, .ref h_t_many, .ref h_t_stack, .int t_height, .ref h_t_written, .int t_length, .ref h_t_own, .ref h_t_levelAt, .ref h_t_itemAt, .ref h_t_times, .int t_at, .int t_ownLength, .int t_depth, .int t_deepest, .int t_letters, .int t_repeats, .int t_corrections, .int t_mostCorrections, .int t_place, .int t_reason])), (h_t_s, .inl (cI, 30, .inl t_s)), (h_t_was, .inl (cI, 120, .inl t_was))] s.heap := hP
  have hl := lv_entry [.ref h_t] (n := 2) (Nat.le_of_ble_eq_true rfl)
  rw [show entryFrame m args 2 = entryFrame m ([.ref h_t] : List Value).toArray 2 from by rw [hargs], lg_entry_eq]
  generalize (lg_sl [.ref h_t] ++ List.replicate (2 - (lg_sl [.ref h_t]).length) Slot.unset).toArray = ls at hl ⊢
  have hl : lv_has ls 2 [(0, .ref h_t)] := hl
  generalize hQQ : MQ below (va_Qi (fun (r9 : Int32) (_ : Unit) => r9 = r) (fun (_ : Unit) (t : State) => va_P (dC, dI) vwCl [(h_t, .inr (10, [.ref h_t_s, .ref h_t_was, .ref h_t_begun, .int y_t_states, .ref h_t_text, .int t_typed, .ref h_t_wrong, .ref h_t_cost, .ref h_t_first, .ref h_t_block, .ref h_t_many, .ref h_t_stack, .int t_height, .ref h_t_written, .int t_length, .ref h_t_own, .ref h_t_levelAt, .ref h_t_itemAt, .ref h_t_times, .int t_at, .int t_ownLength, .int t_depth, .int t_deepest, .int t_letters, .int t_repeats, .int t_corrections, .int t_mostCorrections, .int t_place, .int t_reason])), (h_t_s, .inl (cI, 30, .inl y_t_s)), (h_t_was, .inl (cI, 120, .inl t_was))] t.heap ∧ va_K (dC, dI) vwCl (tyA cI cJ cC cS) t ∧ va_D A [(h_t, .inr (10, [.ref h_t_s, .ref h_t_was, .ref h_t_begun, .int y_t_states, .ref h_t_text, .int t_typed, .ref h_t_wrong, .ref h_t_cost, .ref h_t_first, .ref h_t_block, .ref h_t_many, .ref h_t_stack, .int t_height, .ref h_t_written, .int t_length, .ref h_t_own, .ref h_t_levelAt, .ref h_t_itemAt, .ref h_t_times, .int t_at, .int t_ownLength, .int t_depth, .int t_deepest, .int t_letters, .int t_repeats, .int t_corrections, .int t_mostCorrections, .int t_place, .int t_reason])), (h_t_s, .inl (cI, 30, .inl y_t_s)), (h_t_was, .inl (cI, 120, .inl t_was))]) A) args s 0 0 A = QQ
  obtain ⟨H, hH⟩ : ∃ H : Heap, H = s.heap := ⟨_, rfl⟩
  obtain ⟨locs, hlocs⟩ : ∃ locs : List Loc, locs = [] := ⟨_, rfl⟩
  rw [← hH] at hP
  have hS : va_S A s.heap H locs := by rw [hH, hlocs]; exact hS
  suffices hZ : W p l e (headSpec wsX11_undo ({ frames := 0, cells := 0, slots := 0, locals := 0 } : Room)).room s m args below meth c H locs 0 0 QQ (F0 m 0 ls []) by rw [hH, hlocs] at hZ; exact hZ
  clear hH hlocs
  have hL22 : ∀ (n22 : Nat) , ∀ (x1 : Int32) (t_states : Int32) (t_s : Nat → Int32) (H : Heap) (locs : List Loc) (ls : Array Slot), fMD_undo_22 t_was n22 x1 t_states t_s = some (r, y_t_states, y_t_s) → va_P (dC, dI) vwCl [(h_t, .inr (10, [.ref h_t_s, .ref h_t_was, .ref h_t_begun, .int t_states, .ref h_t_text, .int t_typed, .ref h_t_wrong, .ref h_t_cost, .ref h_t_first, .ref h_t_block, .ref h_t_many, .ref h_t_stack, .int t_height, .ref h_t_written, .int t_length, .ref h_t_own, .ref h_t_levelAt, .ref h_t_itemAt, .ref h_t_times, .int t_at, .int t_ownLength, .int t_depth, .int t_deepest, .int t_letters, .int t_repeats, .int t_corrections, .int t_mostCorrections, .int t_place, .int t_reason])), (h_t_s, .inl (cI, 30, .inl t_s)), (h_t_was, .inl (cI, 120, .inl t_was))] H → va_D A [(h_t, .inr (10, [.ref h_t_s, .ref h_t_was, .ref h_t_begun, .int t_states, .ref h_t_text, .int t_typed, .ref h_t_wrong, .ref h_t_cost, .ref h_t_first, .ref h_t_block, .ref h_t_many, .ref h_t_stack, .int t_height, .ref h_t_written, .int t_length, .ref h_t_own, .ref h_t_levelAt, .ref h_t_itemAt, .ref h_t_times, .int t_at, .int t_ownLength, .int t_depth, .int t_deepest, .int t_letters, .int t_repeats, .int t_corrections, .int t_mostCorrections, .int t_place, .int t_reason])), (h_t_s, .inl (cI, 30, .inl t_s)), (h_t_was, .inl (cI, 120, .inl t_was))] → va_S A s.heap H locs → lv_has ls 2 [(0, .ref h_t), (1, .int x1)] → W p l e (headSpec wsX11_undo ({ frames := 0, cells := 0, slots := 0, locals := 0 } : Room)).room s m args below meth c H locs 0 0 QQ (F0 m 22 ls []) := by
    intro n22
    induction n22 with
    | zero =>
      intro x1 t_states t_s H locs ls hres
      rw [fMD_undo_22] at hres
      cases hres
    | succ n22 ih22 =>
      intro x1 t_states t_s H locs ls hres hP hD hS hl
      rw [fMD_undo_22] at hres
      refine lv_iload_n hx hb dX11_undo_22 rfl (lv_at hl 1 rfl) ?_
      refine lv_bipush (v := (30 : Int32)) hx hb dX11_undo_23 (by decide) ?_
      refine lv_icmp_ge (tgt := 54) hx hb dX11_undo_25 (by decide) (fun c_1 => ?_) (fun c_1 => ?_)
      · have hres := it_of hres c_1
        refine lv_aload_n hx hb dX11_undo_54 rfl (lv_at hl 0 rfl) ?_
        refine va_get (D := (dC, dI)) (ci := 10) (v := .int t_states) (C := RX11) (T := TX11) (N := 29) hx hb hts iMD_undo_X11_undo_1 hown hK hP 0 rfl rfl 3 (by decide) (hts _ kMD_undo_X11_undo_0) (fun _ h9 => h9) rfl dX11_undo_55 ?_
        obtain ⟨e9_0, e9_1, e9_2⟩ := tup3 hres
        subst e9_0
        subst e9_1
        subst e9_2
        rw [← hQQ]
        exact W.iret (v := t_states) hx hb hr (fun t ht hW => ⟨⟨t_states, (), rfl, rfl, by rw [ht]; exact hP, va_K.moved hW.alike hK, hD⟩, hS.F ht⟩) hS.2.2 dX11_undo_58
      · have hres := ie_of hres c_1
        refine lv_aload_n hx hb dX11_undo_28 rfl (lv_at hl 0 rfl) ?_
        refine va_get (D := (dC, dI)) (ci := 10) (v := .ref h_t_s) (C := RX11) (T := TX11) (N := 29) hx hb hts iMD_undo_X11_undo_1 hown hK hP 0 rfl rfl 0 (by decide) (hts _ kMD_undo_X11_undo_2) (fun _ h9 => h9) rfl dX11_undo_29 ?_
        refine lv_iload_n hx hb dX11_undo_32 rfl (lv_at hl 1 rfl) ?_
        refine lv_aload_n hx hb dX11_undo_33 rfl (lv_at hl 0 rfl) ?_
        refine va_get (D := (dC, dI)) (ci := 10) (v := .ref h_t_was) (C := RX11) (T := TX11) (N := 29) hx hb hts iMD_undo_X11_undo_1 hown hK hP 0 rfl rfl 1 (by decide) (hts _ kMD_undo_X11_undo_3) (fun _ h9 => h9) rfl dX11_undo_34 ?_
        refine lv_bipush (v := (30 : Int32)) hx hb dX11_undo_37 (by decide) ?_
        refine lv_aload_n hx hb dX11_undo_39 rfl (lv_at hl 0 rfl) ?_
        refine va_get (D := (dC, dI)) (ci := 10) (v := .int t_states) (C := RX11) (T := TX11) (N := 29) hx hb hts iMD_undo_X11_undo_1 hown hK hP 0 rfl rfl 3 (by decide) (hts _ kMD_undo_X11_undo_0) (fun _ h9 => h9) rfl dX11_undo_40 ?_
        refine lv_imul hx hb dX11_undo_43 ?_
        refine lv_iload_n hx hb dX11_undo_44 rfl (lv_at hl 1 rfl) ?_
        refine lv_iadd hx hb dX11_undo_45 ?_
        obtain ⟨c_2, hres⟩ := ck_of hres
        refine va_iald hx hb hK hP 2 0 rfl rfl c_2 dX11_undo_46 ?_
        obtain ⟨c_3, hres⟩ := ck_of hres
        refine va_iast hx hb hK hP hD hS 1 0 rfl rfl c_3 dX11_undo_47 (fun H locs hP hD hS => ?_)
        have hP : va_P (dC, dI) vwCl [(h_t, .inr (10, [.ref h_t_s, .ref h_t_was, .ref h_t_begun, .int t_states, .ref h_t_text, .int t_typed, .ref h_t_wrong, .ref h_t_cost, .ref h_t_first, .ref h_t_block, .ref h_t_many, .ref h_t_stack, .int t_height, .ref h_t_written, .int t_length, .ref h_t_own, .ref h_t_levelAt, .ref h_t_itemAt, .ref h_t_times, .int t_at, .int t_ownLength, .int t_depth, .int t_deepest, .int t_letters, .int t_repeats, .int t_corrections, .int t_mostCorrections, .int t_place, .int t_reason])), (h_t_s, .inl (cI, 30, .inl (wr t_s x1 (rd t_was (((30 : Int32) * t_states) + x1))))), (h_t_was, .inl (cI, 120, .inl t_was))] H := hP
        have hD : va_D A [(h_t, .inr (10, [.ref h_t_s, .ref h_t_was, .ref h_t_begun, .int t_states, .ref h_t_text, .int t_typed, .ref h_t_wrong, .ref h_t_cost, .ref h_t_first, .ref h_t_block, .ref h_t_many, .ref h_t_stack, .int t_height, .ref h_t_written, .int t_length, .ref h_t_own, .ref h_t_levelAt, .ref h_t_itemAt, .ref h_t_times, .int t_at, .int t_ownLength, .int t_depth, .int t_deepest, .int t_letters, .int t_repeats, .int t_corrections, .int t_mostCorrections, .int t_place, .int t_reason])), (h_t_s, .inl (cI, 30, .inl (wr t_s x1 (rd t_was (((30 : Int32) * t_states) + x1))))), (h_t_was, .inl (cI, 120, .inl t_was))] := hD
        refine lv_iinc (v := (x1 + 1)) (lv' := [(1, .int (x1 + 1)), (0, .ref h_t)]) hx hb dX11_undo_48 hl (k := 1) rfl rfl (by decide) rfl (fun ls hl => ?_)
        refine lv_goto (tgt := 22) hx hb dX11_undo_51 (by decide) ?_
        exact ih22 (x1 + 1) t_states (wr t_s x1 (rd t_was (((30 : Int32) * t_states) + x1))) H locs ls hres hP hD hS (lv_sub hl [1, 0] rfl)
  rw [fMD_undo] at hres
  refine lv_aload_n hx hb dX11_undo_0 rfl (lv_at hl 0 rfl) ?_
  refine va_get (D := (dC, dI)) (ci := 10) (v := .int t_states) (C := RX11) (T := TX11) (N := 29) hx hb hts iMD_undo_X11_undo_1 hown hK hP 0 rfl rfl 3 (by decide) (hts _ kMD_undo_X11_undo_0) (fun _ h9 => h9) rfl dX11_undo_1 ?_
  refine lv_if_ne (tgt := 10) hx hb dX11_undo_4 (by decide) (fun c_4 => ?_) (fun c_4 => ?_)
  · have hres := ie_of hres c_4
    refine lv_aload_n hx hb dX11_undo_10 rfl (lv_at hl 0 rfl) ?_
    refine lv_dup hx hb dX11_undo_11 rfl ?_
    refine va_get (D := (dC, dI)) (ci := 10) (v := .int t_states) (C := RX11) (T := TX11) (N := 29) hx hb hts iMD_undo_X11_undo_1 hown hK hP 0 rfl rfl 3 (by decide) (hts _ kMD_undo_X11_undo_0) (fun _ h9 => h9) rfl dX11_undo_12 ?_
    refine lv_iconst (v := (1 : Int32)) hx hb dX11_undo_15 (by decide) ?_
    refine lv_isub hx hb dX11_undo_16 ?_
    refine va_put (D := (dC, dI)) (ci := 10) (v := .int (t_states - (1 : Int32))) (ty := .int) (C := RX11) (T := TX11) (N := 29) hx hb hts iMD_undo_X11_undo_1 tyX11 tyX11_ok nmX11 hown hK hP hD hS 0 rfl rfl 3 (by decide) (hts _ kMD_undo_X11_undo_0) (fun _ h9 => h9) rfl (by decide +kernel) rfl rfl (Nat.le_of_ble_eq_true rfl) dX11_undo_17 (fun H locs hP hD hS => ?_)
    have hP : va_P (dC, dI) vwCl [(h_t, .inr (10, [.ref h_t_s, .ref h_t_was, .ref h_t_begun, .int (t_states - (1 : Int32)), .ref h_t_text, .int t_typed, .ref h_t_wrong, .ref h_t_cost, .ref h_t_first, .ref h_t_block, .ref h_t_many, .ref h_t_stack, .int t_height, .ref h_t_written, .int t_length, .ref h_t_own, .ref h_t_levelAt, .ref h_t_itemAt, .ref h_t_times, .int t_at, .int t_ownLength, .int t_depth, .int t_deepest, .int t_letters, .int t_repeats, .int t_corrections, .int t_mostCorrections, .int t_place, .int t_reason])), (h_t_s, .inl (cI, 30, .inl t_s)), (h_t_was, .inl (cI, 120, .inl t_was))] H := hP
    have hD : va_D A [(h_t, .inr (10, [.ref h_t_s, .ref h_t_was, .ref h_t_begun, .int (t_states - (1 : Int32)), .ref h_t_text, .int t_typed, .ref h_t_wrong, .ref h_t_cost, .ref h_t_first, .ref h_t_block, .ref h_t_many, .ref h_t_stack, .int t_height, .ref h_t_written, .int t_length, .ref h_t_own, .ref h_t_levelAt, .ref h_t_itemAt, .ref h_t_times, .int t_at, .int t_ownLength, .int t_depth, .int t_deepest, .int t_letters, .int t_repeats, .int t_corrections, .int t_mostCorrections, .int t_place, .int t_reason])), (h_t_s, .inl (cI, 30, .inl t_s)), (h_t_was, .inl (cI, 120, .inl t_was))] := hD
    refine lv_iconst (v := (0 : Int32)) hx hb dX11_undo_20 (by decide) ?_
    refine lv_istore_n (lv' := [(1, .int (0 : Int32)), (0, .ref h_t)]) hx hb dX11_undo_21 rfl hl (by decide) rfl (fun ls hl => ?_)
    exact hL22 FU (0 : Int32) (t_states - (1 : Int32)) t_s H locs ls hres hP hD hS (lv_sub hl [1, 0] rfl)
  · have hres := it_of hres c_4
    refine lv_ldc (v := (-1000002 : Int32)) hx hb hown (hts _ kMD_undo_X11_undo_4) dX11_undo_7 ?_
    obtain ⟨e9_0, e9_1, e9_2⟩ := tup3 hres
    subst e9_0
    subst e9_1
    subst e9_2
    rw [← hQQ]
    exact W.iret (v := (-1000002 : Int32)) hx hb hr (fun t ht hW => ⟨⟨(-1000002 : Int32), (), rfl, rfl, by rw [ht]; exact hP, va_K.moved hW.alike hK, hD⟩, hS.F ht⟩) hS.2.2 dX11_undo_9

-- MD_unlike
theorem kMD_unlike_X11_unlike_0 : Cond.constant RX11 57 (-1000001) ∈ wsX11_unlike := by decide +kernel
set_option maxHeartbeats 4000000 in
set_option maxRecDepth 100000 in
theorem cMD_unlike (l : Launch) (dC : Nat → ClassId) (dI : Nat → Nat → Nat) (cI cJ cC cS : ClassId) (h_t h_t_s h_t_was h_t_begun h_t_text h_t_wrong h_t_cost h_t_first h_t_block h_t_many h_t_stack h_t_written h_t_own h_t_levelAt h_t_itemAt h_t_times : Nat) (sz : Nat) (t_states : Int32) (t_typed : Int32) (t_height : Int32) (t_length : Int32) (t_at : Int32) (t_ownLength : Int32) (t_depth : Int32) (t_deepest : Int32) (t_letters : Int32) (t_repeats : Int32) (t_corrections : Int32) (t_mostCorrections : Int32) (t_place : Int32) (t_reason : Int32) (t_s : Nat → Int32) (x1 : Int32) (x2 : Int32) (x3 : Int32) (r : Int32) (hres : fMD_unlike t_s x1 x2 x3 = some r) :
    Met l yX11_unlike wsX11_unlike ({ frames := 1, cells := 0, slots := 0, locals := 25 } : Room) (va_Pc [.ref h_t, .int x1, .int x2, .int x3] (fun (U : State) => U.heap.size = sz ∧ va_P (dC, dI) vwCl [(h_t, .inr (10, [.ref h_t_s, .ref h_t_was, .ref h_t_begun, .int t_states, .ref h_t_text, .int t_typed, .ref h_t_wrong, .ref h_t_cost, .ref h_t_first, .ref h_t_block, .ref h_t_many, .ref h_t_stack, .int t_height, .ref h_t_written, .int t_length, .ref h_t_own, .ref h_t_levelAt, .ref h_t_itemAt, .ref h_t_times, .int t_at, .int t_ownLength, .int t_depth, .int t_deepest, .int t_letters, .int t_repeats, .int t_corrections, .int t_mostCorrections, .int t_place, .int t_reason])), (h_t_s, .inl (cI, 30, .inl t_s))] U.heap ∧ va_K (dC, dI) vwCl (tyA cI cJ cC cS) U ∧ nwN U ∧ va_D (fun _ => True) [(h_t, .inr (10, [.ref h_t_s, .ref h_t_was, .ref h_t_begun, .int t_states, .ref h_t_text, .int t_typed, .ref h_t_wrong, .ref h_t_cost, .ref h_t_first, .ref h_t_block, .ref h_t_many, .ref h_t_stack, .int t_height, .ref h_t_written, .int t_length, .ref h_t_own, .ref h_t_levelAt, .ref h_t_itemAt, .ref h_t_times, .int t_at, .int t_ownLength, .int t_depth, .int t_deepest, .int t_letters, .int t_repeats, .int t_corrections, .int t_mostCorrections, .int t_place, .int t_reason])), (h_t_s, .inl (cI, 30, .inl t_s))])) (va_Qi (fun (r9 : Int32) (_ : Unit) => r9 = r) (fun (_ : Unit) (t : State) => va_P (dC, dI) vwCl [(h_t, .inr (10, [.ref h_t_s, .ref h_t_was, .ref h_t_begun, .int t_states, .ref h_t_text, .int t_typed, .ref h_t_wrong, .ref h_t_cost, .ref h_t_first, .ref h_t_block, .ref h_t_many, .ref h_t_stack, .int t_height, .ref h_t_written, .int t_length, .ref h_t_own, .ref h_t_levelAt, .ref h_t_itemAt, .ref h_t_times, .int t_at, .int t_ownLength, .int t_depth, .int t_deepest, .int t_letters, .int t_repeats, .int t_corrections, .int t_mostCorrections, .int t_place, .int t_reason])), (h_t_s, .inl (cI, 30, .inl t_s))] t.heap ∧ va_K (dC, dI) vwCl (tyA cI cJ cC cS) t ∧ va_D (va_A [(h_t, .inr (10, [.ref h_t_s, .ref h_t_was, .ref h_t_begun, .int t_states, .ref h_t_text, .int t_typed, .ref h_t_wrong, .ref h_t_cost, .ref h_t_first, .ref h_t_block, .ref h_t_many, .ref h_t_stack, .int t_height, .ref h_t_written, .int t_length, .ref h_t_own, .ref h_t_levelAt, .ref h_t_itemAt, .ref h_t_times, .int t_at, .int t_ownLength, .int t_depth, .int t_deepest, .int t_letters, .int t_repeats, .int t_corrections, .int t_mostCorrections, .int t_place, .int t_reason])), (h_t_s, .inl (cI, 30, .inl t_s))] sz) [(h_t, .inr (10, [.ref h_t_s, .ref h_t_was, .ref h_t_begun, .int t_states, .ref h_t_text, .int t_typed, .ref h_t_wrong, .ref h_t_cost, .ref h_t_first, .ref h_t_block, .ref h_t_many, .ref h_t_stack, .int t_height, .ref h_t_written, .int t_length, .ref h_t_own, .ref h_t_levelAt, .ref h_t_itemAt, .ref h_t_times, .int t_at, .int t_ownLength, .int t_depth, .int t_deepest, .int t_letters, .int t_repeats, .int t_corrections, .int t_mostCorrections, .int t_place, .int t_reason])), (h_t_s, .inl (cI, 30, .inl t_s))]) (va_A [(h_t, .inr (10, [.ref h_t_s, .ref h_t_was, .ref h_t_begun, .int t_states, .ref h_t_text, .int t_typed, .ref h_t_wrong, .ref h_t_cost, .ref h_t_first, .ref h_t_block, .ref h_t_many, .ref h_t_stack, .int t_height, .ref h_t_written, .int t_length, .ref h_t_own, .ref h_t_levelAt, .ref h_t_itemAt, .ref h_t_times, .int t_at, .int t_ownLength, .int t_depth, .int t_deepest, .int t_letters, .int t_repeats, .int t_corrections, .int t_mostCorrections, .int t_place, .int t_reason])), (h_t_s, .inl (cI, 30, .inl t_s))] sz)) 0 0 (va_A [(h_t, .inr (10, [.ref h_t_s, .ref h_t_was, .ref h_t_begun, .int t_states, .ref h_t_text, .int t_typed, .ref h_t_wrong, .ref h_t_cost, .ref h_t_first, .ref h_t_block, .ref h_t_many, .ref h_t_stack, .int t_height, .ref h_t_written, .int t_length, .ref h_t_own, .ref h_t_levelAt, .ref h_t_itemAt, .ref h_t_times, .int t_at, .int t_ownLength, .int t_depth, .int t_deepest, .int t_letters, .int t_repeats, .int t_corrections, .int t_mostCorrections, .int t_place, .int t_reason])), (h_t_s, .inl (cI, 30, .inl t_s))] sz) := by
  refine Met.ofW (cc := cX11_unlike) (maxL := 4) (ret := (some .int)) (by decide) rfl ?_
  intro p e s m args below meth c s₁ B hml hv
  obtain ⟨hargs, hsz, hP, hK, hN, hD0⟩ := hv
  have hx := B.exec
  have hb := B.bytes
  have hr := B.returns
  have hts := atoms_spec (ws := wsX11_unlike) B.pre
  have hown : s.vm.findClass RX11 = some m.cls := findClass_of_methodNamed B.named
  have hlocks := B.notSynchronized
  subst hsz
  have hD := hD0.self (sz := s.heap.size)
  generalize hAe : va_A [(h_t, .inr (10, [.ref h_t_s, .ref h_t_was, .ref h_t_begun, .int t_states, .ref h_t_text, .int t_typed, .ref h_t_wrong, .ref h_t_cost, .ref h_t_first, .ref h_t_block, .ref h_t_many, .ref h_t_stack, .int t_height, .ref h_t_written, .int t_length, .ref h_t_own, .ref h_t_levelAt, .ref h_t_itemAt, .ref h_t_times, .int t_at, .int t_ownLength, .int t_depth, .int t_deepest, .int t_letters, .int t_repeats, .int t_corrections, .int t_mostCorrections, .int t_place, .int t_reason])), (h_t_s, .inl (cI, 30, .inl t_s))] s.heap.size = A at hD ⊢
  have hA : ∀ q : Nat, s.heap.size ≤ q → A q := fun q h => by rw [← hAe]; exact Or.inr h
  have hS : va_S A s.heap s.heap [] := va_S.rf
  have hP : va_P (dC, dI) vwCl [(h_t, .inr (10, [.ref h_t_s, .ref h_t_was, .ref h_t_begun, .int t_states, .ref h_t_text, .int t_typed, .ref h_t_wrong, .ref h_t_cost, .ref h_t_first, .ref h_t_block, .ref h_t_many, .ref h_t_stack, .int t_height, .ref h_t_written, .int t_length, .ref h_t_own, .ref h_t_levelAt, .ref h_t_itemAt, .ref h_t_times, .int t_at, .int t_ownLength, .int t_depth, .int t_deepest, .int t_letters, .int t_repeats, .int t_corrections, .int t_mostCorrections, .int t_place, .int t_reason])), (h_t_s, .inl (cI, 30, .inl t_s))] s.heap := hP
  have hl := lv_entry [.ref h_t, .int x1, .int x2, .int x3] (n := 4) (Nat.le_of_ble_eq_true rfl)
  rw [show entryFrame m args 4 = entryFrame m ([.ref h_t, .int x1, .int x2, .int x3] : List Value).toArray 4 from by rw [hargs], lg_entry_eq]
  generalize (lg_sl [.ref h_t, .int x1, .int x2, .int x3] ++ List.replicate (4 - (lg_sl [.ref h_t, .int x1, .int x2, .int x3]).length) Slot.unset).toArray = ls at hl ⊢
  have hl : lv_has ls 4 [(0, .ref h_t), (1, .int x1), (2, .int x2), (3, .int x3)] := hl
  generalize hQQ : MQ below (va_Qi (fun (r9 : Int32) (_ : Unit) => r9 = r) (fun (_ : Unit) (t : State) => va_P (dC, dI) vwCl [(h_t, .inr (10, [.ref h_t_s, .ref h_t_was, .ref h_t_begun, .int t_states, .ref h_t_text, .int t_typed, .ref h_t_wrong, .ref h_t_cost, .ref h_t_first, .ref h_t_block, .ref h_t_many, .ref h_t_stack, .int t_height, .ref h_t_written, .int t_length, .ref h_t_own, .ref h_t_levelAt, .ref h_t_itemAt, .ref h_t_times, .int t_at, .int t_ownLength, .int t_depth, .int t_deepest, .int t_letters, .int t_repeats, .int t_corrections, .int t_mostCorrections, .int t_place, .int t_reason])), (h_t_s, .inl (cI, 30, .inl t_s))] t.heap ∧ va_K (dC, dI) vwCl (tyA cI cJ cC cS) t ∧ va_D A [(h_t, .inr (10, [.ref h_t_s, .ref h_t_was, .ref h_t_begun, .int t_states, .ref h_t_text, .int t_typed, .ref h_t_wrong, .ref h_t_cost, .ref h_t_first, .ref h_t_block, .ref h_t_many, .ref h_t_stack, .int t_height, .ref h_t_written, .int t_length, .ref h_t_own, .ref h_t_levelAt, .ref h_t_itemAt, .ref h_t_times, .int t_at, .int t_ownLength, .int t_depth, .int t_deepest, .int t_letters, .int t_repeats, .int t_corrections, .int t_mostCorrections, .int t_place, .int t_reason])), (h_t_s, .inl (cI, 30, .inl t_s))]) A) args s 0 0 A = QQ
  obtain ⟨H, hH⟩ : ∃ H : Heap, H = s.heap := ⟨_, rfl⟩
  obtain ⟨locs, hlocs⟩ : ∃ locs : List Loc, locs = [] := ⟨_, rfl⟩
  rw [← hH] at hP
  have hS : va_S A s.heap H locs := by rw [hH, hlocs]; exact hS
  suffices hZ : W p l e (headSpec wsX11_unlike ({ frames := 1, cells := 0, slots := 0, locals := 25 } : Room)).room s m args below meth c H locs 0 0 QQ (F0 m 0 ls []) by rw [hH, hlocs] at hZ; exact hZ
  clear hH hlocs
  rw [fMD_unlike] at hres
  refine lv_aload_n hx hb dX11_unlike_0 rfl (lv_at hl 0 rfl) ?_
  refine lv_iload_n hx hb dX11_unlike_1 rfl (lv_at hl 1 rfl) ?_
  refine lv_iload_n hx hb dX11_unlike_2 rfl (lv_at hl 2 rfl) ?_
  obtain ⟨o1, ho1, hres⟩ := bd_of hres
  have hPc := hP.sub (ws' := [(h_t, .inr (10, [.ref h_t_s, .ref h_t_was, .ref h_t_begun, .int t_states, .ref h_t_text, .int t_typed, .ref h_t_wrong, .ref h_t_cost, .ref h_t_first, .ref h_t_block, .ref h_t_many, .ref h_t_stack, .int t_height, .ref h_t_written, .int t_length, .ref h_t_own, .ref h_t_levelAt, .ref h_t_itemAt, .ref h_t_times, .int t_at, .int t_ownLength, .int t_depth, .int t_deepest, .int t_letters, .int t_repeats, .int t_corrections, .int t_mostCorrections, .int t_place, .int t_reason])), (h_t_s, .inl (cI, 30, .inl t_s))]) [0, 1] rfl
  have hDc := hD.sub (ws' := [(h_t, .inr (10, [.ref h_t_s, .ref h_t_was, .ref h_t_begun, .int t_states, .ref h_t_text, .int t_typed, .ref h_t_wrong, .ref h_t_cost, .ref h_t_first, .ref h_t_block, .ref h_t_many, .ref h_t_stack, .int t_height, .ref h_t_written, .int t_length, .ref h_t_own, .ref h_t_levelAt, .ref h_t_itemAt, .ref h_t_times, .int t_at, .int t_ownLength, .int t_depth, .int t_deepest, .int t_letters, .int t_repeats, .int t_corrections, .int t_mostCorrections, .int t_place, .int t_reason])), (h_t_s, .inl (cI, 30, .inl t_s))]) [0, 1] (by decide) rfl
  have hFc := va_free (wc := [(h_t, .inr (10, [.ref h_t_s, .ref h_t_was, .ref h_t_begun, .int t_states, .ref h_t_text, .int t_typed, .ref h_t_wrong, .ref h_t_cost, .ref h_t_first, .ref h_t_block, .ref h_t_many, .ref h_t_stack, .int t_height, .ref h_t_written, .int t_length, .ref h_t_own, .ref h_t_levelAt, .ref h_t_itemAt, .ref h_t_times, .int t_at, .int t_ownLength, .int t_depth, .int t_deepest, .int t_letters, .int t_repeats, .int t_corrections, .int t_mostCorrections, .int t_place, .int t_reason])), (h_t_s, .inl (cI, 30, .inl t_s))]) hD hS hA [0, 1] rfl
  refine va_calli (va_runV (As := [.int x1, .int x2]) (rest := []) ⟨hx, hb, hml, hown, hts⟩ (cMD_isPart l dC dI cI cJ cC cS h_t h_t_s h_t_was h_t_begun h_t_text h_t_wrong h_t_cost h_t_first h_t_block h_t_many h_t_stack h_t_written h_t_own h_t_levelAt h_t_itemAt h_t_times H.size t_states t_typed t_height t_length t_at t_ownLength t_depth t_deepest t_letters t_repeats t_corrections t_mostCorrections t_place t_reason t_s x1 x2 o1 ho1) (cwV 2 hts gX11_unlike_X11_isPart rfl rfl rfl (by decide +kernel) ⟨Nat.le_of_ble_eq_true rfl, Nat.le_of_ble_eq_true rfl⟩) ⟨fun a U g mk q => by obtain ⟨q0, q1, qP, qK, qN, qD⟩ := q; exact ⟨q0, q1, qP, va_K.moved (u := U) (U := U.calling g mk a) (Vm.Alike.refl U.vm) qK, nwS (u := U) (U := U.calling g mk a) rfl qN, qD⟩, va_recv hK hPc (ci := 10) (q0 := 0) rfl rfl, fun U hU hW => ⟨rfl, by rw [hU], by rw [hU]; exact hPc, va_K.moved hW.alike hK, nwW hW hN, hDc.weaken (fun _ _ _ _ => trivial)⟩⟩ rfl rfl hl.1 rfl (lv_room (Nat.le_of_ble_eq_true rfl)) dX11_unlike_3 ⟨Nat.zero_le _, Nat.zero_le _⟩) hS (fun q _ h => hFc q h) hFc (fun r9 u9 t H1 locs ht hvm hw hB hz1 hk1 hS => ?_)
  have hw := hw.symm
  subst hw
  obtain ⟨hP1, hK1, hD1⟩ := hB
  rw [ht] at hP1
  obtain ⟨hP, hD⟩ := va_join (wr := []) (w1 := [(h_t, .inr (10, [.ref h_t_s, .ref h_t_was, .ref h_t_begun, .int t_states, .ref h_t_text, .int t_typed, .ref h_t_wrong, .ref h_t_cost, .ref h_t_first, .ref h_t_block, .ref h_t_many, .ref h_t_stack, .int t_height, .ref h_t_written, .int t_length, .ref h_t_own, .ref h_t_levelAt, .ref h_t_itemAt, .ref h_t_times, .int t_at, .int t_ownLength, .int t_depth, .int t_deepest, .int t_letters, .int t_repeats, .int t_corrections, .int t_mostCorrections, .int t_place, .int t_reason])), (h_t_s, .inl (cI, 30, .inl t_s))]) hP hD [0, 1] [] rfl rfl (by decide) (by decide) hk1 hFc hP1 hD1
  generalize H1 = H at hP hS ⊢
  have hP : va_P (dC, dI) vwCl [(h_t, .inr (10, [.ref h_t_s, .ref h_t_was, .ref h_t_begun, .int t_states, .ref h_t_text, .int t_typed, .ref h_t_wrong, .ref h_t_cost, .ref h_t_first, .ref h_t_block, .ref h_t_many, .ref h_t_stack, .int t_height, .ref h_t_written, .int t_length, .ref h_t_own, .ref h_t_levelAt, .ref h_t_itemAt, .ref h_t_times, .int t_at, .int t_ownLength, .int t_depth, .int t_deepest, .int t_letters, .int t_repeats, .int t_corrections, .int t_mostCorrections, .int t_place, .int t_reason])), (h_t_s, .inl (cI, 30, .inl t_s))] H := hP
  have hD : va_D A [(h_t, .inr (10, [.ref h_t_s, .ref h_t_was, .ref h_t_begun, .int t_states, .ref h_t_text, .int t_typed, .ref h_t_wrong, .ref h_t_cost, .ref h_t_first, .ref h_t_block, .ref h_t_many, .ref h_t_stack, .int t_height, .ref h_t_written, .int t_length, .ref h_t_own, .ref h_t_levelAt, .ref h_t_itemAt, .ref h_t_times, .int t_at, .int t_ownLength, .int t_depth, .int t_deepest, .int t_letters, .int t_repeats, .int t_corrections, .int t_mostCorrections, .int t_place, .int t_reason])), (h_t_s, .inl (cI, 30, .inl t_s))] := hD
  refine lv_if_eq (tgt := 29) hx hb dX11_unlike_6 (by decide) (fun c_2 => ?_) (fun c_2 => ?_)
  · have hres := it_of hres c_2
    refine lv_ldc (v := (-1000001 : Int32)) hx hb hown (hts _ kMD_unlike_X11_unlike_0) dX11_unlike_29 ?_
    have e9_0 := Option.some.inj hres
    subst e9_0
    rw [← hQQ]
    exact W.iret (v := (-1000001 : Int32)) hx hb hr (fun t ht hW => ⟨⟨(-1000001 : Int32), (), rfl, rfl, by rw [ht]; exact hP, va_K.moved hW.alike hK, hD⟩, hS.F ht⟩) hS.2.2 dX11_unlike_31
  · have hres := ie_of hres c_2
    refine lv_iload_n hx hb dX11_unlike_9 rfl (lv_at hl 3 rfl) ?_
    refine lv_iconst (v := (1 : Int32)) hx hb dX11_unlike_10 (by decide) ?_
    refine lv_bipush (v := (24 : Int32)) hx hb dX11_unlike_11 (by decide) ?_
    obtain ⟨o3, ho3, hres⟩ := bd_of hres
    have hPc := hP.sub (ws' := []) [] rfl
    have hDc := hD.sub (ws' := []) [] (by decide) rfl
    have hFc := va_free (wc := []) hD hS hA [] rfl
    refine va_calli (va_runS (As := [.int x3, .int (1 : Int32), .int (24 : Int32)]) (rest := []) ⟨hx, hb, hml, hown, hts⟩ (cMD_in l dC dI cI cJ cC cS H.size x3 (1 : Int32) (24 : Int32) o3 ho3) (va_cwS 3 hts gX11_unlike_X11_in rfl rfl rfl (by decide +kernel) ⟨Nat.le_of_ble_eq_true rfl, Nat.le_of_ble_eq_true rfl⟩) ⟨fun a U g mk q => by obtain ⟨q0, q1, qP, qK, qN, qD⟩ := q; exact ⟨q0, q1, qP, va_K.moved (u := U) (U := U.calling g mk a) (Vm.Alike.refl U.vm) qK, nwS (u := U) (U := U.calling g mk a) rfl qN, qD⟩, fun U hU hW => ⟨rfl, by rw [hU], by rw [hU]; exact hPc, va_K.moved hW.alike hK, nwW hW hN, hDc.weaken (fun _ _ _ _ => trivial)⟩⟩ rfl rfl hl.1 rfl (lv_room (Nat.le_of_ble_eq_true rfl)) dX11_unlike_13 ⟨Nat.zero_le _, Nat.zero_le _⟩) hS (fun q _ h => hFc q h) hFc (fun r9 u9 t H1 locs ht hvm hw hB hz1 hk1 hS => ?_)
    have hw := hw.symm
    subst hw
    obtain ⟨hP1, hK1, hD1⟩ := hB
    rw [ht] at hP1
    obtain ⟨hP, hD⟩ := va_join (wr := [(h_t, .inr (10, [.ref h_t_s, .ref h_t_was, .ref h_t_begun, .int t_states, .ref h_t_text, .int t_typed, .ref h_t_wrong, .ref h_t_cost, .ref h_t_first, .ref h_t_block, .ref h_t_many, .ref h_t_stack, .int t_height, .ref h_t_written, .int t_length, .ref h_t_own, .ref h_t_levelAt, .ref h_t_itemAt, .ref h_t_times, .int t_at, .int t_ownLength, .int t_depth, .int t_deepest, .int t_letters, .int t_repeats, .int t_corrections, .int t_mostCorrections, .int t_place, .int t_reason])), (h_t_s, .inl (cI, 30, .inl t_s))]) (w1 := []) hP hD [] [0, 1] rfl rfl (by decide) (by decide) hk1 hFc hP1 hD1
    generalize H1 = H at hP hS ⊢
    have hP : va_P (dC, dI) vwCl [(h_t, .inr (10, [.ref h_t_s, .ref h_t_was, .ref h_t_begun, .int t_states, .ref h_t_text, .int t_typed, .ref h_t_wrong, .ref h_t_cost, .ref h_t_first, .ref h_t_block, .ref h_t_many, .ref h_t_stack, .int t_height, .ref h_t_written, .int t_length, .ref h_t_own, .ref h_t_levelAt, .ref h_t_itemAt, .ref h_t_times, .int t_at, .int t_ownLength, .int t_depth, .int t_deepest, .int t_letters, .int t_repeats, .int t_corrections, .int t_mostCorrections, .int t_place, .int t_reason])), (h_t_s, .inl (cI, 30, .inl t_s))] H := hP
    have hD : va_D A [(h_t, .inr (10, [.ref h_t_s, .ref h_t_was, .ref h_t_begun, .int t_states, .ref h_t_text, .int t_typed, .ref h_t_wrong, .ref h_t_cost, .ref h_t_first, .ref h_t_block, .ref h_t_many, .ref h_t_stack, .int t_height, .ref h_t_written, .int t_length, .ref h_t_own, .ref h_t_levelAt, .ref h_t_itemAt, .ref h_t_times, .int t_at, .int t_ownLength, .int t_depth, .int t_deepest, .int t_letters, .int t_repeats, .int t_corrections, .int t_mostCorrections, .int t_place, .int t_reason])), (h_t_s, .inl (cI, 30, .inl t_s))] := hD
    refine lv_if_eq (tgt := 29) hx hb dX11_unlike_16 (by decide) (fun c_4 => ?_) (fun c_4 => ?_)
    · have hres := it_of hres c_4
      refine lv_ldc (v := (-1000001 : Int32)) hx hb hown (hts _ kMD_unlike_X11_unlike_0) dX11_unlike_29 ?_
      have e9_0 := Option.some.inj hres
      subst e9_0
      rw [← hQQ]
      exact W.iret (v := (-1000001 : Int32)) hx hb hr (fun t ht hW => ⟨⟨(-1000001 : Int32), (), rfl, rfl, by rw [ht]; exact hP, va_K.moved hW.alike hK, hD⟩, hS.F ht⟩) hS.2.2 dX11_unlike_31
    · have hres := ie_of hres c_4
      refine lv_aload_n hx hb dX11_unlike_19 rfl (lv_at hl 0 rfl) ?_
      refine lv_iload_n hx hb dX11_unlike_20 rfl (lv_at hl 1 rfl) ?_
      refine lv_iload_n hx hb dX11_unlike_21 rfl (lv_at hl 2 rfl) ?_
      refine lv_iload_n hx hb dX11_unlike_22 rfl (lv_at hl 3 rfl) ?_
      obtain ⟨o5, ho5, hres⟩ := bd_of hres
      have hPc := hP.sub (ws' := [(h_t, .inr (10, [.ref h_t_s, .ref h_t_was, .ref h_t_begun, .int t_states, .ref h_t_text, .int t_typed, .ref h_t_wrong, .ref h_t_cost, .ref h_t_first, .ref h_t_block, .ref h_t_many, .ref h_t_stack, .int t_height, .ref h_t_written, .int t_length, .ref h_t_own, .ref h_t_levelAt, .ref h_t_itemAt, .ref h_t_times, .int t_at, .int t_ownLength, .int t_depth, .int t_deepest, .int t_letters, .int t_repeats, .int t_corrections, .int t_mostCorrections, .int t_place, .int t_reason])), (h_t_s, .inl (cI, 30, .inl t_s))]) [0, 1] rfl
      have hDc := hD.sub (ws' := [(h_t, .inr (10, [.ref h_t_s, .ref h_t_was, .ref h_t_begun, .int t_states, .ref h_t_text, .int t_typed, .ref h_t_wrong, .ref h_t_cost, .ref h_t_first, .ref h_t_block, .ref h_t_many, .ref h_t_stack, .int t_height, .ref h_t_written, .int t_length, .ref h_t_own, .ref h_t_levelAt, .ref h_t_itemAt, .ref h_t_times, .int t_at, .int t_ownLength, .int t_depth, .int t_deepest, .int t_letters, .int t_repeats, .int t_corrections, .int t_mostCorrections, .int t_place, .int t_reason])), (h_t_s, .inl (cI, 30, .inl t_s))]) [0, 1] (by decide) rfl
      have hFc := va_free (wc := [(h_t, .inr (10, [.ref h_t_s, .ref h_t_was, .ref h_t_begun, .int t_states, .ref h_t_text, .int t_typed, .ref h_t_wrong, .ref h_t_cost, .ref h_t_first, .ref h_t_block, .ref h_t_many, .ref h_t_stack, .int t_height, .ref h_t_written, .int t_length, .ref h_t_own, .ref h_t_levelAt, .ref h_t_itemAt, .ref h_t_times, .int t_at, .int t_ownLength, .int t_depth, .int t_deepest, .int t_letters, .int t_repeats, .int t_corrections, .int t_mostCorrections, .int t_place, .int t_reason])), (h_t_s, .inl (cI, 30, .inl t_s))]) hD hS hA [0, 1] rfl
      refine va_calli (va_runV (As := [.int x1, .int x2, .int x3]) (rest := []) ⟨hx, hb, hml, hown, hts⟩ (cMD_differ l dC dI cI cJ cC cS h_t h_t_s h_t_was h_t_begun h_t_text h_t_wrong h_t_cost h_t_first h_t_block h_t_many h_t_stack h_t_written h_t_own h_t_levelAt h_t_itemAt h_t_times H.size t_states t_typed t_height t_length t_at t_ownLength t_depth t_deepest t_letters t_repeats t_corrections t_mostCorrections t_place t_reason t_s x1 x2 x3 o5 ho5) (cwV 3 hts gX11_unlike_X11_differ rfl rfl rfl (by decide +kernel) ⟨Nat.le_of_ble_eq_true rfl, Nat.le_of_ble_eq_true rfl⟩) ⟨fun a U g mk q => by obtain ⟨q0, q1, qP, qK, qN, qD⟩ := q; exact ⟨q0, q1, qP, va_K.moved (u := U) (U := U.calling g mk a) (Vm.Alike.refl U.vm) qK, nwS (u := U) (U := U.calling g mk a) rfl qN, qD⟩, va_recv hK hPc (ci := 10) (q0 := 0) rfl rfl, fun U hU hW => ⟨rfl, by rw [hU], by rw [hU]; exact hPc, va_K.moved hW.alike hK, nwW hW hN, hDc.weaken (fun _ _ _ _ => trivial)⟩⟩ rfl rfl hl.1 rfl (lv_room (Nat.le_of_ble_eq_true rfl)) dX11_unlike_23 ⟨Nat.zero_le _, Nat.zero_le _⟩) hS (fun q _ h => hFc q h) hFc (fun r9 u9 t H1 locs ht hvm hw hB hz1 hk1 hS => ?_)
      have hw := hw.symm
      subst hw
      obtain ⟨hP1, hK1, hD1⟩ := hB
      rw [ht] at hP1
      obtain ⟨hP, hD⟩ := va_join (wr := []) (w1 := [(h_t, .inr (10, [.ref h_t_s, .ref h_t_was, .ref h_t_begun, .int t_states, .ref h_t_text, .int t_typed, .ref h_t_wrong, .ref h_t_cost, .ref h_t_first, .ref h_t_block, .ref h_t_many, .ref h_t_stack, .int t_height, .ref h_t_written, .int t_length, .ref h_t_own, .ref h_t_levelAt, .ref h_t_itemAt, .ref h_t_times, .int t_at, .int t_ownLength, .int t_depth, .int t_deepest, .int t_letters, .int t_repeats, .int t_corrections, .int t_mostCorrections, .int t_place, .int t_reason])), (h_t_s, .inl (cI, 30, .inl t_s))]) hP hD [0, 1] [] rfl rfl (by decide) (by decide) hk1 hFc hP1 hD1
      generalize H1 = H at hP hS ⊢
      have hP : va_P (dC, dI) vwCl [(h_t, .inr (10, [.ref h_t_s, .ref h_t_was, .ref h_t_begun, .int t_states, .ref h_t_text, .int t_typed, .ref h_t_wrong, .ref h_t_cost, .ref h_t_first, .ref h_t_block, .ref h_t_many, .ref h_t_stack, .int t_height, .ref h_t_written, .int t_length, .ref h_t_own, .ref h_t_levelAt, .ref h_t_itemAt, .ref h_t_times, .int t_at, .int t_ownLength, .int t_depth, .int t_deepest, .int t_letters, .int t_repeats, .int t_corrections, .int t_mostCorrections, .int t_place, .int t_reason])), (h_t_s, .inl (cI, 30, .inl t_s))] H := hP
      have hD : va_D A [(h_t, .inr (10, [.ref h_t_s, .ref h_t_was, .ref h_t_begun, .int t_states, .ref h_t_text, .int t_typed, .ref h_t_wrong, .ref h_t_cost, .ref h_t_first, .ref h_t_block, .ref h_t_many, .ref h_t_stack, .int t_height, .ref h_t_written, .int t_length, .ref h_t_own, .ref h_t_levelAt, .ref h_t_itemAt, .ref h_t_times, .int t_at, .int t_ownLength, .int t_depth, .int t_deepest, .int t_letters, .int t_repeats, .int t_corrections, .int t_mostCorrections, .int t_place, .int t_reason])), (h_t_s, .inl (cI, 30, .inl t_s))] := hD
      refine lv_goto (tgt := 31) hx hb dX11_unlike_26 (by decide) ?_
      have e9_0 := Option.some.inj hres
      subst e9_0
      rw [← hQQ]
      exact W.iret (v := o5) hx hb hr (fun t ht hW => ⟨⟨o5, (), rfl, rfl, by rw [ht]; exact hP, va_K.moved hW.alike hK, hD⟩, hS.F ht⟩) hS.2.2 dX11_unlike_31

-- MD_would
theorem kMD_would_X11_would_0 : Cond.fieldLink RX11 7 "RepeatNestsModel" "s" "[I" ∈ wsX11_would := by decide +kernel
theorem iMD_would_X11_would_1 : ∀ w ∈ wsX110, w ∈ wsX11_would := by decide +kernel
theorem kMD_would_X11_would_2 : Cond.constant RX11 57 (-1000001) ∈ wsX11_would := by decide +kernel
set_option maxHeartbeats 4000000 in
set_option maxRecDepth 100000 in
theorem cMD_would (l : Launch) (dC : Nat → ClassId) (dI : Nat → Nat → Nat) (cI cJ cC cS : ClassId) (h_t h_t_s h_t_was h_t_begun h_t_text h_t_wrong h_t_cost h_t_first h_t_block h_t_many h_t_stack h_t_written h_t_own h_t_levelAt h_t_itemAt h_t_times : Nat) (sz : Nat) (t_states : Int32) (t_typed : Int32) (t_height : Int32) (t_length : Int32) (t_at : Int32) (t_ownLength : Int32) (t_depth : Int32) (t_deepest : Int32) (t_letters : Int32) (t_repeats : Int32) (t_corrections : Int32) (t_mostCorrections : Int32) (t_place : Int32) (t_reason : Int32) (t_block : Nat → Int32) (t_cost : Nat → Int32) (t_first : Nat → Int32) (t_s : Nat → Int32) (t_wrong : Nat → Int32) (x1 : Int32) (x2 : Int32) (r : Int32) (y_t_block : Nat → Int32) (y_t_cost : Nat → Int32) (y_t_first : Nat → Int32) (y_t_s : Nat → Int32) (y_t_wrong : Nat → Int32) (hres : fMD_would t_block t_cost t_first t_s t_wrong x1 x2 = some (r, y_t_block, y_t_cost, y_t_first, y_t_s, y_t_wrong)) :
    Met l yX11_would wsX11_would ({ frames := 5, cells := 0, slots := 0, locals := 118 } : Room) (va_Pc [.ref h_t, .int x1, .int x2] (fun (U : State) => U.heap.size = sz ∧ va_P (dC, dI) vwCl [(h_t, .inr (10, [.ref h_t_s, .ref h_t_was, .ref h_t_begun, .int t_states, .ref h_t_text, .int t_typed, .ref h_t_wrong, .ref h_t_cost, .ref h_t_first, .ref h_t_block, .ref h_t_many, .ref h_t_stack, .int t_height, .ref h_t_written, .int t_length, .ref h_t_own, .ref h_t_levelAt, .ref h_t_itemAt, .ref h_t_times, .int t_at, .int t_ownLength, .int t_depth, .int t_deepest, .int t_letters, .int t_repeats, .int t_corrections, .int t_mostCorrections, .int t_place, .int t_reason])), (h_t_block, .inl (cI, 3125, .inl t_block)), (h_t_cost, .inl (cI, 3125, .inl t_cost)), (h_t_first, .inl (cI, 3125, .inl t_first)), (h_t_s, .inl (cI, 30, .inl t_s)), (h_t_wrong, .inl (cI, 15625, .inl t_wrong))] U.heap ∧ va_K (dC, dI) vwCl (tyA cI cJ cC cS) U ∧ nwN U ∧ va_D (fun _ => True) [(h_t, .inr (10, [.ref h_t_s, .ref h_t_was, .ref h_t_begun, .int t_states, .ref h_t_text, .int t_typed, .ref h_t_wrong, .ref h_t_cost, .ref h_t_first, .ref h_t_block, .ref h_t_many, .ref h_t_stack, .int t_height, .ref h_t_written, .int t_length, .ref h_t_own, .ref h_t_levelAt, .ref h_t_itemAt, .ref h_t_times, .int t_at, .int t_ownLength, .int t_depth, .int t_deepest, .int t_letters, .int t_repeats, .int t_corrections, .int t_mostCorrections, .int t_place, .int t_reason])), (h_t_block, .inl (cI, 3125, .inl t_block)), (h_t_cost, .inl (cI, 3125, .inl t_cost)), (h_t_first, .inl (cI, 3125, .inl t_first)), (h_t_s, .inl (cI, 30, .inl t_s)), (h_t_wrong, .inl (cI, 15625, .inl t_wrong))])) (va_Qi (fun (r9 : Int32) (_ : Unit) => r9 = r) (fun (_ : Unit) (t : State) => va_P (dC, dI) vwCl [(h_t, .inr (10, [.ref h_t_s, .ref h_t_was, .ref h_t_begun, .int t_states, .ref h_t_text, .int t_typed, .ref h_t_wrong, .ref h_t_cost, .ref h_t_first, .ref h_t_block, .ref h_t_many, .ref h_t_stack, .int t_height, .ref h_t_written, .int t_length, .ref h_t_own, .ref h_t_levelAt, .ref h_t_itemAt, .ref h_t_times, .int t_at, .int t_ownLength, .int t_depth, .int t_deepest, .int t_letters, .int t_repeats, .int t_corrections, .int t_mostCorrections, .int t_place, .int t_reason])), (h_t_block, .inl (cI, 3125, .inl y_t_block)), (h_t_cost, .inl (cI, 3125, .inl y_t_cost)), (h_t_first, .inl (cI, 3125, .inl y_t_first)), (h_t_s, .inl (cI, 30, .inl y_t_s)), (h_t_wrong, .inl (cI, 15625, .inl y_t_wrong))] t.heap ∧ va_K (dC, dI) vwCl (tyA cI cJ cC cS) t ∧ va_D (va_A [(h_t, .inr (10, [.ref h_t_s, .ref h_t_was, .ref h_t_begun, .int t_states, .ref h_t_text, .int t_typed, .ref h_t_wrong, .ref h_t_cost, .ref h_t_first, .ref h_t_block, .ref h_t_many, .ref h_t_stack, .int t_height, .ref h_t_written, .int t_length, .ref h_t_own, .ref h_t_levelAt, .ref h_t_itemAt, .ref h_t_times, .int t_at, .int t_ownLength, .int t_depth, .int t_deepest, .int t_letters, .int t_repeats, .int t_corrections, .int t_mostCorrections, .int t_place, .int t_reason])), (h_t_block, .inl (cI, 3125, .inl t_block)), (h_t_cost, .inl (cI, 3125, .inl t_cost)), (h_t_first, .inl (cI, 3125, .inl t_first)), (h_t_s, .inl (cI, 30, .inl t_s)), (h_t_wrong, .inl (cI, 15625, .inl t_wrong))] sz) [(h_t, .inr (10, [.ref h_t_s, .ref h_t_was, .ref h_t_begun, .int t_states, .ref h_t_text, .int t_typed, .ref h_t_wrong, .ref h_t_cost, .ref h_t_first, .ref h_t_block, .ref h_t_many, .ref h_t_stack, .int t_height, .ref h_t_written, .int t_length, .ref h_t_own, .ref h_t_levelAt, .ref h_t_itemAt, .ref h_t_times, .int t_at, .int t_ownLength, .int t_depth, .int t_deepest, .int t_letters, .int t_repeats, .int t_corrections, .int t_mostCorrections, .int t_place, .int t_reason])), (h_t_block, .inl (cI, 3125, .inl y_t_block)), (h_t_cost, .inl (cI, 3125, .inl y_t_cost)), (h_t_first, .inl (cI, 3125, .inl y_t_first)), (h_t_s, .inl (cI, 30, .inl y_t_s)), (h_t_wrong, .inl (cI, 15625, .inl y_t_wrong))]) (va_A [(h_t, .inr (10, [.ref h_t_s, .ref h_t_was, .ref h_t_begun, .int t_states, .ref h_t_text, .int t_typed, .ref h_t_wrong, .ref h_t_cost, .ref h_t_first, .ref h_t_block, .ref h_t_many, .ref h_t_stack, .int t_height, .ref h_t_written, .int t_length, .ref h_t_own, .ref h_t_levelAt, .ref h_t_itemAt, .ref h_t_times, .int t_at, .int t_ownLength, .int t_depth, .int t_deepest, .int t_letters, .int t_repeats, .int t_corrections, .int t_mostCorrections, .int t_place, .int t_reason])), (h_t_block, .inl (cI, 3125, .inl t_block)), (h_t_cost, .inl (cI, 3125, .inl t_cost)), (h_t_first, .inl (cI, 3125, .inl t_first)), (h_t_s, .inl (cI, 30, .inl t_s)), (h_t_wrong, .inl (cI, 15625, .inl t_wrong))] sz)) 0 0 (va_A [(h_t, .inr (10, [.ref h_t_s, .ref h_t_was, .ref h_t_begun, .int t_states, .ref h_t_text, .int t_typed, .ref h_t_wrong, .ref h_t_cost, .ref h_t_first, .ref h_t_block, .ref h_t_many, .ref h_t_stack, .int t_height, .ref h_t_written, .int t_length, .ref h_t_own, .ref h_t_levelAt, .ref h_t_itemAt, .ref h_t_times, .int t_at, .int t_ownLength, .int t_depth, .int t_deepest, .int t_letters, .int t_repeats, .int t_corrections, .int t_mostCorrections, .int t_place, .int t_reason])), (h_t_block, .inl (cI, 3125, .inl t_block)), (h_t_cost, .inl (cI, 3125, .inl t_cost)), (h_t_first, .inl (cI, 3125, .inl t_first)), (h_t_s, .inl (cI, 30, .inl t_s)), (h_t_wrong, .inl (cI, 15625, .inl t_wrong))] sz) := by
  refine Met.ofW (cc := cX11_would) (maxL := 3) (ret := (some .int)) (by decide) rfl ?_
  intro p e s m args below meth c s₁ B hml hv
  obtain ⟨hargs, hsz, hP, hK, hN, hD0⟩ := hv
  have hx := B.exec
  have hb := B.bytes
  have hr := B.returns
  have hts := atoms_spec (ws := wsX11_would) B.pre
  have hown : s.vm.findClass RX11 = some m.cls := findClass_of_methodNamed B.named
  have hlocks := B.notSynchronized
  subst hsz
  have hD := hD0.self (sz := s.heap.size)
  generalize hAe : va_A [(h_t, .inr (10, [.ref h_t_s, .ref h_t_was, .ref h_t_begun, .int t_states, .ref h_t_text, .int t_typed, .ref h_t_wrong, .ref h_t_cost, .ref h_t_first, .ref h_t_block, .ref h_t_many, .ref h_t_stack, .int t_height, .ref h_t_written, .int t_length, .ref h_t_own, .ref h_t_levelAt, .ref h_t_itemAt, .ref h_t_times, .int t_at, .int t_ownLength, .int t_depth, .int t_deepest, .int t_letters, .int t_repeats, .int t_corrections, .int t_mostCorrections, .int t_place, .int t_reason])), (h_t_block, .inl (cI, 3125, .inl t_block)), (h_t_cost, .inl (cI, 3125, .inl t_cost)), (h_t_first, .inl (cI, 3125, .inl t_first)), (h_t_s, .inl (cI, 30, .inl t_s)), (h_t_wrong, .inl (cI, 15625, .inl t_wrong))] s.heap.size = A at hD ⊢
  have hA : ∀ q : Nat, s.heap.size ≤ q → A q := fun q h => by rw [← hAe]; exact Or.inr h
  have hS : va_S A s.heap s.heap [] := va_S.rf
  have hP : va_P (dC, dI) vwCl [(h_t, .inr (10, [.ref h_t_s, .ref h_t_was, .ref h_t_begun, .int t_states, .ref h_t_text, .int t_typed, .ref h_t_wrong, .ref h_t_cost, .ref h_t_first, .ref h_t_block, .ref h_t_many, .ref h_t_stack, .int t_height, .ref h_t_written, .int t_length, .ref h_t_own, .ref h_t_levelAt, .ref h_t_itemAt, .ref h_t_times, .int t_at, .int t_ownLength, .int t_depth, .int t_deepest, .int t_letters, .int t_repeats, .int t_corrections, .int t_mostCorrections, .int t_place, .int t_reason])), (h_t_block, .inl (cI, 3125, .inl t_block)), (h_t_cost, .inl (cI, 3125, .inl t_cost)), (h_t_first, .inl (cI, 3125, .inl t_first)), (h_t_s, .inl (cI, 30, .inl t_s)), (h_t_wrong, .inl (cI, 15625, .inl t_wrong))] s.heap := hP
  have hl := lv_entry [.ref h_t, .int x1, .int x2] (n := 3) (Nat.le_of_ble_eq_true rfl)
  rw [show entryFrame m args 3 = entryFrame m ([.ref h_t, .int x1, .int x2] : List Value).toArray 3 from by rw [hargs], lg_entry_eq]
  generalize (lg_sl [.ref h_t, .int x1, .int x2] ++ List.replicate (3 - (lg_sl [.ref h_t, .int x1, .int x2]).length) Slot.unset).toArray = ls at hl ⊢
  have hl : lv_has ls 3 [(0, .ref h_t), (1, .int x1), (2, .int x2)] := hl
  generalize hQQ : MQ below (va_Qi (fun (r9 : Int32) (_ : Unit) => r9 = r) (fun (_ : Unit) (t : State) => va_P (dC, dI) vwCl [(h_t, .inr (10, [.ref h_t_s, .ref h_t_was, .ref h_t_begun, .int t_states, .ref h_t_text, .int t_typed, .ref h_t_wrong, .ref h_t_cost, .ref h_t_first, .ref h_t_block, .ref h_t_many, .ref h_t_stack, .int t_height, .ref h_t_written, .int t_length, .ref h_t_own, .ref h_t_levelAt, .ref h_t_itemAt, .ref h_t_times, .int t_at, .int t_ownLength, .int t_depth, .int t_deepest, .int t_letters, .int t_repeats, .int t_corrections, .int t_mostCorrections, .int t_place, .int t_reason])), (h_t_block, .inl (cI, 3125, .inl y_t_block)), (h_t_cost, .inl (cI, 3125, .inl y_t_cost)), (h_t_first, .inl (cI, 3125, .inl y_t_first)), (h_t_s, .inl (cI, 30, .inl y_t_s)), (h_t_wrong, .inl (cI, 15625, .inl y_t_wrong))] t.heap ∧ va_K (dC, dI) vwCl (tyA cI cJ cC cS) t ∧ va_D A [(h_t, .inr (10, [.ref h_t_s, .ref h_t_was, .ref h_t_begun, .int t_states, .ref h_t_text, .int t_typed, .ref h_t_wrong, .ref h_t_cost, .ref h_t_first, .ref h_t_block, .ref h_t_many, .ref h_t_stack, .int t_height, .ref h_t_written, .int t_length, .ref h_t_own, .ref h_t_levelAt, .ref h_t_itemAt, .ref h_t_times, .int t_at, .int t_ownLength, .int t_depth, .int t_deepest, .int t_letters, .int t_repeats, .int t_corrections, .int t_mostCorrections, .int t_place, .int t_reason])), (h_t_block, .inl (cI, 3125, .inl y_t_block)), (h_t_cost, .inl (cI, 3125, .inl y_t_cost)), (h_t_first, .inl (cI, 3125, .inl y_t_first)), (h_t_s, .inl (cI, 30, .inl y_t_s)), (h_t_wrong, .inl (cI, 15625, .inl y_t_wrong))]) A) args s 0 0 A = QQ
  obtain ⟨H, hH⟩ : ∃ H : Heap, H = s.heap := ⟨_, rfl⟩
  obtain ⟨locs, hlocs⟩ : ∃ locs : List Loc, locs = [] := ⟨_, rfl⟩
  rw [← hH] at hP
  have hS : va_S A s.heap H locs := by rw [hH, hlocs]; exact hS
  suffices hZ : W p l e (headSpec wsX11_would ({ frames := 5, cells := 0, slots := 0, locals := 118 } : Room)).room s m args below meth c H locs 0 0 QQ (F0 m 0 ls []) by rw [hH, hlocs] at hZ; exact hZ
  clear hH hlocs
  rw [fMD_would] at hres
  refine lv_iload_n hx hb dX11_would_0 rfl (lv_at hl 1 rfl) ?_
  refine lv_iconst (v := (0 : Int32)) hx hb dX11_would_1 (by decide) ?_
  refine lv_aload_n hx hb dX11_would_2 rfl (lv_at hl 0 rfl) ?_
  refine va_get (D := (dC, dI)) (ci := 10) (v := .ref h_t_s) (C := RX11) (T := TX11) (N := 29) hx hb hts iMD_would_X11_would_1 hown hK hP 0 rfl rfl 0 (by decide) (hts _ kMD_would_X11_would_0) (fun _ h9 => h9) rfl dX11_would_3 ?_
  refine lv_iconst (v := (0 : Int32)) hx hb dX11_would_6 (by decide) ?_
  refine va_iald hx hb hK hP 4 0 rfl rfl (vin (by decide)) dX11_would_7 ?_
  refine lv_iconst (v := (1 : Int32)) hx hb dX11_would_8 (by decide) ?_
  refine lv_isub hx hb dX11_would_9 ?_
  obtain ⟨o1, ho1, hres⟩ := bd_of hres
  have hPc := hP.sub (ws' := []) [] rfl
  have hDc := hD.sub (ws' := []) [] (by decide) rfl
  have hFc := va_free (wc := []) hD hS hA [] rfl
  refine va_calli (va_runS (As := [.int x1, .int (0 : Int32), .int ((rd t_s (0 : Int32)) - (1 : Int32))]) (rest := []) ⟨hx, hb, hml, hown, hts⟩ (cMD_in l dC dI cI cJ cC cS H.size x1 (0 : Int32) ((rd t_s (0 : Int32)) - (1 : Int32)) o1 ho1) (va_cwS 3 hts gX11_would_X11_in rfl rfl rfl (by decide +kernel) ⟨Nat.le_of_ble_eq_true rfl, Nat.le_of_ble_eq_true rfl⟩) ⟨fun a U g mk q => by obtain ⟨q0, q1, qP, qK, qN, qD⟩ := q; exact ⟨q0, q1, qP, va_K.moved (u := U) (U := U.calling g mk a) (Vm.Alike.refl U.vm) qK, nwS (u := U) (U := U.calling g mk a) rfl qN, qD⟩, fun U hU hW => ⟨rfl, by rw [hU], by rw [hU]; exact hPc, va_K.moved hW.alike hK, nwW hW hN, hDc.weaken (fun _ _ _ _ => trivial)⟩⟩ rfl rfl hl.1 rfl (lv_room (Nat.le_of_ble_eq_true rfl)) dX11_would_10 ⟨Nat.zero_le _, Nat.zero_le _⟩) hS (fun q _ h => hFc q h) hFc (fun r9 u9 t H1 locs ht hvm hw hB hz1 hk1 hS => ?_)
  have hw := hw.symm
  subst hw
  obtain ⟨hP1, hK1, hD1⟩ := hB
  rw [ht] at hP1
  obtain ⟨hP, hD⟩ := va_join (wr := [(h_t, .inr (10, [.ref h_t_s, .ref h_t_was, .ref h_t_begun, .int t_states, .ref h_t_text, .int t_typed, .ref h_t_wrong, .ref h_t_cost, .ref h_t_first, .ref h_t_block, .ref h_t_many, .ref h_t_stack, .int t_height, .ref h_t_written, .int t_length, .ref h_t_own, .ref h_t_levelAt, .ref h_t_itemAt, .ref h_t_times, .int t_at, .int t_ownLength, .int t_depth, .int t_deepest, .int t_letters, .int t_repeats, .int t_corrections, .int t_mostCorrections, .int t_place, .int t_reason])), (h_t_block, .inl (cI, 3125, .inl t_block)), (h_t_cost, .inl (cI, 3125, .inl t_cost)), (h_t_first, .inl (cI, 3125, .inl t_first)), (h_t_s, .inl (cI, 30, .inl t_s)), (h_t_wrong, .inl (cI, 15625, .inl t_wrong))]) (w1 := []) hP hD [] [0, 1, 2, 3, 4, 5] rfl rfl (by decide) (by decide) hk1 hFc hP1 hD1
  generalize H1 = H at hP hS ⊢
  have hP : va_P (dC, dI) vwCl [(h_t, .inr (10, [.ref h_t_s, .ref h_t_was, .ref h_t_begun, .int t_states, .ref h_t_text, .int t_typed, .ref h_t_wrong, .ref h_t_cost, .ref h_t_first, .ref h_t_block, .ref h_t_many, .ref h_t_stack, .int t_height, .ref h_t_written, .int t_length, .ref h_t_own, .ref h_t_levelAt, .ref h_t_itemAt, .ref h_t_times, .int t_at, .int t_ownLength, .int t_depth, .int t_deepest, .int t_letters, .int t_repeats, .int t_corrections, .int t_mostCorrections, .int t_place, .int t_reason])), (h_t_block, .inl (cI, 3125, .inl t_block)), (h_t_cost, .inl (cI, 3125, .inl t_cost)), (h_t_first, .inl (cI, 3125, .inl t_first)), (h_t_s, .inl (cI, 30, .inl t_s)), (h_t_wrong, .inl (cI, 15625, .inl t_wrong))] H := hP
  have hD : va_D A [(h_t, .inr (10, [.ref h_t_s, .ref h_t_was, .ref h_t_begun, .int t_states, .ref h_t_text, .int t_typed, .ref h_t_wrong, .ref h_t_cost, .ref h_t_first, .ref h_t_block, .ref h_t_many, .ref h_t_stack, .int t_height, .ref h_t_written, .int t_length, .ref h_t_own, .ref h_t_levelAt, .ref h_t_itemAt, .ref h_t_times, .int t_at, .int t_ownLength, .int t_depth, .int t_deepest, .int t_letters, .int t_repeats, .int t_corrections, .int t_mostCorrections, .int t_place, .int t_reason])), (h_t_block, .inl (cI, 3125, .inl t_block)), (h_t_cost, .inl (cI, 3125, .inl t_cost)), (h_t_first, .inl (cI, 3125, .inl t_first)), (h_t_s, .inl (cI, 30, .inl t_s)), (h_t_wrong, .inl (cI, 15625, .inl t_wrong))] := hD
  refine lv_if_eq (tgt := 34) hx hb dX11_would_13 (by decide) (fun c_2 => ?_) (fun c_2 => ?_)
  · have hres := it_of hres c_2
    refine lv_ldc (v := (-1000001 : Int32)) hx hb hown (hts _ kMD_would_X11_would_2) dX11_would_34 ?_
    obtain ⟨e9_0, e9_1, e9_2, e9_3, e9_4, e9_5⟩ := tup6 hres
    subst e9_0
    subst e9_1
    subst e9_2
    subst e9_3
    subst e9_4
    subst e9_5
    rw [← hQQ]
    exact W.iret (v := (-1000001 : Int32)) hx hb hr (fun t ht hW => ⟨⟨(-1000001 : Int32), (), rfl, rfl, by rw [ht]; exact hP, va_K.moved hW.alike hK, hD⟩, hS.F ht⟩) hS.2.2 dX11_would_36
  · have hres := ie_of hres c_2
    refine lv_iload_n hx hb dX11_would_16 rfl (lv_at hl 2 rfl) ?_
    refine lv_iconst (v := (0 : Int32)) hx hb dX11_would_17 (by decide) ?_
    refine lv_iconst (v := (3 : Int32)) hx hb dX11_would_18 (by decide) ?_
    obtain ⟨o3, ho3, hres⟩ := bd_of hres
    have hPc := hP.sub (ws' := []) [] rfl
    have hDc := hD.sub (ws' := []) [] (by decide) rfl
    have hFc := va_free (wc := []) hD hS hA [] rfl
    refine va_calli (va_runS (As := [.int x2, .int (0 : Int32), .int (3 : Int32)]) (rest := []) ⟨hx, hb, hml, hown, hts⟩ (cMD_in l dC dI cI cJ cC cS H.size x2 (0 : Int32) (3 : Int32) o3 ho3) (va_cwS 3 hts gX11_would_X11_in rfl rfl rfl (by decide +kernel) ⟨Nat.le_of_ble_eq_true rfl, Nat.le_of_ble_eq_true rfl⟩) ⟨fun a U g mk q => by obtain ⟨q0, q1, qP, qK, qN, qD⟩ := q; exact ⟨q0, q1, qP, va_K.moved (u := U) (U := U.calling g mk a) (Vm.Alike.refl U.vm) qK, nwS (u := U) (U := U.calling g mk a) rfl qN, qD⟩, fun U hU hW => ⟨rfl, by rw [hU], by rw [hU]; exact hPc, va_K.moved hW.alike hK, nwW hW hN, hDc.weaken (fun _ _ _ _ => trivial)⟩⟩ rfl rfl hl.1 rfl (lv_room (Nat.le_of_ble_eq_true rfl)) dX11_would_19 ⟨Nat.zero_le _, Nat.zero_le _⟩) hS (fun q _ h => hFc q h) hFc (fun r9 u9 t H1 locs ht hvm hw hB hz1 hk1 hS => ?_)
    have hw := hw.symm
    subst hw
    obtain ⟨hP1, hK1, hD1⟩ := hB
    rw [ht] at hP1
    obtain ⟨hP, hD⟩ := va_join (wr := [(h_t, .inr (10, [.ref h_t_s, .ref h_t_was, .ref h_t_begun, .int t_states, .ref h_t_text, .int t_typed, .ref h_t_wrong, .ref h_t_cost, .ref h_t_first, .ref h_t_block, .ref h_t_many, .ref h_t_stack, .int t_height, .ref h_t_written, .int t_length, .ref h_t_own, .ref h_t_levelAt, .ref h_t_itemAt, .ref h_t_times, .int t_at, .int t_ownLength, .int t_depth, .int t_deepest, .int t_letters, .int t_repeats, .int t_corrections, .int t_mostCorrections, .int t_place, .int t_reason])), (h_t_block, .inl (cI, 3125, .inl t_block)), (h_t_cost, .inl (cI, 3125, .inl t_cost)), (h_t_first, .inl (cI, 3125, .inl t_first)), (h_t_s, .inl (cI, 30, .inl t_s)), (h_t_wrong, .inl (cI, 15625, .inl t_wrong))]) (w1 := []) hP hD [] [0, 1, 2, 3, 4, 5] rfl rfl (by decide) (by decide) hk1 hFc hP1 hD1
    generalize H1 = H at hP hS ⊢
    have hP : va_P (dC, dI) vwCl [(h_t, .inr (10, [.ref h_t_s, .ref h_t_was, .ref h_t_begun, .int t_states, .ref h_t_text, .int t_typed, .ref h_t_wrong, .ref h_t_cost, .ref h_t_first, .ref h_t_block, .ref h_t_many, .ref h_t_stack, .int t_height, .ref h_t_written, .int t_length, .ref h_t_own, .ref h_t_levelAt, .ref h_t_itemAt, .ref h_t_times, .int t_at, .int t_ownLength, .int t_depth, .int t_deepest, .int t_letters, .int t_repeats, .int t_corrections, .int t_mostCorrections, .int t_place, .int t_reason])), (h_t_block, .inl (cI, 3125, .inl t_block)), (h_t_cost, .inl (cI, 3125, .inl t_cost)), (h_t_first, .inl (cI, 3125, .inl t_first)), (h_t_s, .inl (cI, 30, .inl t_s)), (h_t_wrong, .inl (cI, 15625, .inl t_wrong))] H := hP
    have hD : va_D A [(h_t, .inr (10, [.ref h_t_s, .ref h_t_was, .ref h_t_begun, .int t_states, .ref h_t_text, .int t_typed, .ref h_t_wrong, .ref h_t_cost, .ref h_t_first, .ref h_t_block, .ref h_t_many, .ref h_t_stack, .int t_height, .ref h_t_written, .int t_length, .ref h_t_own, .ref h_t_levelAt, .ref h_t_itemAt, .ref h_t_times, .int t_at, .int t_ownLength, .int t_depth, .int t_deepest, .int t_letters, .int t_repeats, .int t_corrections, .int t_mostCorrections, .int t_place, .int t_reason])), (h_t_block, .inl (cI, 3125, .inl t_block)), (h_t_cost, .inl (cI, 3125, .inl t_cost)), (h_t_first, .inl (cI, 3125, .inl t_first)), (h_t_s, .inl (cI, 30, .inl t_s)), (h_t_wrong, .inl (cI, 15625, .inl t_wrong))] := hD
    refine lv_if_eq (tgt := 34) hx hb dX11_would_22 (by decide) (fun c_4 => ?_) (fun c_4 => ?_)
    · have hres := it_of hres c_4
      refine lv_ldc (v := (-1000001 : Int32)) hx hb hown (hts _ kMD_would_X11_would_2) dX11_would_34 ?_
      obtain ⟨e9_0, e9_1, e9_2, e9_3, e9_4, e9_5⟩ := tup6 hres
      subst e9_0
      subst e9_1
      subst e9_2
      subst e9_3
      subst e9_4
      subst e9_5
      rw [← hQQ]
      exact W.iret (v := (-1000001 : Int32)) hx hb hr (fun t ht hW => ⟨⟨(-1000001 : Int32), (), rfl, rfl, by rw [ht]; exact hP, va_K.moved hW.alike hK, hD⟩, hS.F ht⟩) hS.2.2 dX11_would_36
    · have hres := ie_of hres c_4
      refine lv_aload_n hx hb dX11_would_25 rfl (lv_at hl 0 rfl) ?_
      refine lv_iload_n hx hb dX11_would_26 rfl (lv_at hl 1 rfl) ?_
      refine lv_iload_n hx hb dX11_would_27 rfl (lv_at hl 2 rfl) ?_
      obtain ⟨o5, ho5, hres⟩ := bd_of hres
      have hPc := hP.sub (ws' := [(h_t, .inr (10, [.ref h_t_s, .ref h_t_was, .ref h_t_begun, .int t_states, .ref h_t_text, .int t_typed, .ref h_t_wrong, .ref h_t_cost, .ref h_t_first, .ref h_t_block, .ref h_t_many, .ref h_t_stack, .int t_height, .ref h_t_written, .int t_length, .ref h_t_own, .ref h_t_levelAt, .ref h_t_itemAt, .ref h_t_times, .int t_at, .int t_ownLength, .int t_depth, .int t_deepest, .int t_letters, .int t_repeats, .int t_corrections, .int t_mostCorrections, .int t_place, .int t_reason])), (h_t_block, .inl (cI, 3125, .inl t_block)), (h_t_cost, .inl (cI, 3125, .inl t_cost)), (h_t_first, .inl (cI, 3125, .inl t_first)), (h_t_s, .inl (cI, 30, .inl t_s)), (h_t_wrong, .inl (cI, 15625, .inl t_wrong))]) [0, 1, 2, 3, 4, 5] rfl
      have hDc := hD.sub (ws' := [(h_t, .inr (10, [.ref h_t_s, .ref h_t_was, .ref h_t_begun, .int t_states, .ref h_t_text, .int t_typed, .ref h_t_wrong, .ref h_t_cost, .ref h_t_first, .ref h_t_block, .ref h_t_many, .ref h_t_stack, .int t_height, .ref h_t_written, .int t_length, .ref h_t_own, .ref h_t_levelAt, .ref h_t_itemAt, .ref h_t_times, .int t_at, .int t_ownLength, .int t_depth, .int t_deepest, .int t_letters, .int t_repeats, .int t_corrections, .int t_mostCorrections, .int t_place, .int t_reason])), (h_t_block, .inl (cI, 3125, .inl t_block)), (h_t_cost, .inl (cI, 3125, .inl t_cost)), (h_t_first, .inl (cI, 3125, .inl t_first)), (h_t_s, .inl (cI, 30, .inl t_s)), (h_t_wrong, .inl (cI, 15625, .inl t_wrong))]) [0, 1, 2, 3, 4, 5] (by decide) rfl
      have hFc := va_free (wc := [(h_t, .inr (10, [.ref h_t_s, .ref h_t_was, .ref h_t_begun, .int t_states, .ref h_t_text, .int t_typed, .ref h_t_wrong, .ref h_t_cost, .ref h_t_first, .ref h_t_block, .ref h_t_many, .ref h_t_stack, .int t_height, .ref h_t_written, .int t_length, .ref h_t_own, .ref h_t_levelAt, .ref h_t_itemAt, .ref h_t_times, .int t_at, .int t_ownLength, .int t_depth, .int t_deepest, .int t_letters, .int t_repeats, .int t_corrections, .int t_mostCorrections, .int t_place, .int t_reason])), (h_t_block, .inl (cI, 3125, .inl t_block)), (h_t_cost, .inl (cI, 3125, .inl t_cost)), (h_t_first, .inl (cI, 3125, .inl t_first)), (h_t_s, .inl (cI, 30, .inl t_s)), (h_t_wrong, .inl (cI, 15625, .inl t_wrong))]) hD hS hA [0, 1, 2, 3, 4, 5] rfl
      refine va_calli (va_runV (As := [.int x1, .int x2]) (rest := []) ⟨hx, hb, hml, hown, hts⟩ (cMD_costsWith l dC dI cI cJ cC cS h_t h_t_s h_t_was h_t_begun h_t_text h_t_wrong h_t_cost h_t_first h_t_block h_t_many h_t_stack h_t_written h_t_own h_t_levelAt h_t_itemAt h_t_times H.size t_states t_typed t_height t_length t_at t_ownLength t_depth t_deepest t_letters t_repeats t_corrections t_mostCorrections t_place t_reason t_block t_cost t_first t_s t_wrong x1 x2 o5.1 o5.2.1 o5.2.2.1 o5.2.2.2.1 o5.2.2.2.2.1 o5.2.2.2.2.2 ho5) (cwV 2 hts gX11_would_X11_costsWith rfl rfl rfl (by decide +kernel) ⟨Nat.le_of_ble_eq_true rfl, Nat.le_of_ble_eq_true rfl⟩) ⟨fun a U g mk q => by obtain ⟨q0, q1, qP, qK, qN, qD⟩ := q; exact ⟨q0, q1, qP, va_K.moved (u := U) (U := U.calling g mk a) (Vm.Alike.refl U.vm) qK, nwS (u := U) (U := U.calling g mk a) rfl qN, qD⟩, va_recv hK hPc (ci := 10) (q0 := 0) rfl rfl, fun U hU hW => ⟨rfl, by rw [hU], by rw [hU]; exact hPc, va_K.moved hW.alike hK, nwW hW hN, hDc.weaken (fun _ _ _ _ => trivial)⟩⟩ rfl rfl hl.1 rfl (lv_room (Nat.le_of_ble_eq_true rfl)) dX11_would_28 ⟨Nat.zero_le _, Nat.zero_le _⟩) hS (fun q _ h => hFc q h) hFc (fun r9 u9 t H1 locs ht hvm hw hB hz1 hk1 hS => ?_)
      have hw := hw.symm
      subst hw
      obtain ⟨hP1, hK1, hD1⟩ := hB
      rw [ht] at hP1
      obtain ⟨hP, hD⟩ := va_join (wr := []) (w1 := [(h_t, .inr (10, [.ref h_t_s, .ref h_t_was, .ref h_t_begun, .int t_states, .ref h_t_text, .int t_typed, .ref h_t_wrong, .ref h_t_cost, .ref h_t_first, .ref h_t_block, .ref h_t_many, .ref h_t_stack, .int t_height, .ref h_t_written, .int t_length, .ref h_t_own, .ref h_t_levelAt, .ref h_t_itemAt, .ref h_t_times, .int t_at, .int t_ownLength, .int t_depth, .int t_deepest, .int t_letters, .int t_repeats, .int t_corrections, .int t_mostCorrections, .int t_place, .int t_reason])), (h_t_block, .inl (cI, 3125, .inl o5.2.1)), (h_t_cost, .inl (cI, 3125, .inl o5.2.2.1)), (h_t_first, .inl (cI, 3125, .inl o5.2.2.2.1)), (h_t_s, .inl (cI, 30, .inl o5.2.2.2.2.1)), (h_t_wrong, .inl (cI, 15625, .inl o5.2.2.2.2.2))]) hP hD [0, 1, 2, 3, 4, 5] [] rfl rfl (by decide) (by decide) hk1 hFc hP1 hD1
      generalize H1 = H at hP hS ⊢
      have hP : va_P (dC, dI) vwCl [(h_t, .inr (10, [.ref h_t_s, .ref h_t_was, .ref h_t_begun, .int t_states, .ref h_t_text, .int t_typed, .ref h_t_wrong, .ref h_t_cost, .ref h_t_first, .ref h_t_block, .ref h_t_many, .ref h_t_stack, .int t_height, .ref h_t_written, .int t_length, .ref h_t_own, .ref h_t_levelAt, .ref h_t_itemAt, .ref h_t_times, .int t_at, .int t_ownLength, .int t_depth, .int t_deepest, .int t_letters, .int t_repeats, .int t_corrections, .int t_mostCorrections, .int t_place, .int t_reason])), (h_t_block, .inl (cI, 3125, .inl o5.2.1)), (h_t_cost, .inl (cI, 3125, .inl o5.2.2.1)), (h_t_first, .inl (cI, 3125, .inl o5.2.2.2.1)), (h_t_s, .inl (cI, 30, .inl o5.2.2.2.2.1)), (h_t_wrong, .inl (cI, 15625, .inl o5.2.2.2.2.2))] H := hP
      have hD : va_D A [(h_t, .inr (10, [.ref h_t_s, .ref h_t_was, .ref h_t_begun, .int t_states, .ref h_t_text, .int t_typed, .ref h_t_wrong, .ref h_t_cost, .ref h_t_first, .ref h_t_block, .ref h_t_many, .ref h_t_stack, .int t_height, .ref h_t_written, .int t_length, .ref h_t_own, .ref h_t_levelAt, .ref h_t_itemAt, .ref h_t_times, .int t_at, .int t_ownLength, .int t_depth, .int t_deepest, .int t_letters, .int t_repeats, .int t_corrections, .int t_mostCorrections, .int t_place, .int t_reason])), (h_t_block, .inl (cI, 3125, .inl o5.2.1)), (h_t_cost, .inl (cI, 3125, .inl o5.2.2.1)), (h_t_first, .inl (cI, 3125, .inl o5.2.2.2.1)), (h_t_s, .inl (cI, 30, .inl o5.2.2.2.2.1)), (h_t_wrong, .inl (cI, 15625, .inl o5.2.2.2.2.2))] := hD
      refine lv_goto (tgt := 36) hx hb dX11_would_31 (by decide) ?_
      obtain ⟨e9_0, e9_1, e9_2, e9_3, e9_4, e9_5⟩ := tup6 hres
      subst e9_0
      subst e9_1
      subst e9_2
      subst e9_3
      subst e9_4
      subst e9_5
      rw [← hQQ]
      exact W.iret (v := o5.1) hx hb hr (fun t ht hW => ⟨⟨o5.1, (), rfl, rfl, by rw [ht]; exact hP, va_K.moved hW.alike hK, hD⟩, hS.F ht⟩) hS.2.2 dX11_would_36
