-- MD_differ
theorem kMD_differ_X11_differ_0 : Cond.fieldLink RX11 7 "RepeatNestsModel" "s" "[I" ∈ wsX11_differ := by decide +kernel
theorem iMD_differ_X11_differ_1 : ∀ w ∈ wsX110, w ∈ wsX11_differ := by decide +kernel
set_option maxHeartbeats 4000000 in
set_option maxRecDepth 100000 in
theorem cMD_differ (l : Launch) (dC : Nat → ClassId) (dI : Nat → Nat → Nat) (cI cJ cC cS : ClassId) (h_t h_t_s h_t_was h_t_begun h_t_text h_t_wrong h_t_cost h_t_first h_t_block h_t_many h_t_stack h_t_written h_t_own h_t_levelAt h_t_itemAt h_t_times : Nat) (sz : Nat) (t_states : Int32) (t_typed : Int32) (t_height : Int32) (t_length : Int32) (t_at : Int32) (t_ownLength : Int32) (t_depth : Int32) (t_deepest : Int32) (t_letters : Int32) (t_repeats : Int32) (t_corrections : Int32) (t_mostCorrections : Int32) (t_place : Int32) (t_reason : Int32) (t_s : Nat → Int32) (x1 : Int32) (x2 : Int32) (x3 : Int32) (r : Int32) (hres : fMD_differ t_s x1 x2 x3 = some r) :
    Met l yX11_differ wsX11_differ ({ frames := 0, cells := 0, slots := 0, locals := 0 } : Room) (va_Pc [.ref h_t, .int x1, .int x2, .int x3] (fun (U : State) => U.heap.size = sz ∧ va_P (dC, dI) vwCl [(h_t, .inr (10, [.ref h_t_s, .ref h_t_was, .ref h_t_begun, .int t_states, .ref h_t_text, .int t_typed, .ref h_t_wrong, .ref h_t_cost, .ref h_t_first, .ref h_t_block, .ref h_t_many, .ref h_t_stack, .int t_height, .ref h_t_written, .int t_length, .ref h_t_own, .ref h_t_levelAt, .ref h_t_itemAt, .ref h_t_times, .int t_at, .int t_ownLength, .int t_depth, .int t_deepest, .int t_letters, .int t_repeats, .int t_corrections, .int t_mostCorrections, .int t_place, .int t_reason])), (h_t_s, .inl (cI, 30, .inl t_s))] U.heap ∧ va_K (dC, dI) vwCl (tyA cI cJ cC cS) U ∧ nwN U ∧ va_D (fun _ => True) [(h_t, .inr (10, [.ref h_t_s, .ref h_t_was, .ref h_t_begun, .int t_states, .ref h_t_text, .int t_typed, .ref h_t_wrong, .ref h_t_cost, .ref h_t_first, .ref h_t_block, .ref h_t_many, .ref h_t_stack, .int t_height, .ref h_t_written, .int t_length, .ref h_t_own, .ref h_t_levelAt, .ref h_t_itemAt, .ref h_t_times, .int t_at, .int t_ownLength, .int t_depth, .int t_deepest, .int t_letters, .int t_repeats, .int t_corrections, .int t_mostCorrections, .int t_place, .int t_reason])), (h_t_s, .inl (cI, 30, .inl t_s))])) (va_Qi (fun (r9 : Int32) (_ : Unit) => r9 = r) (fun (_ : Unit) (t : State) => va_P (dC, dI) vwCl [(h_t, .inr (10, [.ref h_t_s, .ref h_t_was, .ref h_t_begun, .int t_states, .ref h_t_text, .int t_typed, .ref h_t_wrong, .ref h_t_cost, .ref h_t_first, .ref h_t_block, .ref h_t_many, .ref h_t_stack, .int t_height, .ref h_t_written, .int t_length, .ref h_t_own, .ref h_t_levelAt, .ref h_t_itemAt, .ref h_t_times, .int t_at, .int t_ownLength, .int t_depth, .int t_deepest, .int t_letters, .int t_repeats, .int t_corrections, .int t_mostCorrections, .int t_place, .int t_reason])), (h_t_s, .inl (cI, 30, .inl t_s))] t.heap ∧ va_K (dC, dI) vwCl (tyA cI cJ cC cS) t ∧ va_D (va_A [(h_t, .inr (10, [.ref h_t_s, .ref h_t_was, .ref h_t_begun, .int t_states, .ref h_t_text, .int t_typed, .ref h_t_wrong, .ref h_t_cost, .ref h_t_first, .ref h_t_block, .ref h_t_many, .ref h_t_stack, .int t_height, .ref h_t_written, .int t_length, .ref h_t_own, .ref h_t_levelAt, .ref h_t_itemAt, .ref h_t_times, .int t_at, .int t_ownLength, .int t_depth, .int t_deepest, .int t_letters, .int t_repeats, .int t_corrections, .int t_mostCorrections, .int t_place, .int t_reason])), (h_t_s, .inl (cI, 30, .inl t_s))] sz) [(h_t, .inr (10, [.ref h_t_s, .ref h_t_was, .ref h_t_begun, .int t_states, .ref h_t_text, .int t_typed, .ref h_t_wrong, .ref h_t_cost, .ref h_t_first, .ref h_t_block, .ref h_t_many, .ref h_t_stack, .int t_height, .ref h_t_written, .int t_length, .ref h_t_own, .ref h_t_levelAt, .ref h_t_itemAt, .ref h_t_times, .int t_at, .int t_ownLength, .int t_depth, .int t_deepest, .int t_letters, .int t_repeats, .int t_corrections, .int t_mostCorrections, .int t_place, .int t_reason])), (h_t_s, .inl (cI, 30, .inl t_s))]) (va_A [(h_t, .inr (10, [.ref h_t_s, .ref h_t_was, .ref h_t_begun, .int t_states, .ref h_t_text, .int t_typed, .ref h_t_wrong, .ref h_t_cost, .ref h_t_first, .ref h_t_block, .ref h_t_many, .ref h_t_stack, .int t_height, .ref h_t_written, .int t_length, .ref h_t_own, .ref h_t_levelAt, .ref h_t_itemAt, .ref h_t_times, .int t_at, .int t_ownLength, .int t_depth, .int t_deepest, .int t_letters, .int t_repeats, .int t_corrections, .int t_mostCorrections, .int t_place, .int t_reason])), (h_t_s, .inl (cI, 30, .inl t_s))] sz)) 0 0 (va_A [(h_t, .inr (10, [.ref h_t_s, .ref h_t_was, .ref h_t_begun, .int t_states, .ref h_t_text, .int t_typed, .ref h_t_wrong, .ref h_t_cost, .ref h_t_first, .ref h_t_block, .ref h_t_many, .ref h_t_stack, .int t_height, .ref h_t_written, .int t_length, .ref h_t_own, .ref h_t_levelAt, .ref h_t_itemAt, .ref h_t_times, .int t_at, .int t_ownLength, .int t_depth, .int t_deepest, .int t_letters, .int t_repeats, .int t_corrections, .int t_mostCorrections, .int t_place, .int t_reason])), (h_t_s, .inl (cI, 30, .inl t_s))] sz) := by
  refine Met.ofW (cc := cX11_differ) (maxL := 6) (ret := (some .int)) (by decide) rfl ?_
  intro p e s m args below meth c s₁ B hml hv
  obtain ⟨hargs, hsz, hP, hK, hN, hD0⟩ := hv
  have hx := B.exec
  have hb := B.bytes
  have hr := B.returns
  have hts := atoms_spec (ws := wsX11_differ) B.pre
  have hown : s.vm.findClass RX11 = some m.cls := findClass_of_methodNamed B.named
  have hlocks := B.notSynchronized
  subst hsz
  have hD := hD0.self (sz := s.heap.size)
  generalize hAe : va_A [(h_t, .inr (10, [.ref h_t_s, .ref h_t_was, .ref h_t_begun, .int t_states, .ref h_t_text, .int t_typed, .ref h_t_wrong, .ref h_t_cost, .ref h_t_first, .ref h_t_block, .ref h_t_many, .ref h_t_stack, .int t_height, .ref h_t_written, .int t_length, .ref h_t_own, .ref h_t_levelAt, .ref h_t_itemAt, .ref h_t_times, .int t_at, .int t_ownLength, .int t_depth, .int t_deepest, .int t_letters, .int t_repeats, .int t_corrections, .int t_mostCorrections, .int t_place, .int t_reason])), (h_t_s, .inl (cI, 30, .inl t_s))] s.heap.size = A at hD ⊢
  have hA : ∀ q : Nat, s.heap.size ≤ q → A q := fun q h => by rw [← hAe]; exact Or.inr h
  have hS : va_S A s.heap s.heap [] := va_S.rf
  have hP : va_P (dC, dI) vwCl [(h_t, .inr (10, [.ref h_t_s, .ref h_t_was, .ref h_t_begun, .int t_states, .ref h_t_text, .int t_typed, .ref h_t_wrong, .ref h_t_cost, .ref h_t_first, .ref h_t_block, .ref h_t_many, .ref h_t_stack, .int t_height, .ref h_t_written, .int t_length, .ref h_t_own, .ref h_t_levelAt, .ref h_t_itemAt, .ref h_t_times, .int t_at, .int t_ownLength, .int t_depth, .int t_deepest, .int t_letters, .int t_repeats, .int t_corrections, .int t_mostCorrections, .int t_place, .int t_reason])), (h_t_s, .inl (cI, 30, .inl t_s))] s.heap := hP
  have hl := lv_entry [.ref h_t, .int x1, .int x2, .int x3] (n := 6) (Nat.le_of_ble_eq_true rfl)
  rw [show entryFrame m args 6 = entryFrame m ([.ref h_t, .int x1, .int x2, .int x3] : List Value).toArray 6 from by rw [hargs], lg_entry_eq]
  generalize (lg_sl [.ref h_t, .int x1, .int x2, .int x3] ++ List.replicate (6 - (lg_sl [.ref h_t, .int x1, .int x2, .int x3]).length) Slot.unset).toArray = ls at hl ⊢
  have hl : lv_has ls 6 [(0, .ref h_t), (1, .int x1), (2, .int x2), (3, .int x3)] := hl
  generalize hQQ : MQ below (va_Qi (fun (r9 : Int32) (_ : Unit) => r9 = r) (fun (_ : Unit) (t : State) => va_P (dC, dI) vwCl [(h_t, .inr (10, [.ref h_t_s, .ref h_t_was, .ref h_t_begun, .int t_states, .ref h_t_text, .int t_typed, .ref h_t_wrong, .ref h_t_cost, .ref h_t_first, .ref h_t_block, .ref h_t_many, .ref h_t_stack, .int t_height, .ref h_t_written, .int t_length, .ref h_t_own, .ref h_t_levelAt, .ref h_t_itemAt, .ref h_t_times, .int t_at, .int t_ownLength, .int t_depth, .int t_deepest, .int t_letters, .int t_repeats, .int t_corrections, .int t_mostCorrections, .int t_place, .int t_reason])), (h_t_s, .inl (cI, 30, .inl t_s))] t.heap ∧ va_K (dC, dI) vwCl (tyA cI cJ cC cS) t ∧ va_D A [(h_t, .inr (10, [.ref h_t_s, .ref h_t_was, .ref h_t_begun, .int t_states, .ref h_t_text, .int t_typed, .ref h_t_wrong, .ref h_t_cost, .ref h_t_first, .ref h_t_block, .ref h_t_many, .ref h_t_stack, .int t_height, .ref h_t_written, .int t_length, .ref h_t_own, .ref h_t_levelAt, .ref h_t_itemAt, .ref h_t_times, .int t_at, .int t_ownLength, .int t_depth, .int t_deepest, .int t_letters, .int t_repeats, .int t_corrections, .int t_mostCorrections, .int t_place, .int t_reason])), (h_t_s, .inl (cI, 30, .inl t_s))]) A) args s 0 0 A = QQ
  obtain ⟨H, hH⟩ : ∃ H : Heap, H = s.heap := ⟨_, rfl⟩
  obtain ⟨locs, hlocs⟩ : ∃ locs : List Loc, locs = [] := ⟨_, rfl⟩
  rw [← hH] at hP
  have hS : va_S A s.heap H locs := by rw [hH, hlocs]; exact hS
  suffices hZ : W p l e (headSpec wsX11_differ ({ frames := 0, cells := 0, slots := 0, locals := 0 } : Room)).room s m args below meth c H locs 0 0 QQ (F0 m 0 ls []) by rw [hH, hlocs] at hZ; exact hZ
  clear hH hlocs
  have hL8 : ∀ (n8 : Nat) , ∀ (x4 : Int32) (x5 : Int32) (H : Heap) (locs : List Loc) (ls : Array Slot), fMD_differ_8 t_s x2 x3 n8 x4 x5 = some r → va_P (dC, dI) vwCl [(h_t, .inr (10, [.ref h_t_s, .ref h_t_was, .ref h_t_begun, .int t_states, .ref h_t_text, .int t_typed, .ref h_t_wrong, .ref h_t_cost, .ref h_t_first, .ref h_t_block, .ref h_t_many, .ref h_t_stack, .int t_height, .ref h_t_written, .int t_length, .ref h_t_own, .ref h_t_levelAt, .ref h_t_itemAt, .ref h_t_times, .int t_at, .int t_ownLength, .int t_depth, .int t_deepest, .int t_letters, .int t_repeats, .int t_corrections, .int t_mostCorrections, .int t_place, .int t_reason])), (h_t_s, .inl (cI, 30, .inl t_s))] H → va_D A [(h_t, .inr (10, [.ref h_t_s, .ref h_t_was, .ref h_t_begun, .int t_states, .ref h_t_text, .int t_typed, .ref h_t_wrong, .ref h_t_cost, .ref h_t_first, .ref h_t_block, .ref h_t_many, .ref h_t_stack, .int t_height, .ref h_t_written, .int t_length, .ref h_t_own, .ref h_t_levelAt, .ref h_t_itemAt, .ref h_t_times, .int t_at, .int t_ownLength, .int t_depth, .int t_deepest, .int t_letters, .int t_repeats, .int t_corrections, .int t_mostCorrections, .int t_place, .int t_reason])), (h_t_s, .inl (cI, 30, .inl t_s))] → va_S A s.heap H locs → lv_has ls 6 [(0, .ref h_t), (2, .int x2), (3, .int x3), (4, .int x4), (5, .int x5)] → W p l e (headSpec wsX11_differ ({ frames := 0, cells := 0, slots := 0, locals := 0 } : Room)).room s m args below meth c H locs 0 0 QQ (F0 m 8 ls []) := by
    intro n8
    induction n8 with
    | zero =>
      intro x4 x5 H locs ls hres
      rw [fMD_differ_8] at hres
      cases hres
    | succ n8 ih8 =>
      intro x4 x5 H locs ls hres hP hD hS hl
      rw [fMD_differ_8] at hres
      refine lv_iload hx hb dX11_differ_8 (lv_at hl 4 rfl) ?_
      refine lv_iload_n hx hb dX11_differ_10 rfl (lv_at hl 1 rfl) ?_
      refine lv_icmp_ge (tgt := 55) hx hb dX11_differ_11 (by decide) (fun c_1 => ?_) (fun c_1 => ?_)
      · have hres := it_of hres c_1
        refine lv_iload hx hb dX11_differ_55 (lv_at hl 3 rfl) ?_
        have e9_0 := Option.some.inj hres
        subst e9_0
        rw [← hQQ]
        exact W.iret (v := x4) hx hb hr (fun t ht hW => ⟨⟨x4, (), rfl, rfl, by rw [ht]; exact hP, va_K.moved hW.alike hK, hD⟩, hS.F ht⟩) hS.2.2 dX11_differ_57
      · have hres := ie_of hres c_1
        refine lv_iload hx hb dX11_differ_14 (lv_at hl 3 rfl) ?_
        refine lv_aload_n hx hb dX11_differ_16 rfl (lv_at hl 0 rfl) ?_
        refine va_get (D := (dC, dI)) (ci := 10) (v := .ref h_t_s) (C := RX11) (T := TX11) (N := 29) hx hb hts iMD_differ_X11_differ_1 hown hK hP 0 rfl rfl 0 (by decide) (hts _ kMD_differ_X11_differ_0) (fun _ h9 => h9) rfl dX11_differ_17 ?_
        refine lv_bipush (v := (6 : Int32)) hx hb dX11_differ_20 (by decide) ?_
        refine lv_iload hx hb dX11_differ_22 (lv_at hl 4 rfl) ?_
        refine lv_iadd hx hb dX11_differ_24 ?_
        obtain ⟨c_2, hres⟩ := ck_of hres
        refine va_iald hx hb hK hP 1 0 rfl rfl c_2 dX11_differ_25 ?_
        refine lv_aload_n hx hb dX11_differ_26 rfl (lv_at hl 0 rfl) ?_
        refine va_get (D := (dC, dI)) (ci := 10) (v := .ref h_t_s) (C := RX11) (T := TX11) (N := 29) hx hb hts iMD_differ_X11_differ_1 hown hK hP 0 rfl rfl 0 (by decide) (hts _ kMD_differ_X11_differ_0) (fun _ h9 => h9) rfl dX11_differ_27 ?_
        refine lv_bipush (v := (6 : Int32)) hx hb dX11_differ_30 (by decide) ?_
        refine lv_iload hx hb dX11_differ_32 (lv_at hl 4 rfl) ?_
        refine lv_iadd hx hb dX11_differ_34 ?_
        refine lv_iload_n hx hb dX11_differ_35 rfl (lv_at hl 2 rfl) ?_
        refine lv_isub hx hb dX11_differ_36 ?_
        obtain ⟨c_3, hres⟩ := ck_of hres
        refine va_iald hx hb hK hP 1 0 rfl rfl c_3 dX11_differ_37 ?_
        refine lv_icmp_eq (tgt := 45) hx hb dX11_differ_38 (by decide) (fun c_4 => ?_) (fun c_4 => ?_)
        · have hres := it_of hres c_4
          refine lv_iconst (v := (0 : Int32)) hx hb dX11_differ_45 (by decide) ?_
          refine lv_iadd hx hb dX11_differ_46 ?_
          refine lv_istore (lv' := [(4, .int (x4 + (0 : Int32))), (0, .ref h_t), (2, .int x2), (3, .int x3), (5, .int x5)]) hx hb dX11_differ_47 hl (by decide) rfl (fun ls hl => ?_)
          refine lv_iinc (v := (x5 + 1)) (lv' := [(5, .int (x5 + 1)), (4, .int (x4 + (0 : Int32))), (0, .ref h_t), (2, .int x2), (3, .int x3)]) hx hb dX11_differ_49 hl (k := 4) rfl rfl (by decide) rfl (fun ls hl => ?_)
          refine lv_goto (tgt := 8) hx hb dX11_differ_52 (by decide) ?_
          exact ih8 (x4 + (0 : Int32)) (x5 + 1) H locs ls hres hP hD hS (lv_sub hl [2, 3, 4, 1, 0] rfl)
        · have hres := ie_of hres c_4
          refine lv_iconst (v := (1 : Int32)) hx hb dX11_differ_41 (by decide) ?_
          refine lv_goto (tgt := 46) hx hb dX11_differ_42 (by decide) ?_
          refine lv_iadd hx hb dX11_differ_46 ?_
          refine lv_istore (lv' := [(4, .int (x4 + (1 : Int32))), (0, .ref h_t), (2, .int x2), (3, .int x3), (5, .int x5)]) hx hb dX11_differ_47 hl (by decide) rfl (fun ls hl => ?_)
          refine lv_iinc (v := (x5 + 1)) (lv' := [(5, .int (x5 + 1)), (4, .int (x4 + (1 : Int32))), (0, .ref h_t), (2, .int x2), (3, .int x3)]) hx hb dX11_differ_49 hl (k := 4) rfl rfl (by decide) rfl (fun ls hl => ?_)
          refine lv_goto (tgt := 8) hx hb dX11_differ_52 (by decide) ?_
          exact ih8 (x4 + (1 : Int32)) (x5 + 1) H locs ls hres hP hD hS (lv_sub hl [2, 3, 4, 1, 0] rfl)
  rw [fMD_differ] at hres
  refine lv_iconst (v := (0 : Int32)) hx hb dX11_differ_0 (by decide) ?_
  refine lv_istore (lv' := [(4, .int (0 : Int32)), (0, .ref h_t), (1, .int x1), (2, .int x2), (3, .int x3)]) hx hb dX11_differ_1 hl (by decide) rfl (fun ls hl => ?_)
  refine lv_iload_n hx hb dX11_differ_3 rfl (lv_at hl 2 rfl) ?_
  refine lv_iload_n hx hb dX11_differ_4 rfl (lv_at hl 4 rfl) ?_
  refine lv_iadd hx hb dX11_differ_5 ?_
  refine lv_istore (lv' := [(5, .int (x1 + x3)), (4, .int (0 : Int32)), (0, .ref h_t), (1, .int x1), (2, .int x2), (3, .int x3)]) hx hb dX11_differ_6 hl (by decide) rfl (fun ls hl => ?_)
  exact hL8 FU (0 : Int32) (x1 + x3) H locs ls hres hP hD hS (lv_sub hl [2, 4, 5, 1, 0] rfl)

-- MD_least
set_option maxHeartbeats 4000000 in
set_option maxRecDepth 100000 in
theorem cMD_least (l : Launch) (dC : Nat → ClassId) (dI : Nat → Nat → Nat) (cI cJ cC cS : ClassId) (h_t h_t_s h_t_was h_t_begun h_t_text h_t_wrong h_t_cost h_t_first h_t_block h_t_many h_t_stack h_t_written h_t_own h_t_levelAt h_t_itemAt h_t_times : Nat) (sz : Nat) (t_states : Int32) (t_typed : Int32) (t_height : Int32) (t_length : Int32) (t_at : Int32) (t_ownLength : Int32) (t_depth : Int32) (t_deepest : Int32) (t_letters : Int32) (t_repeats : Int32) (t_corrections : Int32) (t_mostCorrections : Int32) (t_place : Int32) (t_reason : Int32) (t_s : Nat → Int32) (x1 : Int32) (x2 : Int32) (r : Int32) (hres : fMD_least t_s x1 x2 = some r) :
    Met l yX11_least wsX11_least ({ frames := 1, cells := 0, slots := 0, locals := 25 } : Room) (va_Pc [.ref h_t, .int x1, .int x2] (fun (U : State) => U.heap.size = sz ∧ va_P (dC, dI) vwCl [(h_t, .inr (10, [.ref h_t_s, .ref h_t_was, .ref h_t_begun, .int t_states, .ref h_t_text, .int t_typed, .ref h_t_wrong, .ref h_t_cost, .ref h_t_first, .ref h_t_block, .ref h_t_many, .ref h_t_stack, .int t_height, .ref h_t_written, .int t_length, .ref h_t_own, .ref h_t_levelAt, .ref h_t_itemAt, .ref h_t_times, .int t_at, .int t_ownLength, .int t_depth, .int t_deepest, .int t_letters, .int t_repeats, .int t_corrections, .int t_mostCorrections, .int t_place, .int t_reason])), (h_t_s, .inl (cI, 30, .inl t_s))] U.heap ∧ va_K (dC, dI) vwCl (tyA cI cJ cC cS) U ∧ nwN U ∧ va_D (fun _ => True) [(h_t, .inr (10, [.ref h_t_s, .ref h_t_was, .ref h_t_begun, .int t_states, .ref h_t_text, .int t_typed, .ref h_t_wrong, .ref h_t_cost, .ref h_t_first, .ref h_t_block, .ref h_t_many, .ref h_t_stack, .int t_height, .ref h_t_written, .int t_length, .ref h_t_own, .ref h_t_levelAt, .ref h_t_itemAt, .ref h_t_times, .int t_at, .int t_ownLength, .int t_depth, .int t_deepest, .int t_letters, .int t_repeats, .int t_corrections, .int t_mostCorrections, .int t_place, .int t_reason])), (h_t_s, .inl (cI, 30, .inl t_s))])) (va_Qi (fun (r9 : Int32) (_ : Unit) => r9 = r) (fun (_ : Unit) (t : State) => va_P (dC, dI) vwCl [(h_t, .inr (10, [.ref h_t_s, .ref h_t_was, .ref h_t_begun, .int t_states, .ref h_t_text, .int t_typed, .ref h_t_wrong, .ref h_t_cost, .ref h_t_first, .ref h_t_block, .ref h_t_many, .ref h_t_stack, .int t_height, .ref h_t_written, .int t_length, .ref h_t_own, .ref h_t_levelAt, .ref h_t_itemAt, .ref h_t_times, .int t_at, .int t_ownLength, .int t_depth, .int t_deepest, .int t_letters, .int t_repeats, .int t_corrections, .int t_mostCorrections, .int t_place, .int t_reason])), (h_t_s, .inl (cI, 30, .inl t_s))] t.heap ∧ va_K (dC, dI) vwCl (tyA cI cJ cC cS) t ∧ va_D (va_A [(h_t, .inr (10, [.ref h_t_s, .ref h_t_was, .ref h_t_begun, .int t_states, .ref h_t_text, .int t_typed, .ref h_t_wrong, .ref h_t_cost, .ref h_t_first, .ref h_t_block, .ref h_t_many, .ref h_t_stack, .int t_height, .ref h_t_written, .int t_length, .ref h_t_own, .ref h_t_levelAt, .ref h_t_itemAt, .ref h_t_times, .int t_at, .int t_ownLength, .int t_depth, .int t_deepest, .int t_letters, .int t_repeats, .int t_corrections, .int t_mostCorrections, .int t_place, .int t_reason])), (h_t_s, .inl (cI, 30, .inl t_s))] sz) [(h_t, .inr (10, [.ref h_t_s, .ref h_t_was, .ref h_t_begun, .int t_states, .ref h_t_text, .int t_typed, .ref h_t_wrong, .ref h_t_cost, .ref h_t_first, .ref h_t_block, .ref h_t_many, .ref h_t_stack, .int t_height, .ref h_t_written, .int t_length, .ref h_t_own, .ref h_t_levelAt, .ref h_t_itemAt, .ref h_t_times, .int t_at, .int t_ownLength, .int t_depth, .int t_deepest, .int t_letters, .int t_repeats, .int t_corrections, .int t_mostCorrections, .int t_place, .int t_reason])), (h_t_s, .inl (cI, 30, .inl t_s))]) (va_A [(h_t, .inr (10, [.ref h_t_s, .ref h_t_was, .ref h_t_begun, .int t_states, .ref h_t_text, .int t_typed, .ref h_t_wrong, .ref h_t_cost, .ref h_t_first, .ref h_t_block, .ref h_t_many, .ref h_t_stack, .int t_height, .ref h_t_written, .int t_length, .ref h_t_own, .ref h_t_levelAt, .ref h_t_itemAt, .ref h_t_times, .int t_at, .int t_ownLength, .int t_depth, .int t_deepest, .int t_letters, .int t_repeats, .int t_corrections, .int t_mostCorrections, .int t_place, .int t_reason])), (h_t_s, .inl (cI, 30, .inl t_s))] sz)) 0 0 (va_A [(h_t, .inr (10, [.ref h_t_s, .ref h_t_was, .ref h_t_begun, .int t_states, .ref h_t_text, .int t_typed, .ref h_t_wrong, .ref h_t_cost, .ref h_t_first, .ref h_t_block, .ref h_t_many, .ref h_t_stack, .int t_height, .ref h_t_written, .int t_length, .ref h_t_own, .ref h_t_levelAt, .ref h_t_itemAt, .ref h_t_times, .int t_at, .int t_ownLength, .int t_depth, .int t_deepest, .int t_letters, .int t_repeats, .int t_corrections, .int t_mostCorrections, .int t_place, .int t_reason])), (h_t_s, .inl (cI, 30, .inl t_s))] sz) := by
  refine Met.ofW (cc := cX11_least) (maxL := 4) (ret := (some .int)) (by decide) rfl ?_
  intro p e s m args below meth c s₁ B hml hv
  obtain ⟨hargs, hsz, hP, hK, hN, hD0⟩ := hv
  have hx := B.exec
  have hb := B.bytes
  have hr := B.returns
  have hts := atoms_spec (ws := wsX11_least) B.pre
  have hown : s.vm.findClass RX11 = some m.cls := findClass_of_methodNamed B.named
  have hlocks := B.notSynchronized
  subst hsz
  have hD := hD0.self (sz := s.heap.size)
  generalize hAe : va_A [(h_t, .inr (10, [.ref h_t_s, .ref h_t_was, .ref h_t_begun, .int t_states, .ref h_t_text, .int t_typed, .ref h_t_wrong, .ref h_t_cost, .ref h_t_first, .ref h_t_block, .ref h_t_many, .ref h_t_stack, .int t_height, .ref h_t_written, .int t_length, .ref h_t_own, .ref h_t_levelAt, .ref h_t_itemAt, .ref h_t_times, .int t_at, .int t_ownLength, .int t_depth, .int t_deepest, .int t_letters, .int t_repeats, .int t_corrections, .int t_mostCorrections, .int t_place, .int t_reason])), (h_t_s, .inl (cI, 30, .inl t_s))] s.heap.size = A at hD ⊢
  have hA : ∀ q : Nat, s.heap.size ≤ q → A q := fun q h => by rw [← hAe]; exact Or.inr h
  have hS : va_S A s.heap s.heap [] := va_S.rf
  have hP : va_P (dC, dI) vwCl [(h_t, .inr (10, [.ref h_t_s, .ref h_t_was, .ref h_t_begun, .int t_states, .ref h_t_text, .int t_typed, .ref h_t_wrong, .ref h_t_cost, .ref h_t_first, .ref h_t_block, .ref h_t_many, .ref h_t_stack, .int t_height, .ref h_t_written, .int t_length, .ref h_t_own, .ref h_t_levelAt, .ref h_t_itemAt, .ref h_t_times, .int t_at, .int t_ownLength, .int t_depth, .int t_deepest, .int t_letters, .int t_repeats, .int t_corrections, .int t_mostCorrections, .int t_place, .int t_reason])), (h_t_s, .inl (cI, 30, .inl t_s))] s.heap := hP
  have hl := lv_entry [.ref h_t, .int x1, .int x2] (n := 4) (Nat.le_of_ble_eq_true rfl)
  rw [show entryFrame m args 4 = entryFrame m ([.ref h_t, .int x1, .int x2] : List Value).toArray 4 from by rw [hargs], lg_entry_eq]
  generalize (lg_sl [.ref h_t, .int x1, .int x2] ++ List.replicate (4 - (lg_sl [.ref h_t, .int x1, .int x2]).length) Slot.unset).toArray = ls at hl ⊢
  have hl : lv_has ls 4 [(0, .ref h_t), (1, .int x1), (2, .int x2)] := hl
  generalize hQQ : MQ below (va_Qi (fun (r9 : Int32) (_ : Unit) => r9 = r) (fun (_ : Unit) (t : State) => va_P (dC, dI) vwCl [(h_t, .inr (10, [.ref h_t_s, .ref h_t_was, .ref h_t_begun, .int t_states, .ref h_t_text, .int t_typed, .ref h_t_wrong, .ref h_t_cost, .ref h_t_first, .ref h_t_block, .ref h_t_many, .ref h_t_stack, .int t_height, .ref h_t_written, .int t_length, .ref h_t_own, .ref h_t_levelAt, .ref h_t_itemAt, .ref h_t_times, .int t_at, .int t_ownLength, .int t_depth, .int t_deepest, .int t_letters, .int t_repeats, .int t_corrections, .int t_mostCorrections, .int t_place, .int t_reason])), (h_t_s, .inl (cI, 30, .inl t_s))] t.heap ∧ va_K (dC, dI) vwCl (tyA cI cJ cC cS) t ∧ va_D A [(h_t, .inr (10, [.ref h_t_s, .ref h_t_was, .ref h_t_begun, .int t_states, .ref h_t_text, .int t_typed, .ref h_t_wrong, .ref h_t_cost, .ref h_t_first, .ref h_t_block, .ref h_t_many, .ref h_t_stack, .int t_height, .ref h_t_written, .int t_length, .ref h_t_own, .ref h_t_levelAt, .ref h_t_itemAt, .ref h_t_times, .int t_at, .int t_ownLength, .int t_depth, .int t_deepest, .int t_letters, .int t_repeats, .int t_corrections, .int t_mostCorrections, .int t_place, .int t_reason])), (h_t_s, .inl (cI, 30, .inl t_s))]) A) args s 0 0 A = QQ
  obtain ⟨H, hH⟩ : ∃ H : Heap, H = s.heap := ⟨_, rfl⟩
  obtain ⟨locs, hlocs⟩ : ∃ locs : List Loc, locs = [] := ⟨_, rfl⟩
  rw [← hH] at hP
  have hS : va_S A s.heap H locs := by rw [hH, hlocs]; exact hS
  suffices hZ : W p l e (headSpec wsX11_least ({ frames := 1, cells := 0, slots := 0, locals := 25 } : Room)).room s m args below meth c H locs 0 0 QQ (F0 m 0 ls []) by rw [hH, hlocs] at hZ; exact hZ
  clear hH hlocs
  have hL2 : ∀ (n2 : Nat) , ∀ (x3 : Int32) (H : Heap) (locs : List Loc) (ls : Array Slot), fMD_least_2 t_s x1 x2 n2 x3 = some r → va_P (dC, dI) vwCl [(h_t, .inr (10, [.ref h_t_s, .ref h_t_was, .ref h_t_begun, .int t_states, .ref h_t_text, .int t_typed, .ref h_t_wrong, .ref h_t_cost, .ref h_t_first, .ref h_t_block, .ref h_t_many, .ref h_t_stack, .int t_height, .ref h_t_written, .int t_length, .ref h_t_own, .ref h_t_levelAt, .ref h_t_itemAt, .ref h_t_times, .int t_at, .int t_ownLength, .int t_depth, .int t_deepest, .int t_letters, .int t_repeats, .int t_corrections, .int t_mostCorrections, .int t_place, .int t_reason])), (h_t_s, .inl (cI, 30, .inl t_s))] H → va_D A [(h_t, .inr (10, [.ref h_t_s, .ref h_t_was, .ref h_t_begun, .int t_states, .ref h_t_text, .int t_typed, .ref h_t_wrong, .ref h_t_cost, .ref h_t_first, .ref h_t_block, .ref h_t_many, .ref h_t_stack, .int t_height, .ref h_t_written, .int t_length, .ref h_t_own, .ref h_t_levelAt, .ref h_t_itemAt, .ref h_t_times, .int t_at, .int t_ownLength, .int t_depth, .int t_deepest, .int t_letters, .int t_repeats, .int t_corrections, .int t_mostCorrections, .int t_place, .int t_reason])), (h_t_s, .inl (cI, 30, .inl t_s))] → va_S A s.heap H locs → lv_has ls 4 [(0, .ref h_t), (1, .int x1), (2, .int x2), (3, .int x3)] → W p l e (headSpec wsX11_least ({ frames := 1, cells := 0, slots := 0, locals := 25 } : Room)).room s m args below meth c H locs 0 0 QQ (F0 m 2 ls []) := by
    intro n2
    induction n2 with
    | zero =>
      intro x3 H locs ls hres
      rw [fMD_least_2] at hres
      cases hres
    | succ n2 ih2 =>
      intro x3 H locs ls hres hP hD hS hl
      rw [fMD_least_2] at hres
      refine lv_aload_n hx hb dX11_least_2 rfl (lv_at hl 0 rfl) ?_
      refine lv_iload_n hx hb dX11_least_3 rfl (lv_at hl 1 rfl) ?_
      refine lv_iload_n hx hb dX11_least_4 rfl (lv_at hl 2 rfl) ?_
      refine lv_iload_n hx hb dX11_least_5 rfl (lv_at hl 3 rfl) ?_
      obtain ⟨o1, ho1, hres⟩ := bd_of hres
      have hPc := hP.sub (ws' := [(h_t, .inr (10, [.ref h_t_s, .ref h_t_was, .ref h_t_begun, .int t_states, .ref h_t_text, .int t_typed, .ref h_t_wrong, .ref h_t_cost, .ref h_t_first, .ref h_t_block, .ref h_t_many, .ref h_t_stack, .int t_height, .ref h_t_written, .int t_length, .ref h_t_own, .ref h_t_levelAt, .ref h_t_itemAt, .ref h_t_times, .int t_at, .int t_ownLength, .int t_depth, .int t_deepest, .int t_letters, .int t_repeats, .int t_corrections, .int t_mostCorrections, .int t_place, .int t_reason])), (h_t_s, .inl (cI, 30, .inl t_s))]) [0, 1] rfl
      have hDc := hD.sub (ws' := [(h_t, .inr (10, [.ref h_t_s, .ref h_t_was, .ref h_t_begun, .int t_states, .ref h_t_text, .int t_typed, .ref h_t_wrong, .ref h_t_cost, .ref h_t_first, .ref h_t_block, .ref h_t_many, .ref h_t_stack, .int t_height, .ref h_t_written, .int t_length, .ref h_t_own, .ref h_t_levelAt, .ref h_t_itemAt, .ref h_t_times, .int t_at, .int t_ownLength, .int t_depth, .int t_deepest, .int t_letters, .int t_repeats, .int t_corrections, .int t_mostCorrections, .int t_place, .int t_reason])), (h_t_s, .inl (cI, 30, .inl t_s))]) [0, 1] (by decide) rfl
      have hFc := va_free (wc := [(h_t, .inr (10, [.ref h_t_s, .ref h_t_was, .ref h_t_begun, .int t_states, .ref h_t_text, .int t_typed, .ref h_t_wrong, .ref h_t_cost, .ref h_t_first, .ref h_t_block, .ref h_t_many, .ref h_t_stack, .int t_height, .ref h_t_written, .int t_length, .ref h_t_own, .ref h_t_levelAt, .ref h_t_itemAt, .ref h_t_times, .int t_at, .int t_ownLength, .int t_depth, .int t_deepest, .int t_letters, .int t_repeats, .int t_corrections, .int t_mostCorrections, .int t_place, .int t_reason])), (h_t_s, .inl (cI, 30, .inl t_s))]) hD hS hA [0, 1] rfl
      refine va_calli (va_runV (As := [.int x1, .int x2, .int x3]) (rest := []) ⟨hx, hb, hml, hown, hts⟩ (cMD_differ l dC dI cI cJ cC cS h_t h_t_s h_t_was h_t_begun h_t_text h_t_wrong h_t_cost h_t_first h_t_block h_t_many h_t_stack h_t_written h_t_own h_t_levelAt h_t_itemAt h_t_times H.size t_states t_typed t_height t_length t_at t_ownLength t_depth t_deepest t_letters t_repeats t_corrections t_mostCorrections t_place t_reason t_s x1 x2 x3 o1 ho1) (cwV 3 hts gX11_least_X11_differ rfl rfl rfl (by decide +kernel) ⟨Nat.le_of_ble_eq_true rfl, Nat.le_of_ble_eq_true rfl⟩) ⟨fun a U g mk q => by obtain ⟨q0, q1, qP, qK, qN, qD⟩ := q; exact ⟨q0, q1, qP, va_K.moved (u := U) (U := U.calling g mk a) (Vm.Alike.refl U.vm) qK, nwS (u := U) (U := U.calling g mk a) rfl qN, qD⟩, va_recv hK hPc (ci := 10) (q0 := 0) rfl rfl, fun U hU hW => ⟨rfl, by rw [hU], by rw [hU]; exact hPc, va_K.moved hW.alike hK, nwW hW hN, hDc.weaken (fun _ _ _ _ => trivial)⟩⟩ rfl rfl hl.1 rfl (lv_room (Nat.le_of_ble_eq_true rfl)) dX11_least_6 ⟨Nat.zero_le _, Nat.zero_le _⟩) hS (fun q _ h => hFc q h) hFc (fun r9 u9 t H1 locs ht hvm hw hB hz1 hk1 hS => ?_)
      have hw := hw.symm
      subst hw
      obtain ⟨hP1, hK1, hD1⟩ := hB
      rw [ht] at hP1
      obtain ⟨hP, hD⟩ := va_join (wr := []) (w1 := [(h_t, .inr (10, [.ref h_t_s, .ref h_t_was, .ref h_t_begun, .int t_states, .ref h_t_text, .int t_typed, .ref h_t_wrong, .ref h_t_cost, .ref h_t_first, .ref h_t_block, .ref h_t_many, .ref h_t_stack, .int t_height, .ref h_t_written, .int t_length, .ref h_t_own, .ref h_t_levelAt, .ref h_t_itemAt, .ref h_t_times, .int t_at, .int t_ownLength, .int t_depth, .int t_deepest, .int t_letters, .int t_repeats, .int t_corrections, .int t_mostCorrections, .int t_place, .int t_reason])), (h_t_s, .inl (cI, 30, .inl t_s))]) hP hD [0, 1] [] rfl rfl (by decide) (by decide) hk1 hFc hP1 hD1
      generalize H1 = H at hP hS ⊢
      have hP : va_P (dC, dI) vwCl [(h_t, .inr (10, [.ref h_t_s, .ref h_t_was, .ref h_t_begun, .int t_states, .ref h_t_text, .int t_typed, .ref h_t_wrong, .ref h_t_cost, .ref h_t_first, .ref h_t_block, .ref h_t_many, .ref h_t_stack, .int t_height, .ref h_t_written, .int t_length, .ref h_t_own, .ref h_t_levelAt, .ref h_t_itemAt, .ref h_t_times, .int t_at, .int t_ownLength, .int t_depth, .int t_deepest, .int t_letters, .int t_repeats, .int t_corrections, .int t_mostCorrections, .int t_place, .int t_reason])), (h_t_s, .inl (cI, 30, .inl t_s))] H := hP
      have hD : va_D A [(h_t, .inr (10, [.ref h_t_s, .ref h_t_was, .ref h_t_begun, .int t_states, .ref h_t_text, .int t_typed, .ref h_t_wrong, .ref h_t_cost, .ref h_t_first, .ref h_t_block, .ref h_t_many, .ref h_t_stack, .int t_height, .ref h_t_written, .int t_length, .ref h_t_own, .ref h_t_levelAt, .ref h_t_itemAt, .ref h_t_times, .int t_at, .int t_ownLength, .int t_depth, .int t_deepest, .int t_letters, .int t_repeats, .int t_corrections, .int t_mostCorrections, .int t_place, .int t_reason])), (h_t_s, .inl (cI, 30, .inl t_s))] := hD
      refine lv_if_le (tgt := 18) hx hb dX11_least_9 (by decide) (fun c_2 => ?_) (fun c_2 => ?_)
      · have hres := it_of hres c_2
        refine lv_iload_n hx hb dX11_least_18 rfl (lv_at hl 3 rfl) ?_
        have e9_0 := Option.some.inj hres
        subst e9_0
        rw [← hQQ]
        exact W.iret (v := x3) hx hb hr (fun t ht hW => ⟨⟨x3, (), rfl, rfl, by rw [ht]; exact hP, va_K.moved hW.alike hK, hD⟩, hS.F ht⟩) hS.2.2 dX11_least_19
      · have hres := ie_of hres c_2
        refine lv_iinc (v := (x3 + 1)) (lv' := [(3, .int (x3 + 1)), (0, .ref h_t), (1, .int x1), (2, .int x2)]) hx hb dX11_least_12 hl (k := 3) rfl rfl (by decide) rfl (fun ls hl => ?_)
        refine lv_goto (tgt := 2) hx hb dX11_least_15 (by decide) ?_
        exact ih2 (x3 + 1) H locs ls hres hP hD hS (lv_sub hl [1, 2, 3, 0] rfl)
  rw [fMD_least] at hres
  refine lv_iconst (v := (1 : Int32)) hx hb dX11_least_0 (by decide) ?_
  refine lv_istore_n (lv' := [(3, .int (1 : Int32)), (0, .ref h_t), (1, .int x1), (2, .int x2)]) hx hb dX11_least_1 rfl hl (by decide) rfl (fun ls hl => ?_)
  exact hL2 FU (1 : Int32) H locs ls hres hP hD hS (lv_sub hl [1, 2, 3, 0] rfl)

-- MD_isRun
theorem kMD_isRun_X11_isRun_0 : Cond.fieldLink RX11 7 "RepeatNestsModel" "s" "[I" ∈ wsX11_isRun := by decide +kernel
theorem iMD_isRun_X11_isRun_1 : ∀ w ∈ wsX110, w ∈ wsX11_isRun := by decide +kernel
set_option maxHeartbeats 4000000 in
set_option maxRecDepth 100000 in
theorem cMD_isRun (l : Launch) (dC : Nat → ClassId) (dI : Nat → Nat → Nat) (cI cJ cC cS : ClassId) (h_t h_t_s h_t_was h_t_begun h_t_text h_t_wrong h_t_cost h_t_first h_t_block h_t_many h_t_stack h_t_written h_t_own h_t_levelAt h_t_itemAt h_t_times : Nat) (sz : Nat) (t_states : Int32) (t_typed : Int32) (t_height : Int32) (t_length : Int32) (t_at : Int32) (t_ownLength : Int32) (t_depth : Int32) (t_deepest : Int32) (t_letters : Int32) (t_repeats : Int32) (t_corrections : Int32) (t_mostCorrections : Int32) (t_place : Int32) (t_reason : Int32) (t_s : Nat → Int32) (x1 : Int32) (x2 : Int32) (r : Int32) (hres : fMD_isRun t_s x1 x2 = some r) :
    Met l yX11_isRun wsX11_isRun ({ frames := 2, cells := 0, slots := 0, locals := 48 } : Room) (va_Pc [.ref h_t, .int x1, .int x2] (fun (U : State) => U.heap.size = sz ∧ va_P (dC, dI) vwCl [(h_t, .inr (10, [.ref h_t_s, .ref h_t_was, .ref h_t_begun, .int t_states, .ref h_t_text, .int t_typed, .ref h_t_wrong, .ref h_t_cost, .ref h_t_first, .ref h_t_block, .ref h_t_many, .ref h_t_stack, .int t_height, .ref h_t_written, .int t_length, .ref h_t_own, .ref h_t_levelAt, .ref h_t_itemAt, .ref h_t_times, .int t_at, .int t_ownLength, .int t_depth, .int t_deepest, .int t_letters, .int t_repeats, .int t_corrections, .int t_mostCorrections, .int t_place, .int t_reason])), (h_t_s, .inl (cI, 30, .inl t_s))] U.heap ∧ va_K (dC, dI) vwCl (tyA cI cJ cC cS) U ∧ nwN U ∧ va_D (fun _ => True) [(h_t, .inr (10, [.ref h_t_s, .ref h_t_was, .ref h_t_begun, .int t_states, .ref h_t_text, .int t_typed, .ref h_t_wrong, .ref h_t_cost, .ref h_t_first, .ref h_t_block, .ref h_t_many, .ref h_t_stack, .int t_height, .ref h_t_written, .int t_length, .ref h_t_own, .ref h_t_levelAt, .ref h_t_itemAt, .ref h_t_times, .int t_at, .int t_ownLength, .int t_depth, .int t_deepest, .int t_letters, .int t_repeats, .int t_corrections, .int t_mostCorrections, .int t_place, .int t_reason])), (h_t_s, .inl (cI, 30, .inl t_s))])) (va_Qi (fun (r9 : Int32) (_ : Unit) => r9 = r) (fun (_ : Unit) (t : State) => va_P (dC, dI) vwCl [(h_t, .inr (10, [.ref h_t_s, .ref h_t_was, .ref h_t_begun, .int t_states, .ref h_t_text, .int t_typed, .ref h_t_wrong, .ref h_t_cost, .ref h_t_first, .ref h_t_block, .ref h_t_many, .ref h_t_stack, .int t_height, .ref h_t_written, .int t_length, .ref h_t_own, .ref h_t_levelAt, .ref h_t_itemAt, .ref h_t_times, .int t_at, .int t_ownLength, .int t_depth, .int t_deepest, .int t_letters, .int t_repeats, .int t_corrections, .int t_mostCorrections, .int t_place, .int t_reason])), (h_t_s, .inl (cI, 30, .inl t_s))] t.heap ∧ va_K (dC, dI) vwCl (tyA cI cJ cC cS) t ∧ va_D (va_A [(h_t, .inr (10, [.ref h_t_s, .ref h_t_was, .ref h_t_begun, .int t_states, .ref h_t_text, .int t_typed, .ref h_t_wrong, .ref h_t_cost, .ref h_t_first, .ref h_t_block, .ref h_t_many, .ref h_t_stack, .int t_height, .ref h_t_written, .int t_length, .ref h_t_own, .ref h_t_levelAt, .ref h_t_itemAt, .ref h_t_times, .int t_at, .int t_ownLength, .int t_depth, .int t_deepest, .int t_letters, .int t_repeats, .int t_corrections, .int t_mostCorrections, .int t_place, .int t_reason])), (h_t_s, .inl (cI, 30, .inl t_s))] sz) [(h_t, .inr (10, [.ref h_t_s, .ref h_t_was, .ref h_t_begun, .int t_states, .ref h_t_text, .int t_typed, .ref h_t_wrong, .ref h_t_cost, .ref h_t_first, .ref h_t_block, .ref h_t_many, .ref h_t_stack, .int t_height, .ref h_t_written, .int t_length, .ref h_t_own, .ref h_t_levelAt, .ref h_t_itemAt, .ref h_t_times, .int t_at, .int t_ownLength, .int t_depth, .int t_deepest, .int t_letters, .int t_repeats, .int t_corrections, .int t_mostCorrections, .int t_place, .int t_reason])), (h_t_s, .inl (cI, 30, .inl t_s))]) (va_A [(h_t, .inr (10, [.ref h_t_s, .ref h_t_was, .ref h_t_begun, .int t_states, .ref h_t_text, .int t_typed, .ref h_t_wrong, .ref h_t_cost, .ref h_t_first, .ref h_t_block, .ref h_t_many, .ref h_t_stack, .int t_height, .ref h_t_written, .int t_length, .ref h_t_own, .ref h_t_levelAt, .ref h_t_itemAt, .ref h_t_times, .int t_at, .int t_ownLength, .int t_depth, .int t_deepest, .int t_letters, .int t_repeats, .int t_corrections, .int t_mostCorrections, .int t_place, .int t_reason])), (h_t_s, .inl (cI, 30, .inl t_s))] sz)) 0 0 (va_A [(h_t, .inr (10, [.ref h_t_s, .ref h_t_was, .ref h_t_begun, .int t_states, .ref h_t_text, .int t_typed, .ref h_t_wrong, .ref h_t_cost, .ref h_t_first, .ref h_t_block, .ref h_t_many, .ref h_t_stack, .int t_height, .ref h_t_written, .int t_length, .ref h_t_own, .ref h_t_levelAt, .ref h_t_itemAt, .ref h_t_times, .int t_at, .int t_ownLength, .int t_depth, .int t_deepest, .int t_letters, .int t_repeats, .int t_corrections, .int t_mostCorrections, .int t_place, .int t_reason])), (h_t_s, .inl (cI, 30, .inl t_s))] sz) := by
  refine Met.ofW (cc := cX11_isRun) (maxL := 5) (ret := (some .boolean)) (by decide) rfl ?_
  intro p e s m args below meth c s₁ B hml hv
  obtain ⟨hargs, hsz, hP, hK, hN, hD0⟩ := hv
  have hx := B.exec
  have hb := B.bytes
  have hr := B.returns
  have hts := atoms_spec (ws := wsX11_isRun) B.pre
  have hown : s.vm.findClass RX11 = some m.cls := findClass_of_methodNamed B.named
  have hlocks := B.notSynchronized
  subst hsz
  have hD := hD0.self (sz := s.heap.size)
  generalize hAe : va_A [(h_t, .inr (10, [.ref h_t_s, .ref h_t_was, .ref h_t_begun, .int t_states, .ref h_t_text, .int t_typed, .ref h_t_wrong, .ref h_t_cost, .ref h_t_first, .ref h_t_block, .ref h_t_many, .ref h_t_stack, .int t_height, .ref h_t_written, .int t_length, .ref h_t_own, .ref h_t_levelAt, .ref h_t_itemAt, .ref h_t_times, .int t_at, .int t_ownLength, .int t_depth, .int t_deepest, .int t_letters, .int t_repeats, .int t_corrections, .int t_mostCorrections, .int t_place, .int t_reason])), (h_t_s, .inl (cI, 30, .inl t_s))] s.heap.size = A at hD ⊢
  have hA : ∀ q : Nat, s.heap.size ≤ q → A q := fun q h => by rw [← hAe]; exact Or.inr h
  have hS : va_S A s.heap s.heap [] := va_S.rf
  have hP : va_P (dC, dI) vwCl [(h_t, .inr (10, [.ref h_t_s, .ref h_t_was, .ref h_t_begun, .int t_states, .ref h_t_text, .int t_typed, .ref h_t_wrong, .ref h_t_cost, .ref h_t_first, .ref h_t_block, .ref h_t_many, .ref h_t_stack, .int t_height, .ref h_t_written, .int t_length, .ref h_t_own, .ref h_t_levelAt, .ref h_t_itemAt, .ref h_t_times, .int t_at, .int t_ownLength, .int t_depth, .int t_deepest, .int t_letters, .int t_repeats, .int t_corrections, .int t_mostCorrections, .int t_place, .int t_reason])), (h_t_s, .inl (cI, 30, .inl t_s))] s.heap := hP
  have hl := lv_entry [.ref h_t, .int x1, .int x2] (n := 5) (Nat.le_of_ble_eq_true rfl)
  rw [show entryFrame m args 5 = entryFrame m ([.ref h_t, .int x1, .int x2] : List Value).toArray 5 from by rw [hargs], lg_entry_eq]
  generalize (lg_sl [.ref h_t, .int x1, .int x2] ++ List.replicate (5 - (lg_sl [.ref h_t, .int x1, .int x2]).length) Slot.unset).toArray = ls at hl ⊢
  have hl : lv_has ls 5 [(0, .ref h_t), (1, .int x1), (2, .int x2)] := hl
  generalize hQQ : MQ below (va_Qi (fun (r9 : Int32) (_ : Unit) => r9 = r) (fun (_ : Unit) (t : State) => va_P (dC, dI) vwCl [(h_t, .inr (10, [.ref h_t_s, .ref h_t_was, .ref h_t_begun, .int t_states, .ref h_t_text, .int t_typed, .ref h_t_wrong, .ref h_t_cost, .ref h_t_first, .ref h_t_block, .ref h_t_many, .ref h_t_stack, .int t_height, .ref h_t_written, .int t_length, .ref h_t_own, .ref h_t_levelAt, .ref h_t_itemAt, .ref h_t_times, .int t_at, .int t_ownLength, .int t_depth, .int t_deepest, .int t_letters, .int t_repeats, .int t_corrections, .int t_mostCorrections, .int t_place, .int t_reason])), (h_t_s, .inl (cI, 30, .inl t_s))] t.heap ∧ va_K (dC, dI) vwCl (tyA cI cJ cC cS) t ∧ va_D A [(h_t, .inr (10, [.ref h_t_s, .ref h_t_was, .ref h_t_begun, .int t_states, .ref h_t_text, .int t_typed, .ref h_t_wrong, .ref h_t_cost, .ref h_t_first, .ref h_t_block, .ref h_t_many, .ref h_t_stack, .int t_height, .ref h_t_written, .int t_length, .ref h_t_own, .ref h_t_levelAt, .ref h_t_itemAt, .ref h_t_times, .int t_at, .int t_ownLength, .int t_depth, .int t_deepest, .int t_letters, .int t_repeats, .int t_corrections, .int t_mostCorrections, .int t_place, .int t_reason])), (h_t_s, .inl (cI, 30, .inl t_s))]) A) args s 0 0 A = QQ
  obtain ⟨H, hH⟩ : ∃ H : Heap, H = s.heap := ⟨_, rfl⟩
  obtain ⟨locs, hlocs⟩ : ∃ locs : List Loc, locs = [] := ⟨_, rfl⟩
  rw [← hH] at hP
  have hS : va_S A s.heap H locs := by rw [hH, hlocs]; exact hS
  suffices hZ : W p l e (headSpec wsX11_isRun ({ frames := 2, cells := 0, slots := 0, locals := 48 } : Room)).room s m args below meth c H locs 0 0 QQ (F0 m 0 ls []) by rw [hH, hlocs] at hZ; exact hZ
  clear hH hlocs
  have hK49 : ∀ (x3 : Int32) (s0 : Int32) (H : Heap) (locs : List Loc) (ls : Array Slot), fMD_isRun_49 t_s x1 x2 x3 s0 = some r → va_P (dC, dI) vwCl [(h_t, .inr (10, [.ref h_t_s, .ref h_t_was, .ref h_t_begun, .int t_states, .ref h_t_text, .int t_typed, .ref h_t_wrong, .ref h_t_cost, .ref h_t_first, .ref h_t_block, .ref h_t_many, .ref h_t_stack, .int t_height, .ref h_t_written, .int t_length, .ref h_t_own, .ref h_t_levelAt, .ref h_t_itemAt, .ref h_t_times, .int t_at, .int t_ownLength, .int t_depth, .int t_deepest, .int t_letters, .int t_repeats, .int t_corrections, .int t_mostCorrections, .int t_place, .int t_reason])), (h_t_s, .inl (cI, 30, .inl t_s))] H → va_D A [(h_t, .inr (10, [.ref h_t_s, .ref h_t_was, .ref h_t_begun, .int t_states, .ref h_t_text, .int t_typed, .ref h_t_wrong, .ref h_t_cost, .ref h_t_first, .ref h_t_block, .ref h_t_many, .ref h_t_stack, .int t_height, .ref h_t_written, .int t_length, .ref h_t_own, .ref h_t_levelAt, .ref h_t_itemAt, .ref h_t_times, .int t_at, .int t_ownLength, .int t_depth, .int t_deepest, .int t_letters, .int t_repeats, .int t_corrections, .int t_mostCorrections, .int t_place, .int t_reason])), (h_t_s, .inl (cI, 30, .inl t_s))] → va_S A s.heap H locs → lv_has ls 5 [(0, .ref h_t), (1, .int x1), (2, .int x2), (3, .int x3)] → W p l e (headSpec wsX11_isRun ({ frames := 2, cells := 0, slots := 0, locals := 48 } : Room)).room s m args below meth c H locs 0 0 QQ (F0 m 49 ls [.int s0]) := by
    intro x3 s0 H locs ls hres hP hD hS hl
    rw [fMD_isRun_49] at hres
    refine lv_istore (lv' := [(4, .int s0), (0, .ref h_t), (1, .int x1), (2, .int x2), (3, .int x3)]) hx hb dX11_isRun_49 hl (by decide) rfl (fun ls hl => ?_)
    refine lv_iload hx hb dX11_isRun_51 (lv_at hl 0 rfl) ?_
    refine lv_if_eq (tgt := 82) hx hb dX11_isRun_53 (by decide) (fun c_1 => ?_) (fun c_1 => ?_)
    · have hres := it_of hres c_1
      refine lv_iconst (v := (0 : Int32)) hx hb dX11_isRun_82 (by decide) ?_
      have e9_0 := Option.some.inj hres
      subst e9_0
      rw [← hQQ]
      exact W.zret (v := (0 : Int32)) hx hb hr rfl (fun t ht hW => ⟨⟨(0 : Int32), (), rfl, rfl, by rw [ht]; exact hP, va_K.moved hW.alike hK, hD⟩, hS.F ht⟩) hS.2.2 dX11_isRun_83
    · have hres := ie_of hres c_1
      refine lv_iload_n hx hb dX11_isRun_56 rfl (lv_at hl 3 rfl) ?_
      refine lv_aload_n hx hb dX11_isRun_57 rfl (lv_at hl 1 rfl) ?_
      refine va_get (D := (dC, dI)) (ci := 10) (v := .ref h_t_s) (C := RX11) (T := TX11) (N := 29) hx hb hts iMD_isRun_X11_isRun_1 hown hK hP 0 rfl rfl 0 (by decide) (hts _ kMD_isRun_X11_isRun_0) (fun _ h9 => h9) rfl dX11_isRun_58 ?_
      refine lv_iconst (v := (0 : Int32)) hx hb dX11_isRun_61 (by decide) ?_
      refine va_iald hx hb hK hP 1 0 rfl rfl (vin (by decide)) dX11_isRun_62 ?_
      refine lv_icmp_eq (tgt := 78) hx hb dX11_isRun_63 (by decide) (fun c_2 => ?_) (fun c_2 => ?_)
      · have hres := it_of hres c_2
        refine lv_iconst (v := (1 : Int32)) hx hb dX11_isRun_78 (by decide) ?_
        refine lv_goto (tgt := 83) hx hb dX11_isRun_79 (by decide) ?_
        have e9_0 := Option.some.inj hres
        subst e9_0
        rw [← hQQ]
        exact W.zret (v := (1 : Int32)) hx hb hr rfl (fun t ht hW => ⟨⟨(1 : Int32), (), rfl, rfl, by rw [ht]; exact hP, va_K.moved hW.alike hK, hD⟩, hS.F ht⟩) hS.2.2 dX11_isRun_83
      · have hres := ie_of hres c_2
        refine lv_aload_n hx hb dX11_isRun_66 rfl (lv_at hl 1 rfl) ?_
        refine lv_iload_n hx hb dX11_isRun_67 rfl (lv_at hl 2 rfl) ?_
        refine lv_iload_n hx hb dX11_isRun_68 rfl (lv_at hl 3 rfl) ?_
        refine lv_iconst (v := (1 : Int32)) hx hb dX11_isRun_69 (by decide) ?_
        refine lv_iadd hx hb dX11_isRun_70 ?_
        refine lv_iload_n hx hb dX11_isRun_71 rfl (lv_at hl 4 rfl) ?_
        obtain ⟨o3, ho3, hres⟩ := bd_of hres
        have hPc := hP.sub (ws' := [(h_t, .inr (10, [.ref h_t_s, .ref h_t_was, .ref h_t_begun, .int t_states, .ref h_t_text, .int t_typed, .ref h_t_wrong, .ref h_t_cost, .ref h_t_first, .ref h_t_block, .ref h_t_many, .ref h_t_stack, .int t_height, .ref h_t_written, .int t_length, .ref h_t_own, .ref h_t_levelAt, .ref h_t_itemAt, .ref h_t_times, .int t_at, .int t_ownLength, .int t_depth, .int t_deepest, .int t_letters, .int t_repeats, .int t_corrections, .int t_mostCorrections, .int t_place, .int t_reason])), (h_t_s, .inl (cI, 30, .inl t_s))]) [0, 1] rfl
        have hDc := hD.sub (ws' := [(h_t, .inr (10, [.ref h_t_s, .ref h_t_was, .ref h_t_begun, .int t_states, .ref h_t_text, .int t_typed, .ref h_t_wrong, .ref h_t_cost, .ref h_t_first, .ref h_t_block, .ref h_t_many, .ref h_t_stack, .int t_height, .ref h_t_written, .int t_length, .ref h_t_own, .ref h_t_levelAt, .ref h_t_itemAt, .ref h_t_times, .int t_at, .int t_ownLength, .int t_depth, .int t_deepest, .int t_letters, .int t_repeats, .int t_corrections, .int t_mostCorrections, .int t_place, .int t_reason])), (h_t_s, .inl (cI, 30, .inl t_s))]) [0, 1] (by decide) rfl
        have hFc := va_free (wc := [(h_t, .inr (10, [.ref h_t_s, .ref h_t_was, .ref h_t_begun, .int t_states, .ref h_t_text, .int t_typed, .ref h_t_wrong, .ref h_t_cost, .ref h_t_first, .ref h_t_block, .ref h_t_many, .ref h_t_stack, .int t_height, .ref h_t_written, .int t_length, .ref h_t_own, .ref h_t_levelAt, .ref h_t_itemAt, .ref h_t_times, .int t_at, .int t_ownLength, .int t_depth, .int t_deepest, .int t_letters, .int t_repeats, .int t_corrections, .int t_mostCorrections, .int t_place, .int t_reason])), (h_t_s, .inl (cI, 30, .inl t_s))]) hD hS hA [0, 1] rfl
        refine va_calli (va_runV (As := [.int x1, .int (x2 + (1 : Int32)), .int x3]) (rest := []) ⟨hx, hb, hml, hown, hts⟩ (cMD_differ l dC dI cI cJ cC cS h_t h_t_s h_t_was h_t_begun h_t_text h_t_wrong h_t_cost h_t_first h_t_block h_t_many h_t_stack h_t_written h_t_own h_t_levelAt h_t_itemAt h_t_times H.size t_states t_typed t_height t_length t_at t_ownLength t_depth t_deepest t_letters t_repeats t_corrections t_mostCorrections t_place t_reason t_s x1 (x2 + (1 : Int32)) x3 o3 ho3) (cwV 3 hts gX11_isRun_X11_differ rfl rfl rfl (by decide +kernel) ⟨Nat.le_of_ble_eq_true rfl, Nat.le_of_ble_eq_true rfl⟩) ⟨fun a U g mk q => by obtain ⟨q0, q1, qP, qK, qN, qD⟩ := q; exact ⟨q0, q1, qP, va_K.moved (u := U) (U := U.calling g mk a) (Vm.Alike.refl U.vm) qK, nwS (u := U) (U := U.calling g mk a) rfl qN, qD⟩, va_recv hK hPc (ci := 10) (q0 := 0) rfl rfl, fun U hU hW => ⟨rfl, by rw [hU], by rw [hU]; exact hPc, va_K.moved hW.alike hK, nwW hW hN, hDc.weaken (fun _ _ _ _ => trivial)⟩⟩ rfl rfl hl.1 rfl (lv_room (Nat.le_of_ble_eq_true rfl)) dX11_isRun_72 ⟨Nat.zero_le _, Nat.zero_le _⟩) hS (fun q _ h => hFc q h) hFc (fun r9 u9 t H1 locs ht hvm hw hB hz1 hk1 hS => ?_)
        have hw := hw.symm
        subst hw
        obtain ⟨hP1, hK1, hD1⟩ := hB
        rw [ht] at hP1
        obtain ⟨hP, hD⟩ := va_join (wr := []) (w1 := [(h_t, .inr (10, [.ref h_t_s, .ref h_t_was, .ref h_t_begun, .int t_states, .ref h_t_text, .int t_typed, .ref h_t_wrong, .ref h_t_cost, .ref h_t_first, .ref h_t_block, .ref h_t_many, .ref h_t_stack, .int t_height, .ref h_t_written, .int t_length, .ref h_t_own, .ref h_t_levelAt, .ref h_t_itemAt, .ref h_t_times, .int t_at, .int t_ownLength, .int t_depth, .int t_deepest, .int t_letters, .int t_repeats, .int t_corrections, .int t_mostCorrections, .int t_place, .int t_reason])), (h_t_s, .inl (cI, 30, .inl t_s))]) hP hD [0, 1] [] rfl rfl (by decide) (by decide) hk1 hFc hP1 hD1
        generalize H1 = H at hP hS ⊢
        have hP : va_P (dC, dI) vwCl [(h_t, .inr (10, [.ref h_t_s, .ref h_t_was, .ref h_t_begun, .int t_states, .ref h_t_text, .int t_typed, .ref h_t_wrong, .ref h_t_cost, .ref h_t_first, .ref h_t_block, .ref h_t_many, .ref h_t_stack, .int t_height, .ref h_t_written, .int t_length, .ref h_t_own, .ref h_t_levelAt, .ref h_t_itemAt, .ref h_t_times, .int t_at, .int t_ownLength, .int t_depth, .int t_deepest, .int t_letters, .int t_repeats, .int t_corrections, .int t_mostCorrections, .int t_place, .int t_reason])), (h_t_s, .inl (cI, 30, .inl t_s))] H := hP
        have hD : va_D A [(h_t, .inr (10, [.ref h_t_s, .ref h_t_was, .ref h_t_begun, .int t_states, .ref h_t_text, .int t_typed, .ref h_t_wrong, .ref h_t_cost, .ref h_t_first, .ref h_t_block, .ref h_t_many, .ref h_t_stack, .int t_height, .ref h_t_written, .int t_length, .ref h_t_own, .ref h_t_levelAt, .ref h_t_itemAt, .ref h_t_times, .int t_at, .int t_ownLength, .int t_depth, .int t_deepest, .int t_letters, .int t_repeats, .int t_corrections, .int t_mostCorrections, .int t_place, .int t_reason])), (h_t_s, .inl (cI, 30, .inl t_s))] := hD
        refine lv_if_le (tgt := 82) hx hb dX11_isRun_75 (by decide) (fun c_4 => ?_) (fun c_4 => ?_)
        · have hres := it_of hres c_4
          refine lv_iconst (v := (0 : Int32)) hx hb dX11_isRun_82 (by decide) ?_
          have e9_0 := Option.some.inj hres
          subst e9_0
          rw [← hQQ]
          exact W.zret (v := (0 : Int32)) hx hb hr rfl (fun t ht hW => ⟨⟨(0 : Int32), (), rfl, rfl, by rw [ht]; exact hP, va_K.moved hW.alike hK, hD⟩, hS.F ht⟩) hS.2.2 dX11_isRun_83
        · have hres := ie_of hres c_4
          refine lv_iconst (v := (1 : Int32)) hx hb dX11_isRun_78 (by decide) ?_
          refine lv_goto (tgt := 83) hx hb dX11_isRun_79 (by decide) ?_
          have e9_0 := Option.some.inj hres
          subst e9_0
          rw [← hQQ]
          exact W.zret (v := (1 : Int32)) hx hb hr rfl (fun t ht hW => ⟨⟨(1 : Int32), (), rfl, rfl, by rw [ht]; exact hP, va_K.moved hW.alike hK, hD⟩, hS.F ht⟩) hS.2.2 dX11_isRun_83
  have hK44 : ∀ (x3 : Int32) (H : Heap) (locs : List Loc) (ls : Array Slot), fMD_isRun_44 t_s x1 x2 x3 = some r → va_P (dC, dI) vwCl [(h_t, .inr (10, [.ref h_t_s, .ref h_t_was, .ref h_t_begun, .int t_states, .ref h_t_text, .int t_typed, .ref h_t_wrong, .ref h_t_cost, .ref h_t_first, .ref h_t_block, .ref h_t_many, .ref h_t_stack, .int t_height, .ref h_t_written, .int t_length, .ref h_t_own, .ref h_t_levelAt, .ref h_t_itemAt, .ref h_t_times, .int t_at, .int t_ownLength, .int t_depth, .int t_deepest, .int t_letters, .int t_repeats, .int t_corrections, .int t_mostCorrections, .int t_place, .int t_reason])), (h_t_s, .inl (cI, 30, .inl t_s))] H → va_D A [(h_t, .inr (10, [.ref h_t_s, .ref h_t_was, .ref h_t_begun, .int t_states, .ref h_t_text, .int t_typed, .ref h_t_wrong, .ref h_t_cost, .ref h_t_first, .ref h_t_block, .ref h_t_many, .ref h_t_stack, .int t_height, .ref h_t_written, .int t_length, .ref h_t_own, .ref h_t_levelAt, .ref h_t_itemAt, .ref h_t_times, .int t_at, .int t_ownLength, .int t_depth, .int t_deepest, .int t_letters, .int t_repeats, .int t_corrections, .int t_mostCorrections, .int t_place, .int t_reason])), (h_t_s, .inl (cI, 30, .inl t_s))] → va_S A s.heap H locs → lv_has ls 5 [(0, .ref h_t), (1, .int x1), (2, .int x2), (3, .int x3)] → W p l e (headSpec wsX11_isRun ({ frames := 2, cells := 0, slots := 0, locals := 48 } : Room)).room s m args below meth c H locs 0 0 QQ (F0 m 44 ls []) := by
    intro x3 H locs ls hres hP hD hS hl
    rw [fMD_isRun_44] at hres
    refine lv_iconst (v := (1 : Int32)) hx hb dX11_isRun_44 (by decide) ?_
    refine lv_goto (tgt := 49) hx hb dX11_isRun_45 (by decide) ?_
    exact hK49 x3 (1 : Int32) H locs ls hres hP hD hS (lv_sub hl [0, 1, 2, 3] rfl)
  have hK48 : ∀ (x3 : Int32) (H : Heap) (locs : List Loc) (ls : Array Slot), fMD_isRun_48 t_s x1 x2 x3 = some r → va_P (dC, dI) vwCl [(h_t, .inr (10, [.ref h_t_s, .ref h_t_was, .ref h_t_begun, .int t_states, .ref h_t_text, .int t_typed, .ref h_t_wrong, .ref h_t_cost, .ref h_t_first, .ref h_t_block, .ref h_t_many, .ref h_t_stack, .int t_height, .ref h_t_written, .int t_length, .ref h_t_own, .ref h_t_levelAt, .ref h_t_itemAt, .ref h_t_times, .int t_at, .int t_ownLength, .int t_depth, .int t_deepest, .int t_letters, .int t_repeats, .int t_corrections, .int t_mostCorrections, .int t_place, .int t_reason])), (h_t_s, .inl (cI, 30, .inl t_s))] H → va_D A [(h_t, .inr (10, [.ref h_t_s, .ref h_t_was, .ref h_t_begun, .int t_states, .ref h_t_text, .int t_typed, .ref h_t_wrong, .ref h_t_cost, .ref h_t_first, .ref h_t_block, .ref h_t_many, .ref h_t_stack, .int t_height, .ref h_t_written, .int t_length, .ref h_t_own, .ref h_t_levelAt, .ref h_t_itemAt, .ref h_t_times, .int t_at, .int t_ownLength, .int t_depth, .int t_deepest, .int t_letters, .int t_repeats, .int t_corrections, .int t_mostCorrections, .int t_place, .int t_reason])), (h_t_s, .inl (cI, 30, .inl t_s))] → va_S A s.heap H locs → lv_has ls 5 [(0, .ref h_t), (1, .int x1), (2, .int x2), (3, .int x3)] → W p l e (headSpec wsX11_isRun ({ frames := 2, cells := 0, slots := 0, locals := 48 } : Room)).room s m args below meth c H locs 0 0 QQ (F0 m 48 ls []) := by
    intro x3 H locs ls hres hP hD hS hl
    rw [fMD_isRun_48] at hres
    refine lv_iconst (v := (0 : Int32)) hx hb dX11_isRun_48 (by decide) ?_
    exact hK49 x3 (0 : Int32) H locs ls hres hP hD hS (lv_sub hl [0, 1, 2, 3] rfl)
  have hK21 : ∀ (x3 : Int32) (s0 : Int32) (H : Heap) (locs : List Loc) (ls : Array Slot), fMD_isRun_21 t_s x1 x2 x3 s0 = some r → va_P (dC, dI) vwCl [(h_t, .inr (10, [.ref h_t_s, .ref h_t_was, .ref h_t_begun, .int t_states, .ref h_t_text, .int t_typed, .ref h_t_wrong, .ref h_t_cost, .ref h_t_first, .ref h_t_block, .ref h_t_many, .ref h_t_stack, .int t_height, .ref h_t_written, .int t_length, .ref h_t_own, .ref h_t_levelAt, .ref h_t_itemAt, .ref h_t_times, .int t_at, .int t_ownLength, .int t_depth, .int t_deepest, .int t_letters, .int t_repeats, .int t_corrections, .int t_mostCorrections, .int t_place, .int t_reason])), (h_t_s, .inl (cI, 30, .inl t_s))] H → va_D A [(h_t, .inr (10, [.ref h_t_s, .ref h_t_was, .ref h_t_begun, .int t_states, .ref h_t_text, .int t_typed, .ref h_t_wrong, .ref h_t_cost, .ref h_t_first, .ref h_t_block, .ref h_t_many, .ref h_t_stack, .int t_height, .ref h_t_written, .int t_length, .ref h_t_own, .ref h_t_levelAt, .ref h_t_itemAt, .ref h_t_times, .int t_at, .int t_ownLength, .int t_depth, .int t_deepest, .int t_letters, .int t_repeats, .int t_corrections, .int t_mostCorrections, .int t_place, .int t_reason])), (h_t_s, .inl (cI, 30, .inl t_s))] → va_S A s.heap H locs → lv_has ls 5 [(0, .ref h_t), (1, .int x1), (2, .int x2), (3, .int x3)] → W p l e (headSpec wsX11_isRun ({ frames := 2, cells := 0, slots := 0, locals := 48 } : Room)).room s m args below meth c H locs 0 0 QQ (F0 m 21 ls [.int s0]) := by
    intro x3 s0 H locs ls hres hP hD hS hl
    rw [fMD_isRun_21] at hres
    refine lv_istore (lv' := [(4, .int s0), (0, .ref h_t), (1, .int x1), (2, .int x2), (3, .int x3)]) hx hb dX11_isRun_21 hl (by decide) rfl (fun ls hl => ?_)
    refine lv_iload hx hb dX11_isRun_23 (lv_at hl 0 rfl) ?_
    refine lv_if_eq (tgt := 48) hx hb dX11_isRun_25 (by decide) (fun c_5 => ?_) (fun c_5 => ?_)
    · have hres := it_of hres c_5
      exact hK48 x3 H locs ls hres hP hD hS (lv_sub hl [1, 2, 3, 4] rfl)
    · have hres := ie_of hres c_5
      refine lv_iload_n hx hb dX11_isRun_28 rfl (lv_at hl 2 rfl) ?_
      refine lv_if_eq (tgt := 44) hx hb dX11_isRun_29 (by decide) (fun c_6 => ?_) (fun c_6 => ?_)
      · have hres := it_of hres c_6
        exact hK44 x3 H locs ls hres hP hD hS (lv_sub hl [1, 2, 3, 4] rfl)
      · have hres := ie_of hres c_6
        refine lv_aload_n hx hb dX11_isRun_32 rfl (lv_at hl 1 rfl) ?_
        refine lv_iload_n hx hb dX11_isRun_33 rfl (lv_at hl 2 rfl) ?_
        refine lv_iconst (v := (1 : Int32)) hx hb dX11_isRun_34 (by decide) ?_
        refine lv_isub hx hb dX11_isRun_35 ?_
        refine lv_iload_n hx hb dX11_isRun_36 rfl (lv_at hl 3 rfl) ?_
        refine lv_iload_n hx hb dX11_isRun_37 rfl (lv_at hl 4 rfl) ?_
        obtain ⟨o7, ho7, hres⟩ := bd_of hres
        have hPc := hP.sub (ws' := [(h_t, .inr (10, [.ref h_t_s, .ref h_t_was, .ref h_t_begun, .int t_states, .ref h_t_text, .int t_typed, .ref h_t_wrong, .ref h_t_cost, .ref h_t_first, .ref h_t_block, .ref h_t_many, .ref h_t_stack, .int t_height, .ref h_t_written, .int t_length, .ref h_t_own, .ref h_t_levelAt, .ref h_t_itemAt, .ref h_t_times, .int t_at, .int t_ownLength, .int t_depth, .int t_deepest, .int t_letters, .int t_repeats, .int t_corrections, .int t_mostCorrections, .int t_place, .int t_reason])), (h_t_s, .inl (cI, 30, .inl t_s))]) [0, 1] rfl
        have hDc := hD.sub (ws' := [(h_t, .inr (10, [.ref h_t_s, .ref h_t_was, .ref h_t_begun, .int t_states, .ref h_t_text, .int t_typed, .ref h_t_wrong, .ref h_t_cost, .ref h_t_first, .ref h_t_block, .ref h_t_many, .ref h_t_stack, .int t_height, .ref h_t_written, .int t_length, .ref h_t_own, .ref h_t_levelAt, .ref h_t_itemAt, .ref h_t_times, .int t_at, .int t_ownLength, .int t_depth, .int t_deepest, .int t_letters, .int t_repeats, .int t_corrections, .int t_mostCorrections, .int t_place, .int t_reason])), (h_t_s, .inl (cI, 30, .inl t_s))]) [0, 1] (by decide) rfl
        have hFc := va_free (wc := [(h_t, .inr (10, [.ref h_t_s, .ref h_t_was, .ref h_t_begun, .int t_states, .ref h_t_text, .int t_typed, .ref h_t_wrong, .ref h_t_cost, .ref h_t_first, .ref h_t_block, .ref h_t_many, .ref h_t_stack, .int t_height, .ref h_t_written, .int t_length, .ref h_t_own, .ref h_t_levelAt, .ref h_t_itemAt, .ref h_t_times, .int t_at, .int t_ownLength, .int t_depth, .int t_deepest, .int t_letters, .int t_repeats, .int t_corrections, .int t_mostCorrections, .int t_place, .int t_reason])), (h_t_s, .inl (cI, 30, .inl t_s))]) hD hS hA [0, 1] rfl
        refine va_calli (va_runV (As := [.int (x1 - (1 : Int32)), .int x2, .int x3]) (rest := []) ⟨hx, hb, hml, hown, hts⟩ (cMD_differ l dC dI cI cJ cC cS h_t h_t_s h_t_was h_t_begun h_t_text h_t_wrong h_t_cost h_t_first h_t_block h_t_many h_t_stack h_t_written h_t_own h_t_levelAt h_t_itemAt h_t_times H.size t_states t_typed t_height t_length t_at t_ownLength t_depth t_deepest t_letters t_repeats t_corrections t_mostCorrections t_place t_reason t_s (x1 - (1 : Int32)) x2 x3 o7 ho7) (cwV 3 hts gX11_isRun_X11_differ rfl rfl rfl (by decide +kernel) ⟨Nat.le_of_ble_eq_true rfl, Nat.le_of_ble_eq_true rfl⟩) ⟨fun a U g mk q => by obtain ⟨q0, q1, qP, qK, qN, qD⟩ := q; exact ⟨q0, q1, qP, va_K.moved (u := U) (U := U.calling g mk a) (Vm.Alike.refl U.vm) qK, nwS (u := U) (U := U.calling g mk a) rfl qN, qD⟩, va_recv hK hPc (ci := 10) (q0 := 0) rfl rfl, fun U hU hW => ⟨rfl, by rw [hU], by rw [hU]; exact hPc, va_K.moved hW.alike hK, nwW hW hN, hDc.weaken (fun _ _ _ _ => trivial)⟩⟩ rfl rfl hl.1 rfl (lv_room (Nat.le_of_ble_eq_true rfl)) dX11_isRun_38 ⟨Nat.zero_le _, Nat.zero_le _⟩) hS (fun q _ h => hFc q h) hFc (fun r9 u9 t H1 locs ht hvm hw hB hz1 hk1 hS => ?_)
        have hw := hw.symm
        subst hw
        obtain ⟨hP1, hK1, hD1⟩ := hB
        rw [ht] at hP1
        obtain ⟨hP, hD⟩ := va_join (wr := []) (w1 := [(h_t, .inr (10, [.ref h_t_s, .ref h_t_was, .ref h_t_begun, .int t_states, .ref h_t_text, .int t_typed, .ref h_t_wrong, .ref h_t_cost, .ref h_t_first, .ref h_t_block, .ref h_t_many, .ref h_t_stack, .int t_height, .ref h_t_written, .int t_length, .ref h_t_own, .ref h_t_levelAt, .ref h_t_itemAt, .ref h_t_times, .int t_at, .int t_ownLength, .int t_depth, .int t_deepest, .int t_letters, .int t_repeats, .int t_corrections, .int t_mostCorrections, .int t_place, .int t_reason])), (h_t_s, .inl (cI, 30, .inl t_s))]) hP hD [0, 1] [] rfl rfl (by decide) (by decide) hk1 hFc hP1 hD1
        generalize H1 = H at hP hS ⊢
        have hP : va_P (dC, dI) vwCl [(h_t, .inr (10, [.ref h_t_s, .ref h_t_was, .ref h_t_begun, .int t_states, .ref h_t_text, .int t_typed, .ref h_t_wrong, .ref h_t_cost, .ref h_t_first, .ref h_t_block, .ref h_t_many, .ref h_t_stack, .int t_height, .ref h_t_written, .int t_length, .ref h_t_own, .ref h_t_levelAt, .ref h_t_itemAt, .ref h_t_times, .int t_at, .int t_ownLength, .int t_depth, .int t_deepest, .int t_letters, .int t_repeats, .int t_corrections, .int t_mostCorrections, .int t_place, .int t_reason])), (h_t_s, .inl (cI, 30, .inl t_s))] H := hP
        have hD : va_D A [(h_t, .inr (10, [.ref h_t_s, .ref h_t_was, .ref h_t_begun, .int t_states, .ref h_t_text, .int t_typed, .ref h_t_wrong, .ref h_t_cost, .ref h_t_first, .ref h_t_block, .ref h_t_many, .ref h_t_stack, .int t_height, .ref h_t_written, .int t_length, .ref h_t_own, .ref h_t_levelAt, .ref h_t_itemAt, .ref h_t_times, .int t_at, .int t_ownLength, .int t_depth, .int t_deepest, .int t_letters, .int t_repeats, .int t_corrections, .int t_mostCorrections, .int t_place, .int t_reason])), (h_t_s, .inl (cI, 30, .inl t_s))] := hD
        refine lv_if_le (tgt := 48) hx hb dX11_isRun_41 (by decide) (fun c_8 => ?_) (fun c_8 => ?_)
        · have hres := it_of hres c_8
          exact hK48 x3 H locs ls hres hP hD hS (lv_sub hl [1, 2, 3, 4] rfl)
        · have hres := ie_of hres c_8
          exact hK44 x3 H locs ls hres hP hD hS (lv_sub hl [1, 2, 3, 4] rfl)
  rw [fMD_isRun] at hres
  refine lv_aload_n hx hb dX11_isRun_0 rfl (lv_at hl 0 rfl) ?_
  refine lv_iload_n hx hb dX11_isRun_1 rfl (lv_at hl 1 rfl) ?_
  refine lv_iload_n hx hb dX11_isRun_2 rfl (lv_at hl 2 rfl) ?_
  obtain ⟨o9, ho9, hres⟩ := bd_of hres
  have hPc := hP.sub (ws' := [(h_t, .inr (10, [.ref h_t_s, .ref h_t_was, .ref h_t_begun, .int t_states, .ref h_t_text, .int t_typed, .ref h_t_wrong, .ref h_t_cost, .ref h_t_first, .ref h_t_block, .ref h_t_many, .ref h_t_stack, .int t_height, .ref h_t_written, .int t_length, .ref h_t_own, .ref h_t_levelAt, .ref h_t_itemAt, .ref h_t_times, .int t_at, .int t_ownLength, .int t_depth, .int t_deepest, .int t_letters, .int t_repeats, .int t_corrections, .int t_mostCorrections, .int t_place, .int t_reason])), (h_t_s, .inl (cI, 30, .inl t_s))]) [0, 1] rfl
  have hDc := hD.sub (ws' := [(h_t, .inr (10, [.ref h_t_s, .ref h_t_was, .ref h_t_begun, .int t_states, .ref h_t_text, .int t_typed, .ref h_t_wrong, .ref h_t_cost, .ref h_t_first, .ref h_t_block, .ref h_t_many, .ref h_t_stack, .int t_height, .ref h_t_written, .int t_length, .ref h_t_own, .ref h_t_levelAt, .ref h_t_itemAt, .ref h_t_times, .int t_at, .int t_ownLength, .int t_depth, .int t_deepest, .int t_letters, .int t_repeats, .int t_corrections, .int t_mostCorrections, .int t_place, .int t_reason])), (h_t_s, .inl (cI, 30, .inl t_s))]) [0, 1] (by decide) rfl
  have hFc := va_free (wc := [(h_t, .inr (10, [.ref h_t_s, .ref h_t_was, .ref h_t_begun, .int t_states, .ref h_t_text, .int t_typed, .ref h_t_wrong, .ref h_t_cost, .ref h_t_first, .ref h_t_block, .ref h_t_many, .ref h_t_stack, .int t_height, .ref h_t_written, .int t_length, .ref h_t_own, .ref h_t_levelAt, .ref h_t_itemAt, .ref h_t_times, .int t_at, .int t_ownLength, .int t_depth, .int t_deepest, .int t_letters, .int t_repeats, .int t_corrections, .int t_mostCorrections, .int t_place, .int t_reason])), (h_t_s, .inl (cI, 30, .inl t_s))]) hD hS hA [0, 1] rfl
  refine va_calli (va_runV (As := [.int x1, .int x2]) (rest := []) ⟨hx, hb, hml, hown, hts⟩ (cMD_least l dC dI cI cJ cC cS h_t h_t_s h_t_was h_t_begun h_t_text h_t_wrong h_t_cost h_t_first h_t_block h_t_many h_t_stack h_t_written h_t_own h_t_levelAt h_t_itemAt h_t_times H.size t_states t_typed t_height t_length t_at t_ownLength t_depth t_deepest t_letters t_repeats t_corrections t_mostCorrections t_place t_reason t_s x1 x2 o9 ho9) (cwV 2 hts gX11_isRun_X11_least rfl rfl rfl (by decide +kernel) ⟨Nat.le_of_ble_eq_true rfl, Nat.le_of_ble_eq_true rfl⟩) ⟨fun a U g mk q => by obtain ⟨q0, q1, qP, qK, qN, qD⟩ := q; exact ⟨q0, q1, qP, va_K.moved (u := U) (U := U.calling g mk a) (Vm.Alike.refl U.vm) qK, nwS (u := U) (U := U.calling g mk a) rfl qN, qD⟩, va_recv hK hPc (ci := 10) (q0 := 0) rfl rfl, fun U hU hW => ⟨rfl, by rw [hU], by rw [hU]; exact hPc, va_K.moved hW.alike hK, nwW hW hN, hDc.weaken (fun _ _ _ _ => trivial)⟩⟩ rfl rfl hl.1 rfl (lv_room (Nat.le_of_ble_eq_true rfl)) dX11_isRun_3 ⟨Nat.zero_le _, Nat.zero_le _⟩) hS (fun q _ h => hFc q h) hFc (fun r9 u9 t H1 locs ht hvm hw hB hz1 hk1 hS => ?_)
  have hw := hw.symm
  subst hw
  obtain ⟨hP1, hK1, hD1⟩ := hB
  rw [ht] at hP1
  obtain ⟨hP, hD⟩ := va_join (wr := []) (w1 := [(h_t, .inr (10, [.ref h_t_s, .ref h_t_was, .ref h_t_begun, .int t_states, .ref h_t_text, .int t_typed, .ref h_t_wrong, .ref h_t_cost, .ref h_t_first, .ref h_t_block, .ref h_t_many, .ref h_t_stack, .int t_height, .ref h_t_written, .int t_length, .ref h_t_own, .ref h_t_levelAt, .ref h_t_itemAt, .ref h_t_times, .int t_at, .int t_ownLength, .int t_depth, .int t_deepest, .int t_letters, .int t_repeats, .int t_corrections, .int t_mostCorrections, .int t_place, .int t_reason])), (h_t_s, .inl (cI, 30, .inl t_s))]) hP hD [0, 1] [] rfl rfl (by decide) (by decide) hk1 hFc hP1 hD1
  generalize H1 = H at hP hS ⊢
  have hP : va_P (dC, dI) vwCl [(h_t, .inr (10, [.ref h_t_s, .ref h_t_was, .ref h_t_begun, .int t_states, .ref h_t_text, .int t_typed, .ref h_t_wrong, .ref h_t_cost, .ref h_t_first, .ref h_t_block, .ref h_t_many, .ref h_t_stack, .int t_height, .ref h_t_written, .int t_length, .ref h_t_own, .ref h_t_levelAt, .ref h_t_itemAt, .ref h_t_times, .int t_at, .int t_ownLength, .int t_depth, .int t_deepest, .int t_letters, .int t_repeats, .int t_corrections, .int t_mostCorrections, .int t_place, .int t_reason])), (h_t_s, .inl (cI, 30, .inl t_s))] H := hP
  have hD : va_D A [(h_t, .inr (10, [.ref h_t_s, .ref h_t_was, .ref h_t_begun, .int t_states, .ref h_t_text, .int t_typed, .ref h_t_wrong, .ref h_t_cost, .ref h_t_first, .ref h_t_block, .ref h_t_many, .ref h_t_stack, .int t_height, .ref h_t_written, .int t_length, .ref h_t_own, .ref h_t_levelAt, .ref h_t_itemAt, .ref h_t_times, .int t_at, .int t_ownLength, .int t_depth, .int t_deepest, .int t_letters, .int t_repeats, .int t_corrections, .int t_mostCorrections, .int t_place, .int t_reason])), (h_t_s, .inl (cI, 30, .inl t_s))] := hD
  refine lv_istore_n (lv' := [(3, .int o9), (0, .ref h_t), (1, .int x1), (2, .int x2)]) hx hb dX11_isRun_6 rfl hl (by decide) rfl (fun ls hl => ?_)
  refine lv_iconst (v := (2 : Int32)) hx hb dX11_isRun_7 (by decide) ?_
  refine lv_iload_n hx hb dX11_isRun_8 rfl (lv_at hl 0 rfl) ?_
  refine lv_imul hx hb dX11_isRun_9 ?_
  refine lv_iload_n hx hb dX11_isRun_10 rfl (lv_at hl 3 rfl) ?_
  refine lv_iload_n hx hb dX11_isRun_11 rfl (lv_at hl 2 rfl) ?_
  refine lv_isub hx hb dX11_isRun_12 ?_
  refine lv_icmp_gt (tgt := 20) hx hb dX11_isRun_13 (by decide) (fun c_10 => ?_) (fun c_10 => ?_)
  · have hres := it_of hres c_10
    refine lv_iconst (v := (0 : Int32)) hx hb dX11_isRun_20 (by decide) ?_
    exact hK21 o9 (0 : Int32) H locs ls hres hP hD hS (lv_sub hl [1, 2, 3, 0] rfl)
  · have hres := ie_of hres c_10
    refine lv_iconst (v := (1 : Int32)) hx hb dX11_isRun_16 (by decide) ?_
    refine lv_goto (tgt := 21) hx hb dX11_isRun_17 (by decide) ?_
    exact hK21 o9 (1 : Int32) H locs ls hres hP hD hS (lv_sub hl [1, 2, 3, 0] rfl)

-- MD_runs
theorem kMD_runs_X11_runs_0 : Cond.fieldLink RX11 7 "RepeatNestsModel" "s" "[I" ∈ wsX11_runs := by decide +kernel
theorem iMD_runs_X11_runs_1 : ∀ w ∈ wsX110, w ∈ wsX11_runs := by decide +kernel
set_option maxHeartbeats 4000000 in
set_option maxRecDepth 100000 in
theorem cMD_runs (l : Launch) (dC : Nat → ClassId) (dI : Nat → Nat → Nat) (cI cJ cC cS : ClassId) (h_t h_t_s h_t_was h_t_begun h_t_text h_t_wrong h_t_cost h_t_first h_t_block h_t_many h_t_stack h_t_written h_t_own h_t_levelAt h_t_itemAt h_t_times : Nat) (sz : Nat) (t_states : Int32) (t_typed : Int32) (t_height : Int32) (t_length : Int32) (t_at : Int32) (t_ownLength : Int32) (t_depth : Int32) (t_deepest : Int32) (t_letters : Int32) (t_repeats : Int32) (t_corrections : Int32) (t_mostCorrections : Int32) (t_place : Int32) (t_reason : Int32) (t_s : Nat → Int32) (r : Int32) (hres : fMD_runs t_s = some r) :
    Met l yX11_runs wsX11_runs ({ frames := 3, cells := 0, slots := 0, locals := 72 } : Room) (va_Pc [.ref h_t] (fun (U : State) => U.heap.size = sz ∧ va_P (dC, dI) vwCl [(h_t, .inr (10, [.ref h_t_s, .ref h_t_was, .ref h_t_begun, .int t_states, .ref h_t_text, .int t_typed, .ref h_t_wrong, .ref h_t_cost, .ref h_t_first, .ref h_t_block, .ref h_t_many, .ref h_t_stack, .int t_height, .ref h_t_written, .int t_length, .ref h_t_own, .ref h_t_levelAt, .ref h_t_itemAt, .ref h_t_times, .int t_at, .int t_ownLength, .int t_depth, .int t_deepest, .int t_letters, .int t_repeats, .int t_corrections, .int t_mostCorrections, .int t_place, .int t_reason])), (h_t_s, .inl (cI, 30, .inl t_s))] U.heap ∧ va_K (dC, dI) vwCl (tyA cI cJ cC cS) U ∧ nwN U ∧ va_D (fun _ => True) [(h_t, .inr (10, [.ref h_t_s, .ref h_t_was, .ref h_t_begun, .int t_states, .ref h_t_text, .int t_typed, .ref h_t_wrong, .ref h_t_cost, .ref h_t_first, .ref h_t_block, .ref h_t_many, .ref h_t_stack, .int t_height, .ref h_t_written, .int t_length, .ref h_t_own, .ref h_t_levelAt, .ref h_t_itemAt, .ref h_t_times, .int t_at, .int t_ownLength, .int t_depth, .int t_deepest, .int t_letters, .int t_repeats, .int t_corrections, .int t_mostCorrections, .int t_place, .int t_reason])), (h_t_s, .inl (cI, 30, .inl t_s))])) (va_Qi (fun (r9 : Int32) (_ : Unit) => r9 = r) (fun (_ : Unit) (t : State) => va_P (dC, dI) vwCl [(h_t, .inr (10, [.ref h_t_s, .ref h_t_was, .ref h_t_begun, .int t_states, .ref h_t_text, .int t_typed, .ref h_t_wrong, .ref h_t_cost, .ref h_t_first, .ref h_t_block, .ref h_t_many, .ref h_t_stack, .int t_height, .ref h_t_written, .int t_length, .ref h_t_own, .ref h_t_levelAt, .ref h_t_itemAt, .ref h_t_times, .int t_at, .int t_ownLength, .int t_depth, .int t_deepest, .int t_letters, .int t_repeats, .int t_corrections, .int t_mostCorrections, .int t_place, .int t_reason])), (h_t_s, .inl (cI, 30, .inl t_s))] t.heap ∧ va_K (dC, dI) vwCl (tyA cI cJ cC cS) t ∧ va_D (va_A [(h_t, .inr (10, [.ref h_t_s, .ref h_t_was, .ref h_t_begun, .int t_states, .ref h_t_text, .int t_typed, .ref h_t_wrong, .ref h_t_cost, .ref h_t_first, .ref h_t_block, .ref h_t_many, .ref h_t_stack, .int t_height, .ref h_t_written, .int t_length, .ref h_t_own, .ref h_t_levelAt, .ref h_t_itemAt, .ref h_t_times, .int t_at, .int t_ownLength, .int t_depth, .int t_deepest, .int t_letters, .int t_repeats, .int t_corrections, .int t_mostCorrections, .int t_place, .int t_reason])), (h_t_s, .inl (cI, 30, .inl t_s))] sz) [(h_t, .inr (10, [.ref h_t_s, .ref h_t_was, .ref h_t_begun, .int t_states, .ref h_t_text, .int t_typed, .ref h_t_wrong, .ref h_t_cost, .ref h_t_first, .ref h_t_block, .ref h_t_many, .ref h_t_stack, .int t_height, .ref h_t_written, .int t_length, .ref h_t_own, .ref h_t_levelAt, .ref h_t_itemAt, .ref h_t_times, .int t_at, .int t_ownLength, .int t_depth, .int t_deepest, .int t_letters, .int t_repeats, .int t_corrections, .int t_mostCorrections, .int t_place, .int t_reason])), (h_t_s, .inl (cI, 30, .inl t_s))]) (va_A [(h_t, .inr (10, [.ref h_t_s, .ref h_t_was, .ref h_t_begun, .int t_states, .ref h_t_text, .int t_typed, .ref h_t_wrong, .ref h_t_cost, .ref h_t_first, .ref h_t_block, .ref h_t_many, .ref h_t_stack, .int t_height, .ref h_t_written, .int t_length, .ref h_t_own, .ref h_t_levelAt, .ref h_t_itemAt, .ref h_t_times, .int t_at, .int t_ownLength, .int t_depth, .int t_deepest, .int t_letters, .int t_repeats, .int t_corrections, .int t_mostCorrections, .int t_place, .int t_reason])), (h_t_s, .inl (cI, 30, .inl t_s))] sz)) 0 0 (va_A [(h_t, .inr (10, [.ref h_t_s, .ref h_t_was, .ref h_t_begun, .int t_states, .ref h_t_text, .int t_typed, .ref h_t_wrong, .ref h_t_cost, .ref h_t_first, .ref h_t_block, .ref h_t_many, .ref h_t_stack, .int t_height, .ref h_t_written, .int t_length, .ref h_t_own, .ref h_t_levelAt, .ref h_t_itemAt, .ref h_t_times, .int t_at, .int t_ownLength, .int t_depth, .int t_deepest, .int t_letters, .int t_repeats, .int t_corrections, .int t_mostCorrections, .int t_place, .int t_reason])), (h_t_s, .inl (cI, 30, .inl t_s))] sz) := by
  refine Met.ofW (cc := cX11_runs) (maxL := 4) (ret := (some .int)) (by decide) rfl ?_
  intro p e s m args below meth c s₁ B hml hv
  obtain ⟨hargs, hsz, hP, hK, hN, hD0⟩ := hv
  have hx := B.exec
  have hb := B.bytes
  have hr := B.returns
  have hts := atoms_spec (ws := wsX11_runs) B.pre
  have hown : s.vm.findClass RX11 = some m.cls := findClass_of_methodNamed B.named
  have hlocks := B.notSynchronized
  subst hsz
  have hD := hD0.self (sz := s.heap.size)
  generalize hAe : va_A [(h_t, .inr (10, [.ref h_t_s, .ref h_t_was, .ref h_t_begun, .int t_states, .ref h_t_text, .int t_typed, .ref h_t_wrong, .ref h_t_cost, .ref h_t_first, .ref h_t_block, .ref h_t_many, .ref h_t_stack, .int t_height, .ref h_t_written, .int t_length, .ref h_t_own, .ref h_t_levelAt, .ref h_t_itemAt, .ref h_t_times, .int t_at, .int t_ownLength, .int t_depth, .int t_deepest, .int t_letters, .int t_repeats, .int t_corrections, .int t_mostCorrections, .int t_place, .int t_reason])), (h_t_s, .inl (cI, 30, .inl t_s))] s.heap.size = A at hD ⊢
  have hA : ∀ q : Nat, s.heap.size ≤ q → A q := fun q h => by rw [← hAe]; exact Or.inr h
  have hS : va_S A s.heap s.heap [] := va_S.rf
  have hP : va_P (dC, dI) vwCl [(h_t, .inr (10, [.ref h_t_s, .ref h_t_was, .ref h_t_begun, .int t_states, .ref h_t_text, .int t_typed, .ref h_t_wrong, .ref h_t_cost, .ref h_t_first, .ref h_t_block, .ref h_t_many, .ref h_t_stack, .int t_height, .ref h_t_written, .int t_length, .ref h_t_own, .ref h_t_levelAt, .ref h_t_itemAt, .ref h_t_times, .int t_at, .int t_ownLength, .int t_depth, .int t_deepest, .int t_letters, .int t_repeats, .int t_corrections, .int t_mostCorrections, .int t_place, .int t_reason])), (h_t_s, .inl (cI, 30, .inl t_s))] s.heap := hP
  have hl := lv_entry [.ref h_t] (n := 4) (Nat.le_of_ble_eq_true rfl)
  rw [show entryFrame m args 4 = entryFrame m ([.ref h_t] : List Value).toArray 4 from by rw [hargs], lg_entry_eq]
  generalize (lg_sl [.ref h_t] ++ List.replicate (4 - (lg_sl [.ref h_t]).length) Slot.unset).toArray = ls at hl ⊢
  have hl : lv_has ls 4 [(0, .ref h_t)] := hl
  generalize hQQ : MQ below (va_Qi (fun (r9 : Int32) (_ : Unit) => r9 = r) (fun (_ : Unit) (t : State) => va_P (dC, dI) vwCl [(h_t, .inr (10, [.ref h_t_s, .ref h_t_was, .ref h_t_begun, .int t_states, .ref h_t_text, .int t_typed, .ref h_t_wrong, .ref h_t_cost, .ref h_t_first, .ref h_t_block, .ref h_t_many, .ref h_t_stack, .int t_height, .ref h_t_written, .int t_length, .ref h_t_own, .ref h_t_levelAt, .ref h_t_itemAt, .ref h_t_times, .int t_at, .int t_ownLength, .int t_depth, .int t_deepest, .int t_letters, .int t_repeats, .int t_corrections, .int t_mostCorrections, .int t_place, .int t_reason])), (h_t_s, .inl (cI, 30, .inl t_s))] t.heap ∧ va_K (dC, dI) vwCl (tyA cI cJ cC cS) t ∧ va_D A [(h_t, .inr (10, [.ref h_t_s, .ref h_t_was, .ref h_t_begun, .int t_states, .ref h_t_text, .int t_typed, .ref h_t_wrong, .ref h_t_cost, .ref h_t_first, .ref h_t_block, .ref h_t_many, .ref h_t_stack, .int t_height, .ref h_t_written, .int t_length, .ref h_t_own, .ref h_t_levelAt, .ref h_t_itemAt, .ref h_t_times, .int t_at, .int t_ownLength, .int t_depth, .int t_deepest, .int t_letters, .int t_repeats, .int t_corrections, .int t_mostCorrections, .int t_place, .int t_reason])), (h_t_s, .inl (cI, 30, .inl t_s))]) A) args s 0 0 A = QQ
  obtain ⟨H, hH⟩ : ∃ H : Heap, H = s.heap := ⟨_, rfl⟩
  obtain ⟨locs, hlocs⟩ : ∃ locs : List Loc, locs = [] := ⟨_, rfl⟩
  rw [← hH] at hP
  have hS : va_S A s.heap H locs := by rw [hH, hlocs]; exact hS
  suffices hZ : W p l e (headSpec wsX11_runs ({ frames := 3, cells := 0, slots := 0, locals := 72 } : Room)).room s m args below meth c H locs 0 0 QQ (F0 m 0 ls []) by rw [hH, hlocs] at hZ; exact hZ
  clear hH hlocs
  have hL4 : ∀ (n4 : Nat) , ∀ (x1 : Int32) (x2 : Int32) (H : Heap) (locs : List Loc) (ls : Array Slot), fMD_runs_4 t_s n4 x1 x2 = some r → va_P (dC, dI) vwCl [(h_t, .inr (10, [.ref h_t_s, .ref h_t_was, .ref h_t_begun, .int t_states, .ref h_t_text, .int t_typed, .ref h_t_wrong, .ref h_t_cost, .ref h_t_first, .ref h_t_block, .ref h_t_many, .ref h_t_stack, .int t_height, .ref h_t_written, .int t_length, .ref h_t_own, .ref h_t_levelAt, .ref h_t_itemAt, .ref h_t_times, .int t_at, .int t_ownLength, .int t_depth, .int t_deepest, .int t_letters, .int t_repeats, .int t_corrections, .int t_mostCorrections, .int t_place, .int t_reason])), (h_t_s, .inl (cI, 30, .inl t_s))] H → va_D A [(h_t, .inr (10, [.ref h_t_s, .ref h_t_was, .ref h_t_begun, .int t_states, .ref h_t_text, .int t_typed, .ref h_t_wrong, .ref h_t_cost, .ref h_t_first, .ref h_t_block, .ref h_t_many, .ref h_t_stack, .int t_height, .ref h_t_written, .int t_length, .ref h_t_own, .ref h_t_levelAt, .ref h_t_itemAt, .ref h_t_times, .int t_at, .int t_ownLength, .int t_depth, .int t_deepest, .int t_letters, .int t_repeats, .int t_corrections, .int t_mostCorrections, .int t_place, .int t_reason])), (h_t_s, .inl (cI, 30, .inl t_s))] → va_S A s.heap H locs → lv_has ls 4 [(0, .ref h_t), (1, .int x1), (2, .int x2)] → W p l e (headSpec wsX11_runs ({ frames := 3, cells := 0, slots := 0, locals := 72 } : Room)).room s m args below meth c H locs 0 0 QQ (F0 m 4 ls []) := by
    intro n4
    induction n4 with
    | zero =>
      intro x1 x2 H locs ls hres
      rw [fMD_runs_4] at hres
      cases hres
    | succ n4 ih4 =>
      have hL18 : ∀ (n18 : Nat) , ∀ (x1 : Int32) (x2 : Int32) (x3 : Int32) (H : Heap) (locs : List Loc) (ls : Array Slot), fMD_runs_18 t_s (fMD_runs_4 t_s n4) n18 x1 x2 x3 = some r → va_P (dC, dI) vwCl [(h_t, .inr (10, [.ref h_t_s, .ref h_t_was, .ref h_t_begun, .int t_states, .ref h_t_text, .int t_typed, .ref h_t_wrong, .ref h_t_cost, .ref h_t_first, .ref h_t_block, .ref h_t_many, .ref h_t_stack, .int t_height, .ref h_t_written, .int t_length, .ref h_t_own, .ref h_t_levelAt, .ref h_t_itemAt, .ref h_t_times, .int t_at, .int t_ownLength, .int t_depth, .int t_deepest, .int t_letters, .int t_repeats, .int t_corrections, .int t_mostCorrections, .int t_place, .int t_reason])), (h_t_s, .inl (cI, 30, .inl t_s))] H → va_D A [(h_t, .inr (10, [.ref h_t_s, .ref h_t_was, .ref h_t_begun, .int t_states, .ref h_t_text, .int t_typed, .ref h_t_wrong, .ref h_t_cost, .ref h_t_first, .ref h_t_block, .ref h_t_many, .ref h_t_stack, .int t_height, .ref h_t_written, .int t_length, .ref h_t_own, .ref h_t_levelAt, .ref h_t_itemAt, .ref h_t_times, .int t_at, .int t_ownLength, .int t_depth, .int t_deepest, .int t_letters, .int t_repeats, .int t_corrections, .int t_mostCorrections, .int t_place, .int t_reason])), (h_t_s, .inl (cI, 30, .inl t_s))] → va_S A s.heap H locs → lv_has ls 4 [(0, .ref h_t), (1, .int x1), (2, .int x2), (3, .int x3)] → W p l e (headSpec wsX11_runs ({ frames := 3, cells := 0, slots := 0, locals := 72 } : Room)).room s m args below meth c H locs 0 0 QQ (F0 m 18 ls []) := by
        intro n18
        induction n18 with
        | zero =>
          intro x1 x2 x3 H locs ls hres
          rw [fMD_runs_18] at hres
          cases hres
        | succ n18 ih18 =>
          intro x1 x2 x3 H locs ls hres hP hD hS hl
          rw [fMD_runs_18] at hres
          refine lv_iload_n hx hb dX11_runs_18 rfl (lv_at hl 3 rfl) ?_
          refine lv_aload_n hx hb dX11_runs_19 rfl (lv_at hl 0 rfl) ?_
          refine va_get (D := (dC, dI)) (ci := 10) (v := .ref h_t_s) (C := RX11) (T := TX11) (N := 29) hx hb hts iMD_runs_X11_runs_1 hown hK hP 0 rfl rfl 0 (by decide) (hts _ kMD_runs_X11_runs_0) (fun _ h9 => h9) rfl dX11_runs_20 ?_
          refine lv_iconst (v := (0 : Int32)) hx hb dX11_runs_23 (by decide) ?_
          refine va_iald hx hb hK hP 1 0 rfl rfl (vin (by decide)) dX11_runs_24 ?_
          refine lv_icmp_gt (tgt := 51) hx hb dX11_runs_25 (by decide) (fun c_1 => ?_) (fun c_1 => ?_)
          · have hres := it_of hres c_1
            refine lv_iinc (v := (x2 + 1)) (lv' := [(2, .int (x2 + 1)), (0, .ref h_t), (1, .int x1), (3, .int x3)]) hx hb dX11_runs_51 hl (k := 2) rfl rfl (by decide) rfl (fun ls hl => ?_)
            refine lv_goto (tgt := 4) hx hb dX11_runs_54 (by decide) ?_
            exact ih4 x1 (x2 + 1) H locs ls hres hP hD hS (lv_sub hl [1, 2, 0] rfl)
          · have hres := ie_of hres c_1
            refine lv_iload_n hx hb dX11_runs_28 rfl (lv_at hl 1 rfl) ?_
            refine lv_aload_n hx hb dX11_runs_29 rfl (lv_at hl 0 rfl) ?_
            refine lv_iload_n hx hb dX11_runs_30 rfl (lv_at hl 2 rfl) ?_
            refine lv_iload_n hx hb dX11_runs_31 rfl (lv_at hl 3 rfl) ?_
            obtain ⟨o2, ho2, hres⟩ := bd_of hres
            have hPc := hP.sub (ws' := [(h_t, .inr (10, [.ref h_t_s, .ref h_t_was, .ref h_t_begun, .int t_states, .ref h_t_text, .int t_typed, .ref h_t_wrong, .ref h_t_cost, .ref h_t_first, .ref h_t_block, .ref h_t_many, .ref h_t_stack, .int t_height, .ref h_t_written, .int t_length, .ref h_t_own, .ref h_t_levelAt, .ref h_t_itemAt, .ref h_t_times, .int t_at, .int t_ownLength, .int t_depth, .int t_deepest, .int t_letters, .int t_repeats, .int t_corrections, .int t_mostCorrections, .int t_place, .int t_reason])), (h_t_s, .inl (cI, 30, .inl t_s))]) [0, 1] rfl
            have hDc := hD.sub (ws' := [(h_t, .inr (10, [.ref h_t_s, .ref h_t_was, .ref h_t_begun, .int t_states, .ref h_t_text, .int t_typed, .ref h_t_wrong, .ref h_t_cost, .ref h_t_first, .ref h_t_block, .ref h_t_many, .ref h_t_stack, .int t_height, .ref h_t_written, .int t_length, .ref h_t_own, .ref h_t_levelAt, .ref h_t_itemAt, .ref h_t_times, .int t_at, .int t_ownLength, .int t_depth, .int t_deepest, .int t_letters, .int t_repeats, .int t_corrections, .int t_mostCorrections, .int t_place, .int t_reason])), (h_t_s, .inl (cI, 30, .inl t_s))]) [0, 1] (by decide) rfl
            have hFc := va_free (wc := [(h_t, .inr (10, [.ref h_t_s, .ref h_t_was, .ref h_t_begun, .int t_states, .ref h_t_text, .int t_typed, .ref h_t_wrong, .ref h_t_cost, .ref h_t_first, .ref h_t_block, .ref h_t_many, .ref h_t_stack, .int t_height, .ref h_t_written, .int t_length, .ref h_t_own, .ref h_t_levelAt, .ref h_t_itemAt, .ref h_t_times, .int t_at, .int t_ownLength, .int t_depth, .int t_deepest, .int t_letters, .int t_repeats, .int t_corrections, .int t_mostCorrections, .int t_place, .int t_reason])), (h_t_s, .inl (cI, 30, .inl t_s))]) hD hS hA [0, 1] rfl
            refine va_calli (va_runV (As := [.int x2, .int x3]) (rest := [.int x1]) ⟨hx, hb, hml, hown, hts⟩ (cMD_isRun l dC dI cI cJ cC cS h_t h_t_s h_t_was h_t_begun h_t_text h_t_wrong h_t_cost h_t_first h_t_block h_t_many h_t_stack h_t_written h_t_own h_t_levelAt h_t_itemAt h_t_times H.size t_states t_typed t_height t_length t_at t_ownLength t_depth t_deepest t_letters t_repeats t_corrections t_mostCorrections t_place t_reason t_s x2 x3 o2 ho2) (cwV 2 hts gX11_runs_X11_isRun rfl rfl rfl (by decide +kernel) ⟨Nat.le_of_ble_eq_true rfl, Nat.le_of_ble_eq_true rfl⟩) ⟨fun a U g mk q => by obtain ⟨q0, q1, qP, qK, qN, qD⟩ := q; exact ⟨q0, q1, qP, va_K.moved (u := U) (U := U.calling g mk a) (Vm.Alike.refl U.vm) qK, nwS (u := U) (U := U.calling g mk a) rfl qN, qD⟩, va_recv hK hPc (ci := 10) (q0 := 0) rfl rfl, fun U hU hW => ⟨rfl, by rw [hU], by rw [hU]; exact hPc, va_K.moved hW.alike hK, nwW hW hN, hDc.weaken (fun _ _ _ _ => trivial)⟩⟩ rfl rfl hl.1 rfl (lv_room (Nat.le_of_ble_eq_true rfl)) dX11_runs_32 ⟨Nat.zero_le _, Nat.zero_le _⟩) hS (fun q _ h => hFc q h) hFc (fun r9 u9 t H1 locs ht hvm hw hB hz1 hk1 hS => ?_)
            have hw := hw.symm
            subst hw
            obtain ⟨hP1, hK1, hD1⟩ := hB
            rw [ht] at hP1
            obtain ⟨hP, hD⟩ := va_join (wr := []) (w1 := [(h_t, .inr (10, [.ref h_t_s, .ref h_t_was, .ref h_t_begun, .int t_states, .ref h_t_text, .int t_typed, .ref h_t_wrong, .ref h_t_cost, .ref h_t_first, .ref h_t_block, .ref h_t_many, .ref h_t_stack, .int t_height, .ref h_t_written, .int t_length, .ref h_t_own, .ref h_t_levelAt, .ref h_t_itemAt, .ref h_t_times, .int t_at, .int t_ownLength, .int t_depth, .int t_deepest, .int t_letters, .int t_repeats, .int t_corrections, .int t_mostCorrections, .int t_place, .int t_reason])), (h_t_s, .inl (cI, 30, .inl t_s))]) hP hD [0, 1] [] rfl rfl (by decide) (by decide) hk1 hFc hP1 hD1
            generalize H1 = H at hP hS ⊢
            have hP : va_P (dC, dI) vwCl [(h_t, .inr (10, [.ref h_t_s, .ref h_t_was, .ref h_t_begun, .int t_states, .ref h_t_text, .int t_typed, .ref h_t_wrong, .ref h_t_cost, .ref h_t_first, .ref h_t_block, .ref h_t_many, .ref h_t_stack, .int t_height, .ref h_t_written, .int t_length, .ref h_t_own, .ref h_t_levelAt, .ref h_t_itemAt, .ref h_t_times, .int t_at, .int t_ownLength, .int t_depth, .int t_deepest, .int t_letters, .int t_repeats, .int t_corrections, .int t_mostCorrections, .int t_place, .int t_reason])), (h_t_s, .inl (cI, 30, .inl t_s))] H := hP
            have hD : va_D A [(h_t, .inr (10, [.ref h_t_s, .ref h_t_was, .ref h_t_begun, .int t_states, .ref h_t_text, .int t_typed, .ref h_t_wrong, .ref h_t_cost, .ref h_t_first, .ref h_t_block, .ref h_t_many, .ref h_t_stack, .int t_height, .ref h_t_written, .int t_length, .ref h_t_own, .ref h_t_levelAt, .ref h_t_itemAt, .ref h_t_times, .int t_at, .int t_ownLength, .int t_depth, .int t_deepest, .int t_letters, .int t_repeats, .int t_corrections, .int t_mostCorrections, .int t_place, .int t_reason])), (h_t_s, .inl (cI, 30, .inl t_s))] := hD
            refine lv_if_eq (tgt := 42) hx hb dX11_runs_35 (by decide) (fun c_3 => ?_) (fun c_3 => ?_)
            · have hres := it_of hres c_3
              refine lv_iconst (v := (0 : Int32)) hx hb dX11_runs_42 (by decide) ?_
              refine lv_iadd hx hb dX11_runs_43 ?_
              refine lv_istore_n (lv' := [(1, .int (x1 + (0 : Int32))), (0, .ref h_t), (2, .int x2), (3, .int x3)]) hx hb dX11_runs_44 rfl hl (by decide) rfl (fun ls hl => ?_)
              refine lv_iinc (v := (x3 + 1)) (lv' := [(3, .int (x3 + 1)), (1, .int (x1 + (0 : Int32))), (0, .ref h_t), (2, .int x2)]) hx hb dX11_runs_45 hl (k := 3) rfl rfl (by decide) rfl (fun ls hl => ?_)
              refine lv_goto (tgt := 18) hx hb dX11_runs_48 (by decide) ?_
              exact ih18 (x1 + (0 : Int32)) x2 (x3 + 1) H locs ls hres hP hD hS (lv_sub hl [2, 1, 3, 0] rfl)
            · have hres := ie_of hres c_3
              refine lv_iconst (v := (1 : Int32)) hx hb dX11_runs_38 (by decide) ?_
              refine lv_goto (tgt := 43) hx hb dX11_runs_39 (by decide) ?_
              refine lv_iadd hx hb dX11_runs_43 ?_
              refine lv_istore_n (lv' := [(1, .int (x1 + (1 : Int32))), (0, .ref h_t), (2, .int x2), (3, .int x3)]) hx hb dX11_runs_44 rfl hl (by decide) rfl (fun ls hl => ?_)
              refine lv_iinc (v := (x3 + 1)) (lv' := [(3, .int (x3 + 1)), (1, .int (x1 + (1 : Int32))), (0, .ref h_t), (2, .int x2)]) hx hb dX11_runs_45 hl (k := 3) rfl rfl (by decide) rfl (fun ls hl => ?_)
              refine lv_goto (tgt := 18) hx hb dX11_runs_48 (by decide) ?_
              exact ih18 (x1 + (1 : Int32)) x2 (x3 + 1) H locs ls hres hP hD hS (lv_sub hl [2, 1, 3, 0] rfl)
      intro x1 x2 H locs ls hres hP hD hS hl
      rw [fMD_runs_4] at hres
      refine lv_iload_n hx hb dX11_runs_4 rfl (lv_at hl 2 rfl) ?_
      refine lv_aload_n hx hb dX11_runs_5 rfl (lv_at hl 0 rfl) ?_
      refine va_get (D := (dC, dI)) (ci := 10) (v := .ref h_t_s) (C := RX11) (T := TX11) (N := 29) hx hb hts iMD_runs_X11_runs_1 hown hK hP 0 rfl rfl 0 (by decide) (hts _ kMD_runs_X11_runs_0) (fun _ h9 => h9) rfl dX11_runs_6 ?_
      refine lv_iconst (v := (0 : Int32)) hx hb dX11_runs_9 (by decide) ?_
      refine va_iald hx hb hK hP 1 0 rfl rfl (vin (by decide)) dX11_runs_10 ?_
      refine lv_icmp_ge (tgt := 57) hx hb dX11_runs_11 (by decide) (fun c_4 => ?_) (fun c_4 => ?_)
      · have hres := it_of hres c_4
        refine lv_iload_n hx hb dX11_runs_57 rfl (lv_at hl 1 rfl) ?_
        have e9_0 := Option.some.inj hres
        subst e9_0
        rw [← hQQ]
        exact W.iret (v := x1) hx hb hr (fun t ht hW => ⟨⟨x1, (), rfl, rfl, by rw [ht]; exact hP, va_K.moved hW.alike hK, hD⟩, hS.F ht⟩) hS.2.2 dX11_runs_58
      · have hres := ie_of hres c_4
        refine lv_iload_n hx hb dX11_runs_14 rfl (lv_at hl 2 rfl) ?_
        refine lv_iconst (v := (1 : Int32)) hx hb dX11_runs_15 (by decide) ?_
        refine lv_iadd hx hb dX11_runs_16 ?_
        refine lv_istore_n (lv' := [(3, .int (x2 + (1 : Int32))), (0, .ref h_t), (1, .int x1), (2, .int x2)]) hx hb dX11_runs_17 rfl hl (by decide) rfl (fun ls hl => ?_)
        exact hL18 FU x1 x2 (x2 + (1 : Int32)) H locs ls hres hP hD hS (lv_sub hl [1, 2, 3, 0] rfl)
  rw [fMD_runs] at hres
  refine lv_iconst (v := (0 : Int32)) hx hb dX11_runs_0 (by decide) ?_
  refine lv_istore_n (lv' := [(1, .int (0 : Int32)), (0, .ref h_t)]) hx hb dX11_runs_1 rfl hl (by decide) rfl (fun ls hl => ?_)
  refine lv_iconst (v := (0 : Int32)) hx hb dX11_runs_2 (by decide) ?_
  refine lv_istore_n (lv' := [(2, .int (0 : Int32)), (1, .int (0 : Int32)), (0, .ref h_t)]) hx hb dX11_runs_3 rfl hl (by decide) rfl (fun ls hl => ?_)
  exact hL4 FU (0 : Int32) (0 : Int32) H locs ls hres hP hD hS (lv_sub hl [2, 1, 0] rfl)

-- MD_count
theorem kMD_count_X11_count_0 : Cond.fieldLink RX11 7 "RepeatNestsModel" "s" "[I" ∈ wsX11_count := by decide +kernel
theorem iMD_count_X11_count_1 : ∀ w ∈ wsX110, w ∈ wsX11_count := by decide +kernel
theorem kMD_count_X11_count_2 : Cond.fieldLink RX11 58 "RepeatNestsModel" "states" "I" ∈ wsX11_count := by decide +kernel
theorem kMD_count_X11_count_3 : Cond.fieldLink RX11 155 "RepeatNestsModel" "typed" "I" ∈ wsX11_count := by decide +kernel
theorem kMD_count_X11_count_4 : Cond.constant RX11 57 (-1000001) ∈ wsX11_count := by decide +kernel
set_option maxHeartbeats 4000000 in
set_option maxRecDepth 100000 in
theorem cMD_count (l : Launch) (dC : Nat → ClassId) (dI : Nat → Nat → Nat) (cI cJ cC cS : ClassId) (h_t h_t_s h_t_was h_t_begun h_t_text h_t_wrong h_t_cost h_t_first h_t_block h_t_many h_t_stack h_t_written h_t_own h_t_levelAt h_t_itemAt h_t_times : Nat) (sz : Nat) (t_states : Int32) (t_typed : Int32) (t_height : Int32) (t_length : Int32) (t_at : Int32) (t_ownLength : Int32) (t_depth : Int32) (t_deepest : Int32) (t_letters : Int32) (t_repeats : Int32) (t_corrections : Int32) (t_mostCorrections : Int32) (t_place : Int32) (t_reason : Int32) (t_s : Nat → Int32) (x1 : Int32) (r : Int32) (hres : fMD_count t_states t_typed t_s x1 = some r) :
    Met l yX11_count wsX11_count ({ frames := 4, cells := 0, slots := 0, locals := 95 } : Room) (va_Pc [.ref h_t, .int x1] (fun (U : State) => U.heap.size = sz ∧ va_P (dC, dI) vwCl [(h_t, .inr (10, [.ref h_t_s, .ref h_t_was, .ref h_t_begun, .int t_states, .ref h_t_text, .int t_typed, .ref h_t_wrong, .ref h_t_cost, .ref h_t_first, .ref h_t_block, .ref h_t_many, .ref h_t_stack, .int t_height, .ref h_t_written, .int t_length, .ref h_t_own, .ref h_t_levelAt, .ref h_t_itemAt, .ref h_t_times, .int t_at, .int t_ownLength, .int t_depth, .int t_deepest, .int t_letters, .int t_repeats, .int t_corrections, .int t_mostCorrections, .int t_place, .int t_reason])), (h_t_s, .inl (cI, 30, .inl t_s))] U.heap ∧ va_K (dC, dI) vwCl (tyA cI cJ cC cS) U ∧ nwN U ∧ va_D (fun _ => True) [(h_t, .inr (10, [.ref h_t_s, .ref h_t_was, .ref h_t_begun, .int t_states, .ref h_t_text, .int t_typed, .ref h_t_wrong, .ref h_t_cost, .ref h_t_first, .ref h_t_block, .ref h_t_many, .ref h_t_stack, .int t_height, .ref h_t_written, .int t_length, .ref h_t_own, .ref h_t_levelAt, .ref h_t_itemAt, .ref h_t_times, .int t_at, .int t_ownLength, .int t_depth, .int t_deepest, .int t_letters, .int t_repeats, .int t_corrections, .int t_mostCorrections, .int t_place, .int t_reason])), (h_t_s, .inl (cI, 30, .inl t_s))])) (va_Qi (fun (r9 : Int32) (_ : Unit) => r9 = r) (fun (_ : Unit) (t : State) => va_P (dC, dI) vwCl [(h_t, .inr (10, [.ref h_t_s, .ref h_t_was, .ref h_t_begun, .int t_states, .ref h_t_text, .int t_typed, .ref h_t_wrong, .ref h_t_cost, .ref h_t_first, .ref h_t_block, .ref h_t_many, .ref h_t_stack, .int t_height, .ref h_t_written, .int t_length, .ref h_t_own, .ref h_t_levelAt, .ref h_t_itemAt, .ref h_t_times, .int t_at, .int t_ownLength, .int t_depth, .int t_deepest, .int t_letters, .int t_repeats, .int t_corrections, .int t_mostCorrections, .int t_place, .int t_reason])), (h_t_s, .inl (cI, 30, .inl t_s))] t.heap ∧ va_K (dC, dI) vwCl (tyA cI cJ cC cS) t ∧ va_D (va_A [(h_t, .inr (10, [.ref h_t_s, .ref h_t_was, .ref h_t_begun, .int t_states, .ref h_t_text, .int t_typed, .ref h_t_wrong, .ref h_t_cost, .ref h_t_first, .ref h_t_block, .ref h_t_many, .ref h_t_stack, .int t_height, .ref h_t_written, .int t_length, .ref h_t_own, .ref h_t_levelAt, .ref h_t_itemAt, .ref h_t_times, .int t_at, .int t_ownLength, .int t_depth, .int t_deepest, .int t_letters, .int t_repeats, .int t_corrections, .int t_mostCorrections, .int t_place, .int t_reason])), (h_t_s, .inl (cI, 30, .inl t_s))] sz) [(h_t, .inr (10, [.ref h_t_s, .ref h_t_was, .ref h_t_begun, .int t_states, .ref h_t_text, .int t_typed, .ref h_t_wrong, .ref h_t_cost, .ref h_t_first, .ref h_t_block, .ref h_t_many, .ref h_t_stack, .int t_height, .ref h_t_written, .int t_length, .ref h_t_own, .ref h_t_levelAt, .ref h_t_itemAt, .ref h_t_times, .int t_at, .int t_ownLength, .int t_depth, .int t_deepest, .int t_letters, .int t_repeats, .int t_corrections, .int t_mostCorrections, .int t_place, .int t_reason])), (h_t_s, .inl (cI, 30, .inl t_s))]) (va_A [(h_t, .inr (10, [.ref h_t_s, .ref h_t_was, .ref h_t_begun, .int t_states, .ref h_t_text, .int t_typed, .ref h_t_wrong, .ref h_t_cost, .ref h_t_first, .ref h_t_block, .ref h_t_many, .ref h_t_stack, .int t_height, .ref h_t_written, .int t_length, .ref h_t_own, .ref h_t_levelAt, .ref h_t_itemAt, .ref h_t_times, .int t_at, .int t_ownLength, .int t_depth, .int t_deepest, .int t_letters, .int t_repeats, .int t_corrections, .int t_mostCorrections, .int t_place, .int t_reason])), (h_t_s, .inl (cI, 30, .inl t_s))] sz)) 0 0 (va_A [(h_t, .inr (10, [.ref h_t_s, .ref h_t_was, .ref h_t_begun, .int t_states, .ref h_t_text, .int t_typed, .ref h_t_wrong, .ref h_t_cost, .ref h_t_first, .ref h_t_block, .ref h_t_many, .ref h_t_stack, .int t_height, .ref h_t_written, .int t_length, .ref h_t_own, .ref h_t_levelAt, .ref h_t_itemAt, .ref h_t_times, .int t_at, .int t_ownLength, .int t_depth, .int t_deepest, .int t_letters, .int t_repeats, .int t_corrections, .int t_mostCorrections, .int t_place, .int t_reason])), (h_t_s, .inl (cI, 30, .inl t_s))] sz) := by
  refine Met.ofW (cc := cX11_count) (maxL := 2) (ret := (some .int)) (by decide) rfl ?_
  intro p e s m args below meth c s₁ B hml hv
  obtain ⟨hargs, hsz, hP, hK, hN, hD0⟩ := hv
  have hx := B.exec
  have hb := B.bytes
  have hr := B.returns
  have hts := atoms_spec (ws := wsX11_count) B.pre
  have hown : s.vm.findClass RX11 = some m.cls := findClass_of_methodNamed B.named
  have hlocks := B.notSynchronized
  subst hsz
  have hD := hD0.self (sz := s.heap.size)
  generalize hAe : va_A [(h_t, .inr (10, [.ref h_t_s, .ref h_t_was, .ref h_t_begun, .int t_states, .ref h_t_text, .int t_typed, .ref h_t_wrong, .ref h_t_cost, .ref h_t_first, .ref h_t_block, .ref h_t_many, .ref h_t_stack, .int t_height, .ref h_t_written, .int t_length, .ref h_t_own, .ref h_t_levelAt, .ref h_t_itemAt, .ref h_t_times, .int t_at, .int t_ownLength, .int t_depth, .int t_deepest, .int t_letters, .int t_repeats, .int t_corrections, .int t_mostCorrections, .int t_place, .int t_reason])), (h_t_s, .inl (cI, 30, .inl t_s))] s.heap.size = A at hD ⊢
  have hA : ∀ q : Nat, s.heap.size ≤ q → A q := fun q h => by rw [← hAe]; exact Or.inr h
  have hS : va_S A s.heap s.heap [] := va_S.rf
  have hP : va_P (dC, dI) vwCl [(h_t, .inr (10, [.ref h_t_s, .ref h_t_was, .ref h_t_begun, .int t_states, .ref h_t_text, .int t_typed, .ref h_t_wrong, .ref h_t_cost, .ref h_t_first, .ref h_t_block, .ref h_t_many, .ref h_t_stack, .int t_height, .ref h_t_written, .int t_length, .ref h_t_own, .ref h_t_levelAt, .ref h_t_itemAt, .ref h_t_times, .int t_at, .int t_ownLength, .int t_depth, .int t_deepest, .int t_letters, .int t_repeats, .int t_corrections, .int t_mostCorrections, .int t_place, .int t_reason])), (h_t_s, .inl (cI, 30, .inl t_s))] s.heap := hP
  have hl := lv_entry [.ref h_t, .int x1] (n := 2) (Nat.le_of_ble_eq_true rfl)
  rw [show entryFrame m args 2 = entryFrame m ([.ref h_t, .int x1] : List Value).toArray 2 from by rw [hargs], lg_entry_eq]
  generalize (lg_sl [.ref h_t, .int x1] ++ List.replicate (2 - (lg_sl [.ref h_t, .int x1]).length) Slot.unset).toArray = ls at hl ⊢
  have hl : lv_has ls 2 [(0, .ref h_t), (1, .int x1)] := hl
  generalize hQQ : MQ below (va_Qi (fun (r9 : Int32) (_ : Unit) => r9 = r) (fun (_ : Unit) (t : State) => va_P (dC, dI) vwCl [(h_t, .inr (10, [.ref h_t_s, .ref h_t_was, .ref h_t_begun, .int t_states, .ref h_t_text, .int t_typed, .ref h_t_wrong, .ref h_t_cost, .ref h_t_first, .ref h_t_block, .ref h_t_many, .ref h_t_stack, .int t_height, .ref h_t_written, .int t_length, .ref h_t_own, .ref h_t_levelAt, .ref h_t_itemAt, .ref h_t_times, .int t_at, .int t_ownLength, .int t_depth, .int t_deepest, .int t_letters, .int t_repeats, .int t_corrections, .int t_mostCorrections, .int t_place, .int t_reason])), (h_t_s, .inl (cI, 30, .inl t_s))] t.heap ∧ va_K (dC, dI) vwCl (tyA cI cJ cC cS) t ∧ va_D A [(h_t, .inr (10, [.ref h_t_s, .ref h_t_was, .ref h_t_begun, .int t_states, .ref h_t_text, .int t_typed, .ref h_t_wrong, .ref h_t_cost, .ref h_t_first, .ref h_t_block, .ref h_t_many, .ref h_t_stack, .int t_height, .ref h_t_written, .int t_length, .ref h_t_own, .ref h_t_levelAt, .ref h_t_itemAt, .ref h_t_times, .int t_at, .int t_ownLength, .int t_depth, .int t_deepest, .int t_letters, .int t_repeats, .int t_corrections, .int t_mostCorrections, .int t_place, .int t_reason])), (h_t_s, .inl (cI, 30, .inl t_s))]) A) args s 0 0 A = QQ
  obtain ⟨H, hH⟩ : ∃ H : Heap, H = s.heap := ⟨_, rfl⟩
  obtain ⟨locs, hlocs⟩ : ∃ locs : List Loc, locs = [] := ⟨_, rfl⟩
  rw [← hH] at hP
  have hS : va_S A s.heap H locs := by rw [hH, hlocs]; exact hS
  suffices hZ : W p l e (headSpec wsX11_count ({ frames := 4, cells := 0, slots := 0, locals := 95 } : Room)).room s m args below meth c H locs 0 0 QQ (F0 m 0 ls []) by rw [hH, hlocs] at hZ; exact hZ
  clear hH hlocs
  rw [fMD_count] at hres
  refine lv_iload_n hx hb dX11_count_0 rfl (lv_at hl 1 rfl) ?_
  by_cases c_1 : x1 = (0 : Int32)
  · have hres := it_of hres c_1
    refine lv_tableIn (off := 31) (tgt := 32) hx hb dX11_count_1 (by rw [c_1]; decide) (by rw [c_1]; decide) (by rw [c_1]; rfl) (by decide) ?_
    refine lv_aload_n hx hb dX11_count_32 rfl (lv_at hl 0 rfl) ?_
    refine va_get (D := (dC, dI)) (ci := 10) (v := .ref h_t_s) (C := RX11) (T := TX11) (N := 29) hx hb hts iMD_count_X11_count_1 hown hK hP 0 rfl rfl 0 (by decide) (hts _ kMD_count_X11_count_0) (fun _ h9 => h9) rfl dX11_count_33 ?_
    refine lv_iconst (v := (0 : Int32)) hx hb dX11_count_36 (by decide) ?_
    refine va_iald hx hb hK hP 1 0 rfl rfl (vin (by decide)) dX11_count_37 ?_
    have e9_0 := Option.some.inj hres
    subst e9_0
    rw [← hQQ]
    exact W.iret (v := (rd t_s (0 : Int32))) hx hb hr (fun t ht hW => ⟨⟨(rd t_s (0 : Int32)), (), rfl, rfl, by rw [ht]; exact hP, va_K.moved hW.alike hK, hD⟩, hS.F ht⟩) hS.2.2 dX11_count_38
  · have hres := ie_of hres c_1
    by_cases c_2 : x1 = (1 : Int32)
    · have hres := it_of hres c_2
      refine lv_tableIn (off := 38) (tgt := 39) hx hb dX11_count_1 (by rw [c_2]; decide) (by rw [c_2]; decide) (by rw [c_2]; rfl) (by decide) ?_
      refine lv_aload_n hx hb dX11_count_39 rfl (lv_at hl 0 rfl) ?_
      obtain ⟨o3, ho3, hres⟩ := bd_of hres
      have hPc := hP.sub (ws' := [(h_t, .inr (10, [.ref h_t_s, .ref h_t_was, .ref h_t_begun, .int t_states, .ref h_t_text, .int t_typed, .ref h_t_wrong, .ref h_t_cost, .ref h_t_first, .ref h_t_block, .ref h_t_many, .ref h_t_stack, .int t_height, .ref h_t_written, .int t_length, .ref h_t_own, .ref h_t_levelAt, .ref h_t_itemAt, .ref h_t_times, .int t_at, .int t_ownLength, .int t_depth, .int t_deepest, .int t_letters, .int t_repeats, .int t_corrections, .int t_mostCorrections, .int t_place, .int t_reason])), (h_t_s, .inl (cI, 30, .inl t_s))]) [0, 1] rfl
      have hDc := hD.sub (ws' := [(h_t, .inr (10, [.ref h_t_s, .ref h_t_was, .ref h_t_begun, .int t_states, .ref h_t_text, .int t_typed, .ref h_t_wrong, .ref h_t_cost, .ref h_t_first, .ref h_t_block, .ref h_t_many, .ref h_t_stack, .int t_height, .ref h_t_written, .int t_length, .ref h_t_own, .ref h_t_levelAt, .ref h_t_itemAt, .ref h_t_times, .int t_at, .int t_ownLength, .int t_depth, .int t_deepest, .int t_letters, .int t_repeats, .int t_corrections, .int t_mostCorrections, .int t_place, .int t_reason])), (h_t_s, .inl (cI, 30, .inl t_s))]) [0, 1] (by decide) rfl
      have hFc := va_free (wc := [(h_t, .inr (10, [.ref h_t_s, .ref h_t_was, .ref h_t_begun, .int t_states, .ref h_t_text, .int t_typed, .ref h_t_wrong, .ref h_t_cost, .ref h_t_first, .ref h_t_block, .ref h_t_many, .ref h_t_stack, .int t_height, .ref h_t_written, .int t_length, .ref h_t_own, .ref h_t_levelAt, .ref h_t_itemAt, .ref h_t_times, .int t_at, .int t_ownLength, .int t_depth, .int t_deepest, .int t_letters, .int t_repeats, .int t_corrections, .int t_mostCorrections, .int t_place, .int t_reason])), (h_t_s, .inl (cI, 30, .inl t_s))]) hD hS hA [0, 1] rfl
      refine va_calli (va_runV (As := []) (rest := []) ⟨hx, hb, hml, hown, hts⟩ (cMD_runs l dC dI cI cJ cC cS h_t h_t_s h_t_was h_t_begun h_t_text h_t_wrong h_t_cost h_t_first h_t_block h_t_many h_t_stack h_t_written h_t_own h_t_levelAt h_t_itemAt h_t_times H.size t_states t_typed t_height t_length t_at t_ownLength t_depth t_deepest t_letters t_repeats t_corrections t_mostCorrections t_place t_reason t_s o3 ho3) (cwV 0 hts gX11_count_X11_runs rfl rfl rfl (by decide +kernel) ⟨Nat.le_of_ble_eq_true rfl, Nat.le_of_ble_eq_true rfl⟩) ⟨fun a U g mk q => by obtain ⟨q0, q1, qP, qK, qN, qD⟩ := q; exact ⟨q0, q1, qP, va_K.moved (u := U) (U := U.calling g mk a) (Vm.Alike.refl U.vm) qK, nwS (u := U) (U := U.calling g mk a) rfl qN, qD⟩, va_recv hK hPc (ci := 10) (q0 := 0) rfl rfl, fun U hU hW => ⟨rfl, by rw [hU], by rw [hU]; exact hPc, va_K.moved hW.alike hK, nwW hW hN, hDc.weaken (fun _ _ _ _ => trivial)⟩⟩ rfl rfl hl.1 rfl (lv_room (Nat.le_of_ble_eq_true rfl)) dX11_count_40 ⟨Nat.zero_le _, Nat.zero_le _⟩) hS (fun q _ h => hFc q h) hFc (fun r9 u9 t H1 locs ht hvm hw hB hz1 hk1 hS => ?_)
      have hw := hw.symm
      subst hw
      obtain ⟨hP1, hK1, hD1⟩ := hB
      rw [ht] at hP1
      obtain ⟨hP, hD⟩ := va_join (wr := []) (w1 := [(h_t, .inr (10, [.ref h_t_s, .ref h_t_was, .ref h_t_begun, .int t_states, .ref h_t_text, .int t_typed, .ref h_t_wrong, .ref h_t_cost, .ref h_t_first, .ref h_t_block, .ref h_t_many, .ref h_t_stack, .int t_height, .ref h_t_written, .int t_length, .ref h_t_own, .ref h_t_levelAt, .ref h_t_itemAt, .ref h_t_times, .int t_at, .int t_ownLength, .int t_depth, .int t_deepest, .int t_letters, .int t_repeats, .int t_corrections, .int t_mostCorrections, .int t_place, .int t_reason])), (h_t_s, .inl (cI, 30, .inl t_s))]) hP hD [0, 1] [] rfl rfl (by decide) (by decide) hk1 hFc hP1 hD1
      generalize H1 = H at hP hS ⊢
      have hP : va_P (dC, dI) vwCl [(h_t, .inr (10, [.ref h_t_s, .ref h_t_was, .ref h_t_begun, .int t_states, .ref h_t_text, .int t_typed, .ref h_t_wrong, .ref h_t_cost, .ref h_t_first, .ref h_t_block, .ref h_t_many, .ref h_t_stack, .int t_height, .ref h_t_written, .int t_length, .ref h_t_own, .ref h_t_levelAt, .ref h_t_itemAt, .ref h_t_times, .int t_at, .int t_ownLength, .int t_depth, .int t_deepest, .int t_letters, .int t_repeats, .int t_corrections, .int t_mostCorrections, .int t_place, .int t_reason])), (h_t_s, .inl (cI, 30, .inl t_s))] H := hP
      have hD : va_D A [(h_t, .inr (10, [.ref h_t_s, .ref h_t_was, .ref h_t_begun, .int t_states, .ref h_t_text, .int t_typed, .ref h_t_wrong, .ref h_t_cost, .ref h_t_first, .ref h_t_block, .ref h_t_many, .ref h_t_stack, .int t_height, .ref h_t_written, .int t_length, .ref h_t_own, .ref h_t_levelAt, .ref h_t_itemAt, .ref h_t_times, .int t_at, .int t_ownLength, .int t_depth, .int t_deepest, .int t_letters, .int t_repeats, .int t_corrections, .int t_mostCorrections, .int t_place, .int t_reason])), (h_t_s, .inl (cI, 30, .inl t_s))] := hD
      have e9_0 := Option.some.inj hres
      subst e9_0
      rw [← hQQ]
      exact W.iret (v := o3) hx hb hr (fun t ht hW => ⟨⟨o3, (), rfl, rfl, by rw [ht]; exact hP, va_K.moved hW.alike hK, hD⟩, hS.F ht⟩) hS.2.2 dX11_count_43
    · have hres := ie_of hres c_2
      by_cases c_4 : x1 = (2 : Int32)
      · have hres := it_of hres c_4
        refine lv_tableIn (off := 43) (tgt := 44) hx hb dX11_count_1 (by rw [c_4]; decide) (by rw [c_4]; decide) (by rw [c_4]; rfl) (by decide) ?_
        refine lv_aload_n hx hb dX11_count_44 rfl (lv_at hl 0 rfl) ?_
        refine va_get (D := (dC, dI)) (ci := 10) (v := .int t_states) (C := RX11) (T := TX11) (N := 29) hx hb hts iMD_count_X11_count_1 hown hK hP 0 rfl rfl 3 (by decide) (hts _ kMD_count_X11_count_2) (fun _ h9 => h9) rfl dX11_count_45 ?_
        have e9_0 := Option.some.inj hres
        subst e9_0
        rw [← hQQ]
        exact W.iret (v := t_states) hx hb hr (fun t ht hW => ⟨⟨t_states, (), rfl, rfl, by rw [ht]; exact hP, va_K.moved hW.alike hK, hD⟩, hS.F ht⟩) hS.2.2 dX11_count_48
      · have hres := ie_of hres c_4
        by_cases c_5 : x1 = (3 : Int32)
        · have hres := it_of hres c_5
          refine lv_tableIn (off := 48) (tgt := 49) hx hb dX11_count_1 (by rw [c_5]; decide) (by rw [c_5]; decide) (by rw [c_5]; rfl) (by decide) ?_
          refine lv_aload_n hx hb dX11_count_49 rfl (lv_at hl 0 rfl) ?_
          refine va_get (D := (dC, dI)) (ci := 10) (v := .int t_typed) (C := RX11) (T := TX11) (N := 29) hx hb hts iMD_count_X11_count_1 hown hK hP 0 rfl rfl 5 (by decide) (hts _ kMD_count_X11_count_3) (fun _ h9 => h9) rfl dX11_count_50 ?_
          have e9_0 := Option.some.inj hres
          subst e9_0
          rw [← hQQ]
          exact W.iret (v := t_typed) hx hb hr (fun t ht hW => ⟨⟨t_typed, (), rfl, rfl, by rw [ht]; exact hP, va_K.moved hW.alike hK, hD⟩, hS.F ht⟩) hS.2.2 dX11_count_53
        · have hres := ie_of hres c_5
          refine lv_tableOut (tgt := 54) hx hb dX11_count_1 (tab_out (lo := 0) (hi := 3) (fun k h1 h2 => by rcases (show k = 0 ∨ k = 1 ∨ k = 2 ∨ k = 3 by omega) with rfl | rfl | rfl | rfl <;> assumption)) (by decide) ?_
          refine lv_iload_n hx hb dX11_count_54 rfl (lv_at hl 1 rfl) ?_
          refine lv_bipush (v := (20 : Int32)) hx hb dX11_count_55 (by decide) ?_
          refine lv_bipush (v := (24 : Int32)) hx hb dX11_count_57 (by decide) ?_
          obtain ⟨o6, ho6, hres⟩ := bd_of hres
          have hPc := hP.sub (ws' := []) [] rfl
          have hDc := hD.sub (ws' := []) [] (by decide) rfl
          have hFc := va_free (wc := []) hD hS hA [] rfl
          refine va_calli (va_runS (As := [.int x1, .int (20 : Int32), .int (24 : Int32)]) (rest := []) ⟨hx, hb, hml, hown, hts⟩ (cMD_in l dC dI cI cJ cC cS H.size x1 (20 : Int32) (24 : Int32) o6 ho6) (va_cwS 3 hts gX11_count_X11_in rfl rfl rfl (by decide +kernel) ⟨Nat.le_of_ble_eq_true rfl, Nat.le_of_ble_eq_true rfl⟩) ⟨fun a U g mk q => by obtain ⟨q0, q1, qP, qK, qN, qD⟩ := q; exact ⟨q0, q1, qP, va_K.moved (u := U) (U := U.calling g mk a) (Vm.Alike.refl U.vm) qK, nwS (u := U) (U := U.calling g mk a) rfl qN, qD⟩, fun U hU hW => ⟨rfl, by rw [hU], by rw [hU]; exact hPc, va_K.moved hW.alike hK, nwW hW hN, hDc.weaken (fun _ _ _ _ => trivial)⟩⟩ rfl rfl hl.1 rfl (lv_room (Nat.le_of_ble_eq_true rfl)) dX11_count_59 ⟨Nat.zero_le _, Nat.zero_le _⟩) hS (fun q _ h => hFc q h) hFc (fun r9 u9 t H1 locs ht hvm hw hB hz1 hk1 hS => ?_)
          have hw := hw.symm
          subst hw
          obtain ⟨hP1, hK1, hD1⟩ := hB
          rw [ht] at hP1
          obtain ⟨hP, hD⟩ := va_join (wr := [(h_t, .inr (10, [.ref h_t_s, .ref h_t_was, .ref h_t_begun, .int t_states, .ref h_t_text, .int t_typed, .ref h_t_wrong, .ref h_t_cost, .ref h_t_first, .ref h_t_block, .ref h_t_many, .ref h_t_stack, .int t_height, .ref h_t_written, .int t_length, .ref h_t_own, .ref h_t_levelAt, .ref h_t_itemAt, .ref h_t_times, .int t_at, .int t_ownLength, .int t_depth, .int t_deepest, .int t_letters, .int t_repeats, .int t_corrections, .int t_mostCorrections, .int t_place, .int t_reason])), (h_t_s, .inl (cI, 30, .inl t_s))]) (w1 := []) hP hD [] [0, 1] rfl rfl (by decide) (by decide) hk1 hFc hP1 hD1
          generalize H1 = H at hP hS ⊢
          have hP : va_P (dC, dI) vwCl [(h_t, .inr (10, [.ref h_t_s, .ref h_t_was, .ref h_t_begun, .int t_states, .ref h_t_text, .int t_typed, .ref h_t_wrong, .ref h_t_cost, .ref h_t_first, .ref h_t_block, .ref h_t_many, .ref h_t_stack, .int t_height, .ref h_t_written, .int t_length, .ref h_t_own, .ref h_t_levelAt, .ref h_t_itemAt, .ref h_t_times, .int t_at, .int t_ownLength, .int t_depth, .int t_deepest, .int t_letters, .int t_repeats, .int t_corrections, .int t_mostCorrections, .int t_place, .int t_reason])), (h_t_s, .inl (cI, 30, .inl t_s))] H := hP
          have hD : va_D A [(h_t, .inr (10, [.ref h_t_s, .ref h_t_was, .ref h_t_begun, .int t_states, .ref h_t_text, .int t_typed, .ref h_t_wrong, .ref h_t_cost, .ref h_t_first, .ref h_t_block, .ref h_t_many, .ref h_t_stack, .int t_height, .ref h_t_written, .int t_length, .ref h_t_own, .ref h_t_levelAt, .ref h_t_itemAt, .ref h_t_times, .int t_at, .int t_ownLength, .int t_depth, .int t_deepest, .int t_letters, .int t_repeats, .int t_corrections, .int t_mostCorrections, .int t_place, .int t_reason])), (h_t_s, .inl (cI, 30, .inl t_s))] := hD
          refine lv_if_eq (tgt := 79) hx hb dX11_count_62 (by decide) (fun c_7 => ?_) (fun c_7 => ?_)
          · have hres := it_of hres c_7
            refine lv_ldc (v := (-1000001 : Int32)) hx hb hown (hts _ kMD_count_X11_count_4) dX11_count_79 ?_
            have e9_0 := Option.some.inj hres
            subst e9_0
            rw [← hQQ]
            exact W.iret (v := (-1000001 : Int32)) hx hb hr (fun t ht hW => ⟨⟨(-1000001 : Int32), (), rfl, rfl, by rw [ht]; exact hP, va_K.moved hW.alike hK, hD⟩, hS.F ht⟩) hS.2.2 dX11_count_81
          · have hres := ie_of hres c_7
            refine lv_aload_n hx hb dX11_count_65 rfl (lv_at hl 0 rfl) ?_
            refine va_get (D := (dC, dI)) (ci := 10) (v := .ref h_t_s) (C := RX11) (T := TX11) (N := 29) hx hb hts iMD_count_X11_count_1 hown hK hP 0 rfl rfl 0 (by decide) (hts _ kMD_count_X11_count_0) (fun _ h9 => h9) rfl dX11_count_66 ?_
            refine lv_iconst (v := (1 : Int32)) hx hb dX11_count_69 (by decide) ?_
            refine lv_iload_n hx hb dX11_count_70 rfl (lv_at hl 1 rfl) ?_
            refine lv_iadd hx hb dX11_count_71 ?_
            refine lv_bipush (v := (20 : Int32)) hx hb dX11_count_72 (by decide) ?_
            refine lv_isub hx hb dX11_count_74 ?_
            obtain ⟨c_8, hres⟩ := ck_of hres
            refine va_iald hx hb hK hP 1 0 rfl rfl c_8 dX11_count_75 ?_
            refine lv_goto (tgt := 81) hx hb dX11_count_76 (by decide) ?_
            have e9_0 := Option.some.inj hres
            subst e9_0
            rw [← hQQ]
            exact W.iret (v := (rd t_s (((1 : Int32) + x1) - (20 : Int32)))) hx hb hr (fun t ht hW => ⟨⟨(rd t_s (((1 : Int32) + x1) - (20 : Int32))), (), rfl, rfl, by rw [ht]; exact hP, va_K.moved hW.alike hK, hD⟩, hS.F ht⟩) hS.2.2 dX11_count_81

-- MD_counts
theorem kMD_counts_X11_counts_0 : Cond.fieldLink RX11 23 "RepeatNestsModel" "wrong" "[I" ∈ wsX11_counts := by decide +kernel
theorem iMD_counts_X11_counts_1 : ∀ w ∈ wsX110, w ∈ wsX11_counts := by decide +kernel
theorem kMD_counts_X11_counts_2 : Cond.fieldLink RX11 7 "RepeatNestsModel" "s" "[I" ∈ wsX11_counts := by decide +kernel
theorem kMD_counts_X11_counts_3 : Cond.fieldLink RX11 35 "RepeatNestsModel" "many" "[J" ∈ wsX11_counts := by decide +kernel
set_option maxHeartbeats 4000000 in
set_option maxRecDepth 100000 in
theorem cMD_counts (l : Launch) (dC : Nat → ClassId) (dI : Nat → Nat → Nat) (cI cJ cC cS : ClassId) (h_t h_t_s h_t_was h_t_begun h_t_text h_t_wrong h_t_cost h_t_first h_t_block h_t_many h_t_stack h_t_written h_t_own h_t_levelAt h_t_itemAt h_t_times : Nat) (sz : Nat) (t_states : Int32) (t_typed : Int32) (t_height : Int32) (t_length : Int32) (t_at : Int32) (t_ownLength : Int32) (t_depth : Int32) (t_deepest : Int32) (t_letters : Int32) (t_repeats : Int32) (t_corrections : Int32) (t_mostCorrections : Int32) (t_place : Int32) (t_reason : Int32) (t_many : Nat → Int64) (t_s : Nat → Int32) (t_wrong : Nat → Int32) (x1 : Int32) (x2 : Int32) (x3 : Int32) (y_t_many : Nat → Int64) (hres : fMD_counts t_s t_wrong t_many x1 x2 x3 = some y_t_many) :
    Met l yX11_counts wsX11_counts ({ frames := 1, cells := 0, slots := 0, locals := 22 } : Room) (va_Pc [.ref h_t, .int x1, .int x2, .int x3] (fun (U : State) => U.heap.size = sz ∧ va_P (dC, dI) vwCl [(h_t, .inr (10, [.ref h_t_s, .ref h_t_was, .ref h_t_begun, .int t_states, .ref h_t_text, .int t_typed, .ref h_t_wrong, .ref h_t_cost, .ref h_t_first, .ref h_t_block, .ref h_t_many, .ref h_t_stack, .int t_height, .ref h_t_written, .int t_length, .ref h_t_own, .ref h_t_levelAt, .ref h_t_itemAt, .ref h_t_times, .int t_at, .int t_ownLength, .int t_depth, .int t_deepest, .int t_letters, .int t_repeats, .int t_corrections, .int t_mostCorrections, .int t_place, .int t_reason])), (h_t_many, .inl (cJ, 3125, .inr (.inl t_many))), (h_t_s, .inl (cI, 30, .inl t_s)), (h_t_wrong, .inl (cI, 15625, .inl t_wrong))] U.heap ∧ va_K (dC, dI) vwCl (tyA cI cJ cC cS) U ∧ nwN U ∧ va_D (fun _ => True) [(h_t, .inr (10, [.ref h_t_s, .ref h_t_was, .ref h_t_begun, .int t_states, .ref h_t_text, .int t_typed, .ref h_t_wrong, .ref h_t_cost, .ref h_t_first, .ref h_t_block, .ref h_t_many, .ref h_t_stack, .int t_height, .ref h_t_written, .int t_length, .ref h_t_own, .ref h_t_levelAt, .ref h_t_itemAt, .ref h_t_times, .int t_at, .int t_ownLength, .int t_depth, .int t_deepest, .int t_letters, .int t_repeats, .int t_corrections, .int t_mostCorrections, .int t_place, .int t_reason])), (h_t_many, .inl (cJ, 3125, .inr (.inl t_many))), (h_t_s, .inl (cI, 30, .inl t_s)), (h_t_wrong, .inl (cI, 15625, .inl t_wrong))])) (va_Qv (fun (_ : Unit) => True) (fun (_ : Unit) (t : State) => va_P (dC, dI) vwCl [(h_t, .inr (10, [.ref h_t_s, .ref h_t_was, .ref h_t_begun, .int t_states, .ref h_t_text, .int t_typed, .ref h_t_wrong, .ref h_t_cost, .ref h_t_first, .ref h_t_block, .ref h_t_many, .ref h_t_stack, .int t_height, .ref h_t_written, .int t_length, .ref h_t_own, .ref h_t_levelAt, .ref h_t_itemAt, .ref h_t_times, .int t_at, .int t_ownLength, .int t_depth, .int t_deepest, .int t_letters, .int t_repeats, .int t_corrections, .int t_mostCorrections, .int t_place, .int t_reason])), (h_t_many, .inl (cJ, 3125, .inr (.inl y_t_many))), (h_t_s, .inl (cI, 30, .inl t_s)), (h_t_wrong, .inl (cI, 15625, .inl t_wrong))] t.heap ∧ va_K (dC, dI) vwCl (tyA cI cJ cC cS) t ∧ va_D (va_A [(h_t, .inr (10, [.ref h_t_s, .ref h_t_was, .ref h_t_begun, .int t_states, .ref h_t_text, .int t_typed, .ref h_t_wrong, .ref h_t_cost, .ref h_t_first, .ref h_t_block, .ref h_t_many, .ref h_t_stack, .int t_height, .ref h_t_written, .int t_length, .ref h_t_own, .ref h_t_levelAt, .ref h_t_itemAt, .ref h_t_times, .int t_at, .int t_ownLength, .int t_depth, .int t_deepest, .int t_letters, .int t_repeats, .int t_corrections, .int t_mostCorrections, .int t_place, .int t_reason])), (h_t_many, .inl (cJ, 3125, .inr (.inl t_many))), (h_t_s, .inl (cI, 30, .inl t_s)), (h_t_wrong, .inl (cI, 15625, .inl t_wrong))] sz) [(h_t, .inr (10, [.ref h_t_s, .ref h_t_was, .ref h_t_begun, .int t_states, .ref h_t_text, .int t_typed, .ref h_t_wrong, .ref h_t_cost, .ref h_t_first, .ref h_t_block, .ref h_t_many, .ref h_t_stack, .int t_height, .ref h_t_written, .int t_length, .ref h_t_own, .ref h_t_levelAt, .ref h_t_itemAt, .ref h_t_times, .int t_at, .int t_ownLength, .int t_depth, .int t_deepest, .int t_letters, .int t_repeats, .int t_corrections, .int t_mostCorrections, .int t_place, .int t_reason])), (h_t_many, .inl (cJ, 3125, .inr (.inl y_t_many))), (h_t_s, .inl (cI, 30, .inl t_s)), (h_t_wrong, .inl (cI, 15625, .inl t_wrong))]) (va_A [(h_t, .inr (10, [.ref h_t_s, .ref h_t_was, .ref h_t_begun, .int t_states, .ref h_t_text, .int t_typed, .ref h_t_wrong, .ref h_t_cost, .ref h_t_first, .ref h_t_block, .ref h_t_many, .ref h_t_stack, .int t_height, .ref h_t_written, .int t_length, .ref h_t_own, .ref h_t_levelAt, .ref h_t_itemAt, .ref h_t_times, .int t_at, .int t_ownLength, .int t_depth, .int t_deepest, .int t_letters, .int t_repeats, .int t_corrections, .int t_mostCorrections, .int t_place, .int t_reason])), (h_t_many, .inl (cJ, 3125, .inr (.inl t_many))), (h_t_s, .inl (cI, 30, .inl t_s)), (h_t_wrong, .inl (cI, 15625, .inl t_wrong))] sz)) 0 0 (va_A [(h_t, .inr (10, [.ref h_t_s, .ref h_t_was, .ref h_t_begun, .int t_states, .ref h_t_text, .int t_typed, .ref h_t_wrong, .ref h_t_cost, .ref h_t_first, .ref h_t_block, .ref h_t_many, .ref h_t_stack, .int t_height, .ref h_t_written, .int t_length, .ref h_t_own, .ref h_t_levelAt, .ref h_t_itemAt, .ref h_t_times, .int t_at, .int t_ownLength, .int t_depth, .int t_deepest, .int t_letters, .int t_repeats, .int t_corrections, .int t_mostCorrections, .int t_place, .int t_reason])), (h_t_many, .inl (cJ, 3125, .inr (.inl t_many))), (h_t_s, .inl (cI, 30, .inl t_s)), (h_t_wrong, .inl (cI, 15625, .inl t_wrong))] sz) := by
  refine Met.ofW (cc := cX11_counts) (maxL := 9) (ret := none) (by decide) rfl ?_
  intro p e s m args below meth c s₁ B hml hv
  obtain ⟨hargs, hsz, hP, hK, hN, hD0⟩ := hv
  have hx := B.exec
  have hb := B.bytes
  have hr := B.returns
  have hts := atoms_spec (ws := wsX11_counts) B.pre
  have hown : s.vm.findClass RX11 = some m.cls := findClass_of_methodNamed B.named
  have hlocks := B.notSynchronized
  subst hsz
  have hD := hD0.self (sz := s.heap.size)
  generalize hAe : va_A [(h_t, .inr (10, [.ref h_t_s, .ref h_t_was, .ref h_t_begun, .int t_states, .ref h_t_text, .int t_typed, .ref h_t_wrong, .ref h_t_cost, .ref h_t_first, .ref h_t_block, .ref h_t_many, .ref h_t_stack, .int t_height, .ref h_t_written, .int t_length, .ref h_t_own, .ref h_t_levelAt, .ref h_t_itemAt, .ref h_t_times, .int t_at, .int t_ownLength, .int t_depth, .int t_deepest, .int t_letters, .int t_repeats, .int t_corrections, .int t_mostCorrections, .int t_place, .int t_reason])), (h_t_many, .inl (cJ, 3125, .inr (.inl t_many))), (h_t_s, .inl (cI, 30, .inl t_s)), (h_t_wrong, .inl (cI, 15625, .inl t_wrong))] s.heap.size = A at hD ⊢
  have hA : ∀ q : Nat, s.heap.size ≤ q → A q := fun q h => by rw [← hAe]; exact Or.inr h
  have hS : va_S A s.heap s.heap [] := va_S.rf
  have hP : va_P (dC, dI) vwCl [(h_t, .inr (10, [.ref h_t_s, .ref h_t_was, .ref h_t_begun, .int t_states, .ref h_t_text, .int t_typed, .ref h_t_wrong, .ref h_t_cost, .ref h_t_first, .ref h_t_block, .ref h_t_many, .ref h_t_stack, .int t_height, .ref h_t_written, .int t_length, .ref h_t_own, .ref h_t_levelAt, .ref h_t_itemAt, .ref h_t_times, .int t_at, .int t_ownLength, .int t_depth, .int t_deepest, .int t_letters, .int t_repeats, .int t_corrections, .int t_mostCorrections, .int t_place, .int t_reason])), (h_t_many, .inl (cJ, 3125, .inr (.inl t_many))), (h_t_s, .inl (cI, 30, .inl t_s)), (h_t_wrong, .inl (cI, 15625, .inl t_wrong))] s.heap := hP
  have hl := lv_entry [.ref h_t, .int x1, .int x2, .int x3] (n := 9) (Nat.le_of_ble_eq_true rfl)
  rw [show entryFrame m args 9 = entryFrame m ([.ref h_t, .int x1, .int x2, .int x3] : List Value).toArray 9 from by rw [hargs], lg_entry_eq]
  generalize (lg_sl [.ref h_t, .int x1, .int x2, .int x3] ++ List.replicate (9 - (lg_sl [.ref h_t, .int x1, .int x2, .int x3]).length) Slot.unset).toArray = ls at hl ⊢
  have hl : lv_has ls 9 [(0, .ref h_t), (1, .int x1), (2, .int x2), (3, .int x3)] := hl
  generalize hQQ : MQ below (va_Qv (fun (_ : Unit) => True) (fun (_ : Unit) (t : State) => va_P (dC, dI) vwCl [(h_t, .inr (10, [.ref h_t_s, .ref h_t_was, .ref h_t_begun, .int t_states, .ref h_t_text, .int t_typed, .ref h_t_wrong, .ref h_t_cost, .ref h_t_first, .ref h_t_block, .ref h_t_many, .ref h_t_stack, .int t_height, .ref h_t_written, .int t_length, .ref h_t_own, .ref h_t_levelAt, .ref h_t_itemAt, .ref h_t_times, .int t_at, .int t_ownLength, .int t_depth, .int t_deepest, .int t_letters, .int t_repeats, .int t_corrections, .int t_mostCorrections, .int t_place, .int t_reason])), (h_t_many, .inl (cJ, 3125, .inr (.inl y_t_many))), (h_t_s, .inl (cI, 30, .inl t_s)), (h_t_wrong, .inl (cI, 15625, .inl t_wrong))] t.heap ∧ va_K (dC, dI) vwCl (tyA cI cJ cC cS) t ∧ va_D A [(h_t, .inr (10, [.ref h_t_s, .ref h_t_was, .ref h_t_begun, .int t_states, .ref h_t_text, .int t_typed, .ref h_t_wrong, .ref h_t_cost, .ref h_t_first, .ref h_t_block, .ref h_t_many, .ref h_t_stack, .int t_height, .ref h_t_written, .int t_length, .ref h_t_own, .ref h_t_levelAt, .ref h_t_itemAt, .ref h_t_times, .int t_at, .int t_ownLength, .int t_depth, .int t_deepest, .int t_letters, .int t_repeats, .int t_corrections, .int t_mostCorrections, .int t_place, .int t_reason])), (h_t_many, .inl (cJ, 3125, .inr (.inl y_t_many))), (h_t_s, .inl (cI, 30, .inl t_s)), (h_t_wrong, .inl (cI, 15625, .inl t_wrong))]) A) args s 0 0 A = QQ
  obtain ⟨H, hH⟩ : ∃ H : Heap, H = s.heap := ⟨_, rfl⟩
  obtain ⟨locs, hlocs⟩ : ∃ locs : List Loc, locs = [] := ⟨_, rfl⟩
  rw [← hH] at hP
  have hS : va_S A s.heap H locs := by rw [hH, hlocs]; exact hS
  suffices hZ : W p l e (headSpec wsX11_counts ({ frames := 1, cells := 0, slots := 0, locals := 22 } : Room)).room s m args below meth c H locs 0 0 QQ (F0 m 0 ls []) by rw [hH, hlocs] at hZ; exact hZ
  clear hH hlocs
  have hK141 : ∀ (x4 : Int64) (t_many : Nat → Int64) (H : Heap) (locs : List Loc) (ls : Array Slot), fMD_counts_141 x1 x2 x3 x4 t_many = some y_t_many → va_P (dC, dI) vwCl [(h_t, .inr (10, [.ref h_t_s, .ref h_t_was, .ref h_t_begun, .int t_states, .ref h_t_text, .int t_typed, .ref h_t_wrong, .ref h_t_cost, .ref h_t_first, .ref h_t_block, .ref h_t_many, .ref h_t_stack, .int t_height, .ref h_t_written, .int t_length, .ref h_t_own, .ref h_t_levelAt, .ref h_t_itemAt, .ref h_t_times, .int t_at, .int t_ownLength, .int t_depth, .int t_deepest, .int t_letters, .int t_repeats, .int t_corrections, .int t_mostCorrections, .int t_place, .int t_reason])), (h_t_many, .inl (cJ, 3125, .inr (.inl t_many))), (h_t_s, .inl (cI, 30, .inl t_s)), (h_t_wrong, .inl (cI, 15625, .inl t_wrong))] H → va_D A [(h_t, .inr (10, [.ref h_t_s, .ref h_t_was, .ref h_t_begun, .int t_states, .ref h_t_text, .int t_typed, .ref h_t_wrong, .ref h_t_cost, .ref h_t_first, .ref h_t_block, .ref h_t_many, .ref h_t_stack, .int t_height, .ref h_t_written, .int t_length, .ref h_t_own, .ref h_t_levelAt, .ref h_t_itemAt, .ref h_t_times, .int t_at, .int t_ownLength, .int t_depth, .int t_deepest, .int t_letters, .int t_repeats, .int t_corrections, .int t_mostCorrections, .int t_place, .int t_reason])), (h_t_many, .inl (cJ, 3125, .inr (.inl t_many))), (h_t_s, .inl (cI, 30, .inl t_s)), (h_t_wrong, .inl (cI, 15625, .inl t_wrong))] → va_S A s.heap H locs → lv_has ls 9 [(0, .ref h_t), (1, .int x1), (2, .int x2), (3, .int x3), (4, .long x4)] → W p l e (headSpec wsX11_counts ({ frames := 1, cells := 0, slots := 0, locals := 22 } : Room)).room s m args below meth c H locs 0 0 QQ (F0 m 141 ls []) := by
    intro x4 t_many H locs ls hres hP hD hS hl
    rw [fMD_counts_141] at hres
    refine lv_aload_n hx hb dX11_counts_141 rfl (lv_at hl 0 rfl) ?_
    refine va_get (D := (dC, dI)) (ci := 10) (v := .ref h_t_many) (C := RX11) (T := TX11) (N := 29) hx hb hts iMD_counts_X11_counts_1 hown hK hP 0 rfl rfl 10 (by decide) (hts _ kMD_counts_X11_counts_3) (fun _ h9 => h9) rfl dX11_counts_142 ?_
    refine lv_iload_n hx hb dX11_counts_145 rfl (lv_at hl 1 rfl) ?_
    refine lv_iload_n hx hb dX11_counts_146 rfl (lv_at hl 2 rfl) ?_
    refine lv_iload_n hx hb dX11_counts_147 rfl (lv_at hl 3 rfl) ?_
    obtain ⟨o6, ho6, hres⟩ := bd_of hres
    have hPc := hP.sub (ws' := []) [] rfl
    have hDc := hD.sub (ws' := []) [] (by decide) rfl
    have hFc := va_free (wc := []) hD hS hA [] rfl
    refine va_calli (va_runS (As := [.int x1, .int x2, .int x3]) (rest := [.ref h_t_many]) ⟨hx, hb, hml, hown, hts⟩ (cMD_part l dC dI cI cJ cC cS H.size x1 x2 x3 o6 ho6) (va_cwS 3 hts gX11_counts_X11_part rfl rfl rfl (by decide +kernel) ⟨Nat.le_of_ble_eq_true rfl, Nat.le_of_ble_eq_true rfl⟩) ⟨fun a U g mk q => by obtain ⟨q0, q1, qP, qK, qN, qD⟩ := q; exact ⟨q0, q1, qP, va_K.moved (u := U) (U := U.calling g mk a) (Vm.Alike.refl U.vm) qK, nwS (u := U) (U := U.calling g mk a) rfl qN, qD⟩, fun U hU hW => ⟨rfl, by rw [hU], by rw [hU]; exact hPc, va_K.moved hW.alike hK, nwW hW hN, hDc.weaken (fun _ _ _ _ => trivial)⟩⟩ rfl rfl hl.1 rfl (lv_room (Nat.le_of_ble_eq_true rfl)) dX11_counts_148 ⟨Nat.zero_le _, Nat.zero_le _⟩) hS (fun q _ h => hFc q h) hFc (fun r9 u9 t H1 locs ht hvm hw hB hz1 hk1 hS => ?_)
    have hw := hw.symm
    subst hw
    obtain ⟨hP1, hK1, hD1⟩ := hB
    rw [ht] at hP1
    obtain ⟨hP, hD⟩ := va_join (wr := [(h_t, .inr (10, [.ref h_t_s, .ref h_t_was, .ref h_t_begun, .int t_states, .ref h_t_text, .int t_typed, .ref h_t_wrong, .ref h_t_cost, .ref h_t_first, .ref h_t_block, .ref h_t_many, .ref h_t_stack, .int t_height, .ref h_t_written, .int t_length, .ref h_t_own, .ref h_t_levelAt, .ref h_t_itemAt, .ref h_t_times, .int t_at, .int t_ownLength, .int t_depth, .int t_deepest, .int t_letters, .int t_repeats, .int t_corrections, .int t_mostCorrections, .int t_place, .int t_reason])), (h_t_many, .inl (cJ, 3125, .inr (.inl t_many))), (h_t_s, .inl (cI, 30, .inl t_s)), (h_t_wrong, .inl (cI, 15625, .inl t_wrong))]) (w1 := []) hP hD [] [0, 1, 2, 3] rfl rfl (by decide) (by decide) hk1 hFc hP1 hD1
    generalize H1 = H at hP hS ⊢
    have hP : va_P (dC, dI) vwCl [(h_t, .inr (10, [.ref h_t_s, .ref h_t_was, .ref h_t_begun, .int t_states, .ref h_t_text, .int t_typed, .ref h_t_wrong, .ref h_t_cost, .ref h_t_first, .ref h_t_block, .ref h_t_many, .ref h_t_stack, .int t_height, .ref h_t_written, .int t_length, .ref h_t_own, .ref h_t_levelAt, .ref h_t_itemAt, .ref h_t_times, .int t_at, .int t_ownLength, .int t_depth, .int t_deepest, .int t_letters, .int t_repeats, .int t_corrections, .int t_mostCorrections, .int t_place, .int t_reason])), (h_t_many, .inl (cJ, 3125, .inr (.inl t_many))), (h_t_s, .inl (cI, 30, .inl t_s)), (h_t_wrong, .inl (cI, 15625, .inl t_wrong))] H := hP
    have hD : va_D A [(h_t, .inr (10, [.ref h_t_s, .ref h_t_was, .ref h_t_begun, .int t_states, .ref h_t_text, .int t_typed, .ref h_t_wrong, .ref h_t_cost, .ref h_t_first, .ref h_t_block, .ref h_t_many, .ref h_t_stack, .int t_height, .ref h_t_written, .int t_length, .ref h_t_own, .ref h_t_levelAt, .ref h_t_itemAt, .ref h_t_times, .int t_at, .int t_ownLength, .int t_depth, .int t_deepest, .int t_letters, .int t_repeats, .int t_corrections, .int t_mostCorrections, .int t_place, .int t_reason])), (h_t_many, .inl (cJ, 3125, .inr (.inl t_many))), (h_t_s, .inl (cI, 30, .inl t_s)), (h_t_wrong, .inl (cI, 15625, .inl t_wrong))] := hD
    refine lv_lload hx hb dX11_counts_151 (lv_at hl 4 rfl) ?_
    obtain ⟨c_7, hres⟩ := ck_of hres
    refine va_last hx hb hK hP hD hS 1 1 rfl rfl c_7 dX11_counts_153 (fun H locs hP hD hS => ?_)
    have hP : va_P (dC, dI) vwCl [(h_t, .inr (10, [.ref h_t_s, .ref h_t_was, .ref h_t_begun, .int t_states, .ref h_t_text, .int t_typed, .ref h_t_wrong, .ref h_t_cost, .ref h_t_first, .ref h_t_block, .ref h_t_many, .ref h_t_stack, .int t_height, .ref h_t_written, .int t_length, .ref h_t_own, .ref h_t_levelAt, .ref h_t_itemAt, .ref h_t_times, .int t_at, .int t_ownLength, .int t_depth, .int t_deepest, .int t_letters, .int t_repeats, .int t_corrections, .int t_mostCorrections, .int t_place, .int t_reason])), (h_t_many, .inl (cJ, 3125, .inr (.inl (wrL t_many o6 x4)))), (h_t_s, .inl (cI, 30, .inl t_s)), (h_t_wrong, .inl (cI, 15625, .inl t_wrong))] H := hP
    have hD : va_D A [(h_t, .inr (10, [.ref h_t_s, .ref h_t_was, .ref h_t_begun, .int t_states, .ref h_t_text, .int t_typed, .ref h_t_wrong, .ref h_t_cost, .ref h_t_first, .ref h_t_block, .ref h_t_many, .ref h_t_stack, .int t_height, .ref h_t_written, .int t_length, .ref h_t_own, .ref h_t_levelAt, .ref h_t_itemAt, .ref h_t_times, .int t_at, .int t_ownLength, .int t_depth, .int t_deepest, .int t_letters, .int t_repeats, .int t_corrections, .int t_mostCorrections, .int t_place, .int t_reason])), (h_t_many, .inl (cJ, 3125, .inr (.inl (wrL t_many o6 x4)))), (h_t_s, .inl (cI, 30, .inl t_s)), (h_t_wrong, .inl (cI, 15625, .inl t_wrong))] := hD
    have e9_0 := Option.some.inj hres
    subst e9_0
    rw [← hQQ]
    exact W.vret hx hb hr (fun t ht hW => ⟨⟨(), rfl, trivial, by rw [ht]; exact hP, va_K.moved hW.alike hK, hD⟩, hS.F ht⟩) hS.2.2 dX11_counts_154
  have hL18 : ∀ (n18 : Nat) , ∀ (x4 : Int64) (x6 : Int32) (t_many : Nat → Int64) (H : Heap) (locs : List Loc) (ls : Array Slot), fMD_counts_18 t_s t_wrong x1 x2 x3 n18 x4 x6 t_many = some y_t_many → va_P (dC, dI) vwCl [(h_t, .inr (10, [.ref h_t_s, .ref h_t_was, .ref h_t_begun, .int t_states, .ref h_t_text, .int t_typed, .ref h_t_wrong, .ref h_t_cost, .ref h_t_first, .ref h_t_block, .ref h_t_many, .ref h_t_stack, .int t_height, .ref h_t_written, .int t_length, .ref h_t_own, .ref h_t_levelAt, .ref h_t_itemAt, .ref h_t_times, .int t_at, .int t_ownLength, .int t_depth, .int t_deepest, .int t_letters, .int t_repeats, .int t_corrections, .int t_mostCorrections, .int t_place, .int t_reason])), (h_t_many, .inl (cJ, 3125, .inr (.inl t_many))), (h_t_s, .inl (cI, 30, .inl t_s)), (h_t_wrong, .inl (cI, 15625, .inl t_wrong))] H → va_D A [(h_t, .inr (10, [.ref h_t_s, .ref h_t_was, .ref h_t_begun, .int t_states, .ref h_t_text, .int t_typed, .ref h_t_wrong, .ref h_t_cost, .ref h_t_first, .ref h_t_block, .ref h_t_many, .ref h_t_stack, .int t_height, .ref h_t_written, .int t_length, .ref h_t_own, .ref h_t_levelAt, .ref h_t_itemAt, .ref h_t_times, .int t_at, .int t_ownLength, .int t_depth, .int t_deepest, .int t_letters, .int t_repeats, .int t_corrections, .int t_mostCorrections, .int t_place, .int t_reason])), (h_t_many, .inl (cJ, 3125, .inr (.inl t_many))), (h_t_s, .inl (cI, 30, .inl t_s)), (h_t_wrong, .inl (cI, 15625, .inl t_wrong))] → va_S A s.heap H locs → lv_has ls 9 [(0, .ref h_t), (1, .int x1), (2, .int x2), (3, .int x3), (4, .long x4), (6, .int x6)] → W p l e (headSpec wsX11_counts ({ frames := 1, cells := 0, slots := 0, locals := 22 } : Room)).room s m args below meth c H locs 0 0 QQ (F0 m 18 ls []) := by
    intro n18
    induction n18 with
    | zero =>
      intro x4 x6 t_many H locs ls hres
      rw [fMD_counts_18] at hres
      cases hres
    | succ n18 ih18 =>
      have hL35 : ∀ (n35 : Nat) , ∀ (x4 : Int64) (x6 : Int32) (x7 : Int32) (t_many : Nat → Int64) (H : Heap) (locs : List Loc) (ls : Array Slot), fMD_counts_35 t_s t_wrong x1 x2 x3 (fMD_counts_18 t_s t_wrong x1 x2 x3 n18) n35 x4 x6 x7 t_many = some y_t_many → va_P (dC, dI) vwCl [(h_t, .inr (10, [.ref h_t_s, .ref h_t_was, .ref h_t_begun, .int t_states, .ref h_t_text, .int t_typed, .ref h_t_wrong, .ref h_t_cost, .ref h_t_first, .ref h_t_block, .ref h_t_many, .ref h_t_stack, .int t_height, .ref h_t_written, .int t_length, .ref h_t_own, .ref h_t_levelAt, .ref h_t_itemAt, .ref h_t_times, .int t_at, .int t_ownLength, .int t_depth, .int t_deepest, .int t_letters, .int t_repeats, .int t_corrections, .int t_mostCorrections, .int t_place, .int t_reason])), (h_t_many, .inl (cJ, 3125, .inr (.inl t_many))), (h_t_s, .inl (cI, 30, .inl t_s)), (h_t_wrong, .inl (cI, 15625, .inl t_wrong))] H → va_D A [(h_t, .inr (10, [.ref h_t_s, .ref h_t_was, .ref h_t_begun, .int t_states, .ref h_t_text, .int t_typed, .ref h_t_wrong, .ref h_t_cost, .ref h_t_first, .ref h_t_block, .ref h_t_many, .ref h_t_stack, .int t_height, .ref h_t_written, .int t_length, .ref h_t_own, .ref h_t_levelAt, .ref h_t_itemAt, .ref h_t_times, .int t_at, .int t_ownLength, .int t_depth, .int t_deepest, .int t_letters, .int t_repeats, .int t_corrections, .int t_mostCorrections, .int t_place, .int t_reason])), (h_t_many, .inl (cJ, 3125, .inr (.inl t_many))), (h_t_s, .inl (cI, 30, .inl t_s)), (h_t_wrong, .inl (cI, 15625, .inl t_wrong))] → va_S A s.heap H locs → lv_has ls 9 [(0, .ref h_t), (1, .int x1), (2, .int x2), (3, .int x3), (4, .long x4), (6, .int x6), (7, .int x7)] → W p l e (headSpec wsX11_counts ({ frames := 1, cells := 0, slots := 0, locals := 22 } : Room)).room s m args below meth c H locs 0 0 QQ (F0 m 35 ls []) := by
        intro n35
        induction n35 with
        | zero =>
          intro x4 x6 x7 t_many H locs ls hres
          rw [fMD_counts_35] at hres
          cases hres
        | succ n35 ih35 =>
          have hK79 : ∀ (x4 : Int64) (x6 : Int32) (x7 : Int32) (s0 : Int32) (t_many : Nat → Int64) (H : Heap) (locs : List Loc) (ls : Array Slot), fMD_counts_79 x1 x2 x3 (fMD_counts_18 t_s t_wrong x1 x2 x3 n18) (fMD_counts_35 t_s t_wrong x1 x2 x3 (fMD_counts_18 t_s t_wrong x1 x2 x3 n18) n35) x4 x6 x7 s0 t_many = some y_t_many → va_P (dC, dI) vwCl [(h_t, .inr (10, [.ref h_t_s, .ref h_t_was, .ref h_t_begun, .int t_states, .ref h_t_text, .int t_typed, .ref h_t_wrong, .ref h_t_cost, .ref h_t_first, .ref h_t_block, .ref h_t_many, .ref h_t_stack, .int t_height, .ref h_t_written, .int t_length, .ref h_t_own, .ref h_t_levelAt, .ref h_t_itemAt, .ref h_t_times, .int t_at, .int t_ownLength, .int t_depth, .int t_deepest, .int t_letters, .int t_repeats, .int t_corrections, .int t_mostCorrections, .int t_place, .int t_reason])), (h_t_many, .inl (cJ, 3125, .inr (.inl t_many))), (h_t_s, .inl (cI, 30, .inl t_s)), (h_t_wrong, .inl (cI, 15625, .inl t_wrong))] H → va_D A [(h_t, .inr (10, [.ref h_t_s, .ref h_t_was, .ref h_t_begun, .int t_states, .ref h_t_text, .int t_typed, .ref h_t_wrong, .ref h_t_cost, .ref h_t_first, .ref h_t_block, .ref h_t_many, .ref h_t_stack, .int t_height, .ref h_t_written, .int t_length, .ref h_t_own, .ref h_t_levelAt, .ref h_t_itemAt, .ref h_t_times, .int t_at, .int t_ownLength, .int t_depth, .int t_deepest, .int t_letters, .int t_repeats, .int t_corrections, .int t_mostCorrections, .int t_place, .int t_reason])), (h_t_many, .inl (cJ, 3125, .inr (.inl t_many))), (h_t_s, .inl (cI, 30, .inl t_s)), (h_t_wrong, .inl (cI, 15625, .inl t_wrong))] → va_S A s.heap H locs → lv_has ls 9 [(0, .ref h_t), (1, .int x1), (2, .int x2), (3, .int x3), (4, .long x4), (6, .int x6), (7, .int x7)] → W p l e (headSpec wsX11_counts ({ frames := 1, cells := 0, slots := 0, locals := 22 } : Room)).room s m args below meth c H locs 0 0 QQ (F0 m 79 ls [.int s0]) := by
            intro x4 x6 x7 s0 t_many H locs ls hres hP hD hS hl
            rw [fMD_counts_79] at hres
            refine lv_istore (lv' := [(8, .int s0), (0, .ref h_t), (1, .int x1), (2, .int x2), (3, .int x3), (4, .long x4), (6, .int x6), (7, .int x7)]) hx hb dX11_counts_79 hl (by decide) rfl (fun ls hl => ?_)
            refine lv_lload hx hb dX11_counts_81 (lv_at hl 5 rfl) ?_
            refine lv_iload hx hb dX11_counts_83 (lv_at hl 0 rfl) ?_
            refine lv_if_eq (tgt := 125) hx hb dX11_counts_85 (by decide) (fun c_8 => ?_) (fun c_8 => ?_)
            · have hres := it_of hres c_8
              refine lv_lconst (v := (0 : Int64)) hx hb dX11_counts_125 (by decide) ?_
              refine lv_ladd hx hb dX11_counts_126 ?_
              refine lv_lstore (lv' := [(4, .long (x4 + (0 : Int64))), (8, .int s0), (0, .ref h_t), (1, .int x1), (2, .int x2), (3, .int x3), (6, .int x6), (7, .int x7)]) hx hb dX11_counts_127 hl (by decide) rfl (fun ls hl => ?_)
              refine lv_iinc (v := (x7 + 1)) (lv' := [(7, .int (x7 + 1)), (4, .long (x4 + (0 : Int64))), (8, .int s0), (0, .ref h_t), (1, .int x1), (2, .int x2), (3, .int x3), (6, .int x6)]) hx hb dX11_counts_129 hl (k := 7) rfl rfl (by decide) rfl (fun ls hl => ?_)
              refine lv_goto (tgt := 35) hx hb dX11_counts_132 (by decide) ?_
              exact ih35 (x4 + (0 : Int64)) x6 (x7 + 1) t_many H locs ls hres hP hD hS (lv_sub hl [3, 4, 5, 6, 1, 7, 0] rfl)
            · have hres := ie_of hres c_8
              refine lv_aload_n hx hb dX11_counts_88 rfl (lv_at hl 1 rfl) ?_
              refine va_get (D := (dC, dI)) (ci := 10) (v := .ref h_t_many) (C := RX11) (T := TX11) (N := 29) hx hb hts iMD_counts_X11_counts_1 hown hK hP 0 rfl rfl 10 (by decide) (hts _ kMD_counts_X11_counts_3) (fun _ h9 => h9) rfl dX11_counts_89 ?_
              refine lv_iload_n hx hb dX11_counts_92 rfl (lv_at hl 2 rfl) ?_
              refine lv_iconst (v := (1 : Int32)) hx hb dX11_counts_93 (by decide) ?_
              refine lv_isub hx hb dX11_counts_94 ?_
              refine lv_iload_n hx hb dX11_counts_95 rfl (lv_at hl 3 rfl) ?_
              refine lv_iload_n hx hb dX11_counts_96 rfl (lv_at hl 3 rfl) ?_
              refine lv_iload hx hb dX11_counts_97 (lv_at hl 6 rfl) ?_
              refine lv_iadd hx hb dX11_counts_99 ?_
              obtain ⟨o9, ho9, hres⟩ := bd_of hres
              have hPc := hP.sub (ws' := []) [] rfl
              have hDc := hD.sub (ws' := []) [] (by decide) rfl
              have hFc := va_free (wc := []) hD hS hA [] rfl
              refine va_calli (va_runS (As := [.int (x1 - (1 : Int32)), .int x2, .int (x2 + x6)]) (rest := [.ref h_t_many, .long x4]) ⟨hx, hb, hml, hown, hts⟩ (cMD_part l dC dI cI cJ cC cS H.size (x1 - (1 : Int32)) x2 (x2 + x6) o9 ho9) (va_cwS 3 hts gX11_counts_X11_part rfl rfl rfl (by decide +kernel) ⟨Nat.le_of_ble_eq_true rfl, Nat.le_of_ble_eq_true rfl⟩) ⟨fun a U g mk q => by obtain ⟨q0, q1, qP, qK, qN, qD⟩ := q; exact ⟨q0, q1, qP, va_K.moved (u := U) (U := U.calling g mk a) (Vm.Alike.refl U.vm) qK, nwS (u := U) (U := U.calling g mk a) rfl qN, qD⟩, fun U hU hW => ⟨rfl, by rw [hU], by rw [hU]; exact hPc, va_K.moved hW.alike hK, nwW hW hN, hDc.weaken (fun _ _ _ _ => trivial)⟩⟩ rfl rfl hl.1 rfl (lv_room (Nat.le_of_ble_eq_true rfl)) dX11_counts_100 ⟨Nat.zero_le _, Nat.zero_le _⟩) hS (fun q _ h => hFc q h) hFc (fun r9 u9 t H1 locs ht hvm hw hB hz1 hk1 hS => ?_)
              have hw := hw.symm
              subst hw
              obtain ⟨hP1, hK1, hD1⟩ := hB
              rw [ht] at hP1
              obtain ⟨hP, hD⟩ := va_join (wr := [(h_t, .inr (10, [.ref h_t_s, .ref h_t_was, .ref h_t_begun, .int t_states, .ref h_t_text, .int t_typed, .ref h_t_wrong, .ref h_t_cost, .ref h_t_first, .ref h_t_block, .ref h_t_many, .ref h_t_stack, .int t_height, .ref h_t_written, .int t_length, .ref h_t_own, .ref h_t_levelAt, .ref h_t_itemAt, .ref h_t_times, .int t_at, .int t_ownLength, .int t_depth, .int t_deepest, .int t_letters, .int t_repeats, .int t_corrections, .int t_mostCorrections, .int t_place, .int t_reason])), (h_t_many, .inl (cJ, 3125, .inr (.inl t_many))), (h_t_s, .inl (cI, 30, .inl t_s)), (h_t_wrong, .inl (cI, 15625, .inl t_wrong))]) (w1 := []) hP hD [] [0, 1, 2, 3] rfl rfl (by decide) (by decide) hk1 hFc hP1 hD1
              generalize H1 = H at hP hS ⊢
              have hP : va_P (dC, dI) vwCl [(h_t, .inr (10, [.ref h_t_s, .ref h_t_was, .ref h_t_begun, .int t_states, .ref h_t_text, .int t_typed, .ref h_t_wrong, .ref h_t_cost, .ref h_t_first, .ref h_t_block, .ref h_t_many, .ref h_t_stack, .int t_height, .ref h_t_written, .int t_length, .ref h_t_own, .ref h_t_levelAt, .ref h_t_itemAt, .ref h_t_times, .int t_at, .int t_ownLength, .int t_depth, .int t_deepest, .int t_letters, .int t_repeats, .int t_corrections, .int t_mostCorrections, .int t_place, .int t_reason])), (h_t_many, .inl (cJ, 3125, .inr (.inl t_many))), (h_t_s, .inl (cI, 30, .inl t_s)), (h_t_wrong, .inl (cI, 15625, .inl t_wrong))] H := hP
              have hD : va_D A [(h_t, .inr (10, [.ref h_t_s, .ref h_t_was, .ref h_t_begun, .int t_states, .ref h_t_text, .int t_typed, .ref h_t_wrong, .ref h_t_cost, .ref h_t_first, .ref h_t_block, .ref h_t_many, .ref h_t_stack, .int t_height, .ref h_t_written, .int t_length, .ref h_t_own, .ref h_t_levelAt, .ref h_t_itemAt, .ref h_t_times, .int t_at, .int t_ownLength, .int t_depth, .int t_deepest, .int t_letters, .int t_repeats, .int t_corrections, .int t_mostCorrections, .int t_place, .int t_reason])), (h_t_many, .inl (cJ, 3125, .inr (.inl t_many))), (h_t_s, .inl (cI, 30, .inl t_s)), (h_t_wrong, .inl (cI, 15625, .inl t_wrong))] := hD
              obtain ⟨c_10, hres⟩ := ck_of hres
              refine va_lald hx hb hK hP 1 1 rfl rfl c_10 dX11_counts_103 ?_
              refine lv_aload_n hx hb dX11_counts_104 rfl (lv_at hl 1 rfl) ?_
              refine va_get (D := (dC, dI)) (ci := 10) (v := .ref h_t_many) (C := RX11) (T := TX11) (N := 29) hx hb hts iMD_counts_X11_counts_1 hown hK hP 0 rfl rfl 10 (by decide) (hts _ kMD_counts_X11_counts_3) (fun _ h9 => h9) rfl dX11_counts_105 ?_
              refine lv_iload_n hx hb dX11_counts_108 rfl (lv_at hl 2 rfl) ?_
              refine lv_iload_n hx hb dX11_counts_109 rfl (lv_at hl 3 rfl) ?_
              refine lv_iload hx hb dX11_counts_110 (lv_at hl 7 rfl) ?_
              refine lv_iload hx hb dX11_counts_112 (lv_at hl 6 rfl) ?_
              refine lv_imul hx hb dX11_counts_114 ?_
              refine lv_iadd hx hb dX11_counts_115 ?_
              refine lv_iload_n hx hb dX11_counts_116 rfl (lv_at hl 4 rfl) ?_
              obtain ⟨o11, ho11, hres⟩ := bd_of hres
              have hPc := hP.sub (ws' := []) [] rfl
              have hDc := hD.sub (ws' := []) [] (by decide) rfl
              have hFc := va_free (wc := []) hD hS hA [] rfl
              refine va_calli (va_runS (As := [.int x1, .int (x2 + (x7 * x6)), .int x3]) (rest := [.ref h_t_many, .long (rdL t_many o9), .long x4]) ⟨hx, hb, hml, hown, hts⟩ (cMD_part l dC dI cI cJ cC cS H.size x1 (x2 + (x7 * x6)) x3 o11 ho11) (va_cwS 3 hts gX11_counts_X11_part rfl rfl rfl (by decide +kernel) ⟨Nat.le_of_ble_eq_true rfl, Nat.le_of_ble_eq_true rfl⟩) ⟨fun a U g mk q => by obtain ⟨q0, q1, qP, qK, qN, qD⟩ := q; exact ⟨q0, q1, qP, va_K.moved (u := U) (U := U.calling g mk a) (Vm.Alike.refl U.vm) qK, nwS (u := U) (U := U.calling g mk a) rfl qN, qD⟩, fun U hU hW => ⟨rfl, by rw [hU], by rw [hU]; exact hPc, va_K.moved hW.alike hK, nwW hW hN, hDc.weaken (fun _ _ _ _ => trivial)⟩⟩ rfl rfl hl.1 rfl (lv_room (Nat.le_of_ble_eq_true rfl)) dX11_counts_117 ⟨Nat.zero_le _, Nat.zero_le _⟩) hS (fun q _ h => hFc q h) hFc (fun r9 u9 t H1 locs ht hvm hw hB hz1 hk1 hS => ?_)
              have hw := hw.symm
              subst hw
              obtain ⟨hP1, hK1, hD1⟩ := hB
              rw [ht] at hP1
              obtain ⟨hP, hD⟩ := va_join (wr := [(h_t, .inr (10, [.ref h_t_s, .ref h_t_was, .ref h_t_begun, .int t_states, .ref h_t_text, .int t_typed, .ref h_t_wrong, .ref h_t_cost, .ref h_t_first, .ref h_t_block, .ref h_t_many, .ref h_t_stack, .int t_height, .ref h_t_written, .int t_length, .ref h_t_own, .ref h_t_levelAt, .ref h_t_itemAt, .ref h_t_times, .int t_at, .int t_ownLength, .int t_depth, .int t_deepest, .int t_letters, .int t_repeats, .int t_corrections, .int t_mostCorrections, .int t_place, .int t_reason])), (h_t_many, .inl (cJ, 3125, .inr (.inl t_many))), (h_t_s, .inl (cI, 30, .inl t_s)), (h_t_wrong, .inl (cI, 15625, .inl t_wrong))]) (w1 := []) hP hD [] [0, 1, 2, 3] rfl rfl (by decide) (by decide) hk1 hFc hP1 hD1
              generalize H1 = H at hP hS ⊢
              have hP : va_P (dC, dI) vwCl [(h_t, .inr (10, [.ref h_t_s, .ref h_t_was, .ref h_t_begun, .int t_states, .ref h_t_text, .int t_typed, .ref h_t_wrong, .ref h_t_cost, .ref h_t_first, .ref h_t_block, .ref h_t_many, .ref h_t_stack, .int t_height, .ref h_t_written, .int t_length, .ref h_t_own, .ref h_t_levelAt, .ref h_t_itemAt, .ref h_t_times, .int t_at, .int t_ownLength, .int t_depth, .int t_deepest, .int t_letters, .int t_repeats, .int t_corrections, .int t_mostCorrections, .int t_place, .int t_reason])), (h_t_many, .inl (cJ, 3125, .inr (.inl t_many))), (h_t_s, .inl (cI, 30, .inl t_s)), (h_t_wrong, .inl (cI, 15625, .inl t_wrong))] H := hP
              have hD : va_D A [(h_t, .inr (10, [.ref h_t_s, .ref h_t_was, .ref h_t_begun, .int t_states, .ref h_t_text, .int t_typed, .ref h_t_wrong, .ref h_t_cost, .ref h_t_first, .ref h_t_block, .ref h_t_many, .ref h_t_stack, .int t_height, .ref h_t_written, .int t_length, .ref h_t_own, .ref h_t_levelAt, .ref h_t_itemAt, .ref h_t_times, .int t_at, .int t_ownLength, .int t_depth, .int t_deepest, .int t_letters, .int t_repeats, .int t_corrections, .int t_mostCorrections, .int t_place, .int t_reason])), (h_t_many, .inl (cJ, 3125, .inr (.inl t_many))), (h_t_s, .inl (cI, 30, .inl t_s)), (h_t_wrong, .inl (cI, 15625, .inl t_wrong))] := hD
              obtain ⟨c_12, hres⟩ := ck_of hres
              refine va_lald hx hb hK hP 1 1 rfl rfl c_12 dX11_counts_120 ?_
              refine lv_lmul hx hb dX11_counts_121 ?_
              refine lv_goto (tgt := 126) hx hb dX11_counts_122 (by decide) ?_
              refine lv_ladd hx hb dX11_counts_126 ?_
              refine lv_lstore (lv' := [(4, .long (x4 + ((rdL t_many o9) * (rdL t_many o11)))), (8, .int s0), (0, .ref h_t), (1, .int x1), (2, .int x2), (3, .int x3), (6, .int x6), (7, .int x7)]) hx hb dX11_counts_127 hl (by decide) rfl (fun ls hl => ?_)
              refine lv_iinc (v := (x7 + 1)) (lv' := [(7, .int (x7 + 1)), (4, .long (x4 + ((rdL t_many o9) * (rdL t_many o11)))), (8, .int s0), (0, .ref h_t), (1, .int x1), (2, .int x2), (3, .int x3), (6, .int x6)]) hx hb dX11_counts_129 hl (k := 7) rfl rfl (by decide) rfl (fun ls hl => ?_)
              refine lv_goto (tgt := 35) hx hb dX11_counts_132 (by decide) ?_
              exact ih35 (x4 + ((rdL t_many o9) * (rdL t_many o11))) x6 (x7 + 1) t_many H locs ls hres hP hD hS (lv_sub hl [3, 4, 5, 6, 1, 7, 0] rfl)
          intro x4 x6 x7 t_many H locs ls hres hP hD hS hl
          rw [fMD_counts_35] at hres
          refine lv_iload_n hx hb dX11_counts_35 rfl (lv_at hl 2 rfl) ?_
          refine lv_iload hx hb dX11_counts_36 (lv_at hl 6 rfl) ?_
          refine lv_iload hx hb dX11_counts_38 (lv_at hl 5 rfl) ?_
          refine lv_imul hx hb dX11_counts_40 ?_
          refine lv_iadd hx hb dX11_counts_41 ?_
          refine lv_iload_n hx hb dX11_counts_42 rfl (lv_at hl 3 rfl) ?_
          refine lv_icmp_gt (tgt := 135) hx hb dX11_counts_43 (by decide) (fun c_3 => ?_) (fun c_3 => ?_)
          · have hres := it_of hres c_3
            refine lv_iinc (v := (x6 + 1)) (lv' := [(6, .int (x6 + 1)), (0, .ref h_t), (1, .int x1), (2, .int x2), (3, .int x3), (4, .long x4), (7, .int x7)]) hx hb dX11_counts_135 hl (k := 5) rfl rfl (by decide) rfl (fun ls hl => ?_)
            refine lv_goto (tgt := 18) hx hb dX11_counts_138 (by decide) ?_
            exact ih18 x4 (x6 + 1) t_many H locs ls hres hP hD hS (lv_sub hl [1, 2, 3, 4, 5, 0] rfl)
          · have hres := ie_of hres c_3
            refine lv_aload_n hx hb dX11_counts_46 rfl (lv_at hl 0 rfl) ?_
            refine va_get (D := (dC, dI)) (ci := 10) (v := .ref h_t_wrong) (C := RX11) (T := TX11) (N := 29) hx hb hts iMD_counts_X11_counts_1 hown hK hP 0 rfl rfl 6 (by decide) (hts _ kMD_counts_X11_counts_0) (fun _ h9 => h9) rfl dX11_counts_47 ?_
            refine lv_sipush (v := (625 : Int32)) hx hb dX11_counts_50 (by decide) ?_
            refine lv_iload_n hx hb dX11_counts_53 rfl (lv_at hl 2 rfl) ?_
            refine lv_imul hx hb dX11_counts_54 ?_
            refine lv_bipush (v := (25 : Int32)) hx hb dX11_counts_55 (by decide) ?_
            refine lv_iload hx hb dX11_counts_57 (lv_at hl 5 rfl) ?_
            refine lv_imul hx hb dX11_counts_59 ?_
            refine lv_iadd hx hb dX11_counts_60 ?_
            refine lv_iload hx hb dX11_counts_61 (lv_at hl 6 rfl) ?_
            refine lv_iadd hx hb dX11_counts_63 ?_
            obtain ⟨c_4, hres⟩ := ck_of hres
            refine va_iald hx hb hK hP 3 0 rfl rfl c_4 dX11_counts_64 ?_
            refine lv_aload_n hx hb dX11_counts_65 rfl (lv_at hl 0 rfl) ?_
            refine va_get (D := (dC, dI)) (ci := 10) (v := .ref h_t_s) (C := RX11) (T := TX11) (N := 29) hx hb hts iMD_counts_X11_counts_1 hown hK hP 0 rfl rfl 0 (by decide) (hts _ kMD_counts_X11_counts_2) (fun _ h9 => h9) rfl dX11_counts_66 ?_
            refine lv_iconst (v := (4 : Int32)) hx hb dX11_counts_69 (by decide) ?_
            refine va_iald hx hb hK hP 2 0 rfl rfl (vin (by decide)) dX11_counts_70 ?_
            refine lv_icmp_gt (tgt := 78) hx hb dX11_counts_71 (by decide) (fun c_5 => ?_) (fun c_5 => ?_)
            · have hres := it_of hres c_5
              refine lv_iconst (v := (0 : Int32)) hx hb dX11_counts_78 (by decide) ?_
              exact hK79 x4 x6 x7 (0 : Int32) t_many H locs ls hres hP hD hS (lv_sub hl [0, 1, 2, 3, 4, 5, 6] rfl)
            · have hres := ie_of hres c_5
              refine lv_iconst (v := (1 : Int32)) hx hb dX11_counts_74 (by decide) ?_
              refine lv_goto (tgt := 79) hx hb dX11_counts_75 (by decide) ?_
              exact hK79 x4 x6 x7 (1 : Int32) t_many H locs ls hres hP hD hS (lv_sub hl [0, 1, 2, 3, 4, 5, 6] rfl)
      intro x4 x6 t_many H locs ls hres hP hD hS hl
      rw [fMD_counts_18] at hres
      refine lv_iload_n hx hb dX11_counts_18 rfl (lv_at hl 2 rfl) ?_
      refine lv_iconst (v := (2 : Int32)) hx hb dX11_counts_19 (by decide) ?_
      refine lv_iload hx hb dX11_counts_20 (lv_at hl 5 rfl) ?_
      refine lv_imul hx hb dX11_counts_22 ?_
      refine lv_iadd hx hb dX11_counts_23 ?_
      refine lv_iload_n hx hb dX11_counts_24 rfl (lv_at hl 3 rfl) ?_
      refine lv_icmp_gt (tgt := 141) hx hb dX11_counts_25 (by decide) (fun c_1 => ?_) (fun c_1 => ?_)
      · have hres := it_of hres c_1
        exact hK141 x4 t_many H locs ls hres hP hD hS (lv_sub hl [0, 1, 2, 3, 4] rfl)
      · have hres := ie_of hres c_1
        refine lv_iload_n hx hb dX11_counts_28 rfl (lv_at hl 1 rfl) ?_
        refine lv_if_le (tgt := 141) hx hb dX11_counts_29 (by decide) (fun c_2 => ?_) (fun c_2 => ?_)
        · have hres := it_of hres c_2
          exact hK141 x4 t_many H locs ls hres hP hD hS (lv_sub hl [0, 1, 2, 3, 4] rfl)
        · have hres := ie_of hres c_2
          refine lv_iconst (v := (2 : Int32)) hx hb dX11_counts_32 (by decide) ?_
          refine lv_istore (lv' := [(7, .int (2 : Int32)), (0, .ref h_t), (1, .int x1), (2, .int x2), (3, .int x3), (4, .long x4), (6, .int x6)]) hx hb dX11_counts_33 hl (by decide) rfl (fun ls hl => ?_)
          exact hL35 FU x4 x6 (2 : Int32) t_many H locs ls hres hP hD hS (lv_sub hl [1, 2, 3, 4, 5, 6, 0] rfl)
  rw [fMD_counts] at hres
  refine lv_aload_n hx hb dX11_counts_0 rfl (lv_at hl 0 rfl) ?_
  refine va_get (D := (dC, dI)) (ci := 10) (v := .ref h_t_many) (C := RX11) (T := TX11) (N := 29) hx hb hts iMD_counts_X11_counts_1 hown hK hP 0 rfl rfl 10 (by decide) (hts _ kMD_counts_X11_counts_3) (fun _ h9 => h9) rfl dX11_counts_1 ?_
  refine lv_iload_n hx hb dX11_counts_4 rfl (lv_at hl 1 rfl) ?_
  refine lv_iload_n hx hb dX11_counts_5 rfl (lv_at hl 2 rfl) ?_
  refine lv_iconst (v := (1 : Int32)) hx hb dX11_counts_6 (by decide) ?_
  refine lv_iadd hx hb dX11_counts_7 ?_
  refine lv_iload_n hx hb dX11_counts_8 rfl (lv_at hl 3 rfl) ?_
  obtain ⟨o13, ho13, hres⟩ := bd_of hres
  have hPc := hP.sub (ws' := []) [] rfl
  have hDc := hD.sub (ws' := []) [] (by decide) rfl
  have hFc := va_free (wc := []) hD hS hA [] rfl
  refine va_calli (va_runS (As := [.int x1, .int (x2 + (1 : Int32)), .int x3]) (rest := [.ref h_t_many]) ⟨hx, hb, hml, hown, hts⟩ (cMD_part l dC dI cI cJ cC cS H.size x1 (x2 + (1 : Int32)) x3 o13 ho13) (va_cwS 3 hts gX11_counts_X11_part rfl rfl rfl (by decide +kernel) ⟨Nat.le_of_ble_eq_true rfl, Nat.le_of_ble_eq_true rfl⟩) ⟨fun a U g mk q => by obtain ⟨q0, q1, qP, qK, qN, qD⟩ := q; exact ⟨q0, q1, qP, va_K.moved (u := U) (U := U.calling g mk a) (Vm.Alike.refl U.vm) qK, nwS (u := U) (U := U.calling g mk a) rfl qN, qD⟩, fun U hU hW => ⟨rfl, by rw [hU], by rw [hU]; exact hPc, va_K.moved hW.alike hK, nwW hW hN, hDc.weaken (fun _ _ _ _ => trivial)⟩⟩ rfl rfl hl.1 rfl (lv_room (Nat.le_of_ble_eq_true rfl)) dX11_counts_9 ⟨Nat.zero_le _, Nat.zero_le _⟩) hS (fun q _ h => hFc q h) hFc (fun r9 u9 t H1 locs ht hvm hw hB hz1 hk1 hS => ?_)
  have hw := hw.symm
  subst hw
  obtain ⟨hP1, hK1, hD1⟩ := hB
  rw [ht] at hP1
  obtain ⟨hP, hD⟩ := va_join (wr := [(h_t, .inr (10, [.ref h_t_s, .ref h_t_was, .ref h_t_begun, .int t_states, .ref h_t_text, .int t_typed, .ref h_t_wrong, .ref h_t_cost, .ref h_t_first, .ref h_t_block, .ref h_t_many, .ref h_t_stack, .int t_height, .ref h_t_written, .int t_length, .ref h_t_own, .ref h_t_levelAt, .ref h_t_itemAt, .ref h_t_times, .int t_at, .int t_ownLength, .int t_depth, .int t_deepest, .int t_letters, .int t_repeats, .int t_corrections, .int t_mostCorrections, .int t_place, .int t_reason])), (h_t_many, .inl (cJ, 3125, .inr (.inl t_many))), (h_t_s, .inl (cI, 30, .inl t_s)), (h_t_wrong, .inl (cI, 15625, .inl t_wrong))]) (w1 := []) hP hD [] [0, 1, 2, 3] rfl rfl (by decide) (by decide) hk1 hFc hP1 hD1
  generalize H1 = H at hP hS ⊢
  have hP : va_P (dC, dI) vwCl [(h_t, .inr (10, [.ref h_t_s, .ref h_t_was, .ref h_t_begun, .int t_states, .ref h_t_text, .int t_typed, .ref h_t_wrong, .ref h_t_cost, .ref h_t_first, .ref h_t_block, .ref h_t_many, .ref h_t_stack, .int t_height, .ref h_t_written, .int t_length, .ref h_t_own, .ref h_t_levelAt, .ref h_t_itemAt, .ref h_t_times, .int t_at, .int t_ownLength, .int t_depth, .int t_deepest, .int t_letters, .int t_repeats, .int t_corrections, .int t_mostCorrections, .int t_place, .int t_reason])), (h_t_many, .inl (cJ, 3125, .inr (.inl t_many))), (h_t_s, .inl (cI, 30, .inl t_s)), (h_t_wrong, .inl (cI, 15625, .inl t_wrong))] H := hP
  have hD : va_D A [(h_t, .inr (10, [.ref h_t_s, .ref h_t_was, .ref h_t_begun, .int t_states, .ref h_t_text, .int t_typed, .ref h_t_wrong, .ref h_t_cost, .ref h_t_first, .ref h_t_block, .ref h_t_many, .ref h_t_stack, .int t_height, .ref h_t_written, .int t_length, .ref h_t_own, .ref h_t_levelAt, .ref h_t_itemAt, .ref h_t_times, .int t_at, .int t_ownLength, .int t_depth, .int t_deepest, .int t_letters, .int t_repeats, .int t_corrections, .int t_mostCorrections, .int t_place, .int t_reason])), (h_t_many, .inl (cJ, 3125, .inr (.inl t_many))), (h_t_s, .inl (cI, 30, .inl t_s)), (h_t_wrong, .inl (cI, 15625, .inl t_wrong))] := hD
  obtain ⟨c_14, hres⟩ := ck_of hres
  refine va_lald hx hb hK hP 1 1 rfl rfl c_14 dX11_counts_12 ?_
  refine lv_lstore (lv' := [(4, .long (rdL t_many o13)), (0, .ref h_t), (1, .int x1), (2, .int x2), (3, .int x3)]) hx hb dX11_counts_13 hl (by decide) rfl (fun ls hl => ?_)
  refine lv_iconst (v := (1 : Int32)) hx hb dX11_counts_15 (by decide) ?_
  refine lv_istore (lv' := [(6, .int (1 : Int32)), (4, .long (rdL t_many o13)), (0, .ref h_t), (1, .int x1), (2, .int x2), (3, .int x3)]) hx hb dX11_counts_16 hl (by decide) rfl (fun ls hl => ?_)
  exact hL18 FU (rdL t_many o13) (1 : Int32) t_many H locs ls hres hP hD hS (lv_sub hl [2, 3, 4, 5, 1, 0] rfl)

-- MD_cut
theorem kMD_cut_X11_cut_0 : Cond.fieldLink RX11 7 "RepeatNestsModel" "s" "[I" ∈ wsX11_cut := by decide +kernel
theorem iMD_cut_X11_cut_1 : ∀ w ∈ wsX110, w ∈ wsX11_cut := by decide +kernel
theorem kMD_cut_X11_cut_2 : Cond.constant RX11 74 (-1000002) ∈ wsX11_cut := by decide +kernel
theorem kMD_cut_X11_cut_3 : Cond.constant RX11 57 (-1000001) ∈ wsX11_cut := by decide +kernel
set_option maxHeartbeats 4000000 in
set_option maxRecDepth 100000 in
theorem cMD_cut (l : Launch) (dC : Nat → ClassId) (dI : Nat → Nat → Nat) (cI cJ cC cS : ClassId) (h_t h_t_s h_t_was h_t_begun h_t_text h_t_wrong h_t_cost h_t_first h_t_block h_t_many h_t_stack h_t_written h_t_own h_t_levelAt h_t_itemAt h_t_times : Nat) (sz : Nat) (t_states : Int32) (t_typed : Int32) (t_height : Int32) (t_length : Int32) (t_at : Int32) (t_ownLength : Int32) (t_depth : Int32) (t_deepest : Int32) (t_letters : Int32) (t_repeats : Int32) (t_corrections : Int32) (t_mostCorrections : Int32) (t_place : Int32) (t_reason : Int32) (t_begun : Nat → Int32) (t_s : Nat → Int32) (t_was : Nat → Int32) (x1 : Int32) (r : Int32) (y_t_states : Int32) (y_t_begun : Nat → Int32) (y_t_s : Nat → Int32) (y_t_was : Nat → Int32) (hres : fMD_cut t_states t_begun t_s t_was x1 = some (r, y_t_states, y_t_begun, y_t_s, y_t_was)) :
    Met l yX11_cut wsX11_cut ({ frames := 1, cells := 0, slots := 0, locals := 22 } : Room) (va_Pc [.ref h_t, .int x1] (fun (U : State) => U.heap.size = sz ∧ va_P (dC, dI) vwCl [(h_t, .inr (10, [.ref h_t_s, .ref h_t_was, .ref h_t_begun, .int t_states, .ref h_t_text, .int t_typed, .ref h_t_wrong, .ref h_t_cost, .ref h_t_first, .ref h_t_block, .ref h_t_many, .ref h_t_stack, .int t_height, .ref h_t_written, .int t_length, .ref h_t_own, .ref h_t_levelAt, .ref h_t_itemAt, .ref h_t_times, .int t_at, .int t_ownLength, .int t_depth, .int t_deepest, .int t_letters, .int t_repeats, .int t_corrections, .int t_mostCorrections, .int t_place, .int t_reason])), (h_t_begun, .inl (cI, 30, .inl t_begun)), (h_t_s, .inl (cI, 30, .inl t_s)), (h_t_was, .inl (cI, 120, .inl t_was))] U.heap ∧ va_K (dC, dI) vwCl (tyA cI cJ cC cS) U ∧ nwN U ∧ va_D (fun _ => True) [(h_t, .inr (10, [.ref h_t_s, .ref h_t_was, .ref h_t_begun, .int t_states, .ref h_t_text, .int t_typed, .ref h_t_wrong, .ref h_t_cost, .ref h_t_first, .ref h_t_block, .ref h_t_many, .ref h_t_stack, .int t_height, .ref h_t_written, .int t_length, .ref h_t_own, .ref h_t_levelAt, .ref h_t_itemAt, .ref h_t_times, .int t_at, .int t_ownLength, .int t_depth, .int t_deepest, .int t_letters, .int t_repeats, .int t_corrections, .int t_mostCorrections, .int t_place, .int t_reason])), (h_t_begun, .inl (cI, 30, .inl t_begun)), (h_t_s, .inl (cI, 30, .inl t_s)), (h_t_was, .inl (cI, 120, .inl t_was))])) (va_Qi (fun (r9 : Int32) (_ : Unit) => r9 = r) (fun (_ : Unit) (t : State) => va_P (dC, dI) vwCl [(h_t, .inr (10, [.ref h_t_s, .ref h_t_was, .ref h_t_begun, .int y_t_states, .ref h_t_text, .int t_typed, .ref h_t_wrong, .ref h_t_cost, .ref h_t_first, .ref h_t_block, .ref h_t_many, .ref h_t_stack, .int t_height, .ref h_t_written, .int t_length, .ref h_t_own, .ref h_t_levelAt, .ref h_t_itemAt, .ref h_t_times, .int t_at, .int t_ownLength, .int t_depth, .int t_deepest, .int t_letters, .int t_repeats, .int t_corrections, .int t_mostCorrections, .int t_place, .int t_reason])), (h_t_begun, .inl (cI, 30, .inl y_t_begun)), (h_t_s, .inl (cI, 30, .inl y_t_s)), (h_t_was, .inl (cI, 120, .inl y_t_was))] t.heap ∧ va_K (dC, dI) vwCl (tyA cI cJ cC cS) t ∧ va_D (va_A [(h_t, .inr (10, [.ref h_t_s, .ref h_t_was, .ref h_t_begun, .int t_states, .ref h_t_text, .int t_typed, .ref h_t_wrong, .ref h_t_cost, .ref h_t_first, .ref h_t_block, .ref h_t_many, .ref h_t_stack, .int t_height, .ref h_t_written, .int t_length, .ref h_t_own, .ref h_t_levelAt, .ref h_t_itemAt, .ref h_t_times, .int t_at, .int t_ownLength, .int t_depth, .int t_deepest, .int t_letters, .int t_repeats, .int t_corrections, .int t_mostCorrections, .int t_place, .int t_reason])), (h_t_begun, .inl (cI, 30, .inl t_begun)), (h_t_s, .inl (cI, 30, .inl t_s)), (h_t_was, .inl (cI, 120, .inl t_was))] sz) [(h_t, .inr (10, [.ref h_t_s, .ref h_t_was, .ref h_t_begun, .int y_t_states, .ref h_t_text, .int t_typed, .ref h_t_wrong, .ref h_t_cost, .ref h_t_first, .ref h_t_block, .ref h_t_many, .ref h_t_stack, .int t_height, .ref h_t_written, .int t_length, .ref h_t_own, .ref h_t_levelAt, .ref h_t_itemAt, .ref h_t_times, .int t_at, .int t_ownLength, .int t_depth, .int t_deepest, .int t_letters, .int t_repeats, .int t_corrections, .int t_mostCorrections, .int t_place, .int t_reason])), (h_t_begun, .inl (cI, 30, .inl y_t_begun)), (h_t_s, .inl (cI, 30, .inl y_t_s)), (h_t_was, .inl (cI, 120, .inl y_t_was))]) (va_A [(h_t, .inr (10, [.ref h_t_s, .ref h_t_was, .ref h_t_begun, .int t_states, .ref h_t_text, .int t_typed, .ref h_t_wrong, .ref h_t_cost, .ref h_t_first, .ref h_t_block, .ref h_t_many, .ref h_t_stack, .int t_height, .ref h_t_written, .int t_length, .ref h_t_own, .ref h_t_levelAt, .ref h_t_itemAt, .ref h_t_times, .int t_at, .int t_ownLength, .int t_depth, .int t_deepest, .int t_letters, .int t_repeats, .int t_corrections, .int t_mostCorrections, .int t_place, .int t_reason])), (h_t_begun, .inl (cI, 30, .inl t_begun)), (h_t_s, .inl (cI, 30, .inl t_s)), (h_t_was, .inl (cI, 120, .inl t_was))] sz)) 0 0 (va_A [(h_t, .inr (10, [.ref h_t_s, .ref h_t_was, .ref h_t_begun, .int t_states, .ref h_t_text, .int t_typed, .ref h_t_wrong, .ref h_t_cost, .ref h_t_first, .ref h_t_block, .ref h_t_many, .ref h_t_stack, .int t_height, .ref h_t_written, .int t_length, .ref h_t_own, .ref h_t_levelAt, .ref h_t_itemAt, .ref h_t_times, .int t_at, .int t_ownLength, .int t_depth, .int t_deepest, .int t_letters, .int t_repeats, .int t_corrections, .int t_mostCorrections, .int t_place, .int t_reason])), (h_t_begun, .inl (cI, 30, .inl t_begun)), (h_t_s, .inl (cI, 30, .inl t_s)), (h_t_was, .inl (cI, 120, .inl t_was))] sz) := by
  refine Met.ofW (cc := cX11_cut) (maxL := 2) (ret := (some .int)) (by decide) rfl ?_
  intro p e s m args below meth c s₁ B hml hv
  obtain ⟨hargs, hsz, hP, hK, hN, hD0⟩ := hv
  have hx := B.exec
  have hb := B.bytes
  have hr := B.returns
  have hts := atoms_spec (ws := wsX11_cut) B.pre
  have hown : s.vm.findClass RX11 = some m.cls := findClass_of_methodNamed B.named
  have hlocks := B.notSynchronized
  subst hsz
  have hD := hD0.self (sz := s.heap.size)
  generalize hAe : va_A [(h_t, .inr (10, [.ref h_t_s, .ref h_t_was, .ref h_t_begun, .int t_states, .ref h_t_text, .int t_typed, .ref h_t_wrong, .ref h_t_cost, .ref h_t_first, .ref h_t_block, .ref h_t_many, .ref h_t_stack, .int t_height, .ref h_t_written, .int t_length, .ref h_t_own, .ref h_t_levelAt, .ref h_t_itemAt, .ref h_t_times, .int t_at, .int t_ownLength, .int t_depth, .int t_deepest, .int t_letters, .int t_repeats, .int t_corrections, .int t_mostCorrections, .int t_place, .int t_reason])), (h_t_begun, .inl (cI, 30, .inl t_begun)), (h_t_s, .inl (cI, 30, .inl t_s)), (h_t_was, .inl (cI, 120, .inl t_was))] s.heap.size = A at hD ⊢
  have hA : ∀ q : Nat, s.heap.size ≤ q → A q := fun q h => by rw [← hAe]; exact Or.inr h
  have hS : va_S A s.heap s.heap [] := va_S.rf
  have hP : va_P (dC, dI) vwCl [(h_t, .inr (10, [.ref h_t_s, .ref h_t_was, .ref h_t_begun, .int t_states, .ref h_t_text, .int t_typed, .ref h_t_wrong, .ref h_t_cost, .ref h_t_first, .ref h_t_block, .ref h_t_many, .ref h_t_stack, .int t_height, .ref h_t_written, .int t_length, .ref h_t_own, .ref h_t_levelAt, .ref h_t_itemAt, .ref h_t_times, .int t_at, .int t_ownLength, .int t_depth, .int t_deepest, .int t_letters, .int t_repeats, .int t_corrections, .int t_mostCorrections, .int t_place, .int t_reason])), (h_t_begun, .inl (cI, 30, .inl t_begun)), (h_t_s, .inl (cI, 30, .inl t_s)), (h_t_was, .inl (cI, 120, .inl t_was))] s.heap := hP
  have hl := lv_entry [.ref h_t, .int x1] (n := 2) (Nat.le_of_ble_eq_true rfl)
  rw [show entryFrame m args 2 = entryFrame m ([.ref h_t, .int x1] : List Value).toArray 2 from by rw [hargs], lg_entry_eq]
  generalize (lg_sl [.ref h_t, .int x1] ++ List.replicate (2 - (lg_sl [.ref h_t, .int x1]).length) Slot.unset).toArray = ls at hl ⊢
  have hl : lv_has ls 2 [(0, .ref h_t), (1, .int x1)] := hl
  generalize hQQ : MQ below (va_Qi (fun (r9 : Int32) (_ : Unit) => r9 = r) (fun (_ : Unit) (t : State) => va_P (dC, dI) vwCl [(h_t, .inr (10, [.ref h_t_s, .ref h_t_was, .ref h_t_begun, .int y_t_states, .ref h_t_text, .int t_typed, .ref h_t_wrong, .ref h_t_cost, .ref h_t_first, .ref h_t_block, .ref h_t_many, .ref h_t_stack, .int t_height, .ref h_t_written, .int t_length, .ref h_t_own, .ref h_t_levelAt, .ref h_t_itemAt, .ref h_t_times, .int t_at, .int t_ownLength, .int t_depth, .int t_deepest, .int t_letters, .int t_repeats, .int t_corrections, .int t_mostCorrections, .int t_place, .int t_reason])), (h_t_begun, .inl (cI, 30, .inl y_t_begun)), (h_t_s, .inl (cI, 30, .inl y_t_s)), (h_t_was, .inl (cI, 120, .inl y_t_was))] t.heap ∧ va_K (dC, dI) vwCl (tyA cI cJ cC cS) t ∧ va_D A [(h_t, .inr (10, [.ref h_t_s, .ref h_t_was, .ref h_t_begun, .int y_t_states, .ref h_t_text, .int t_typed, .ref h_t_wrong, .ref h_t_cost, .ref h_t_first, .ref h_t_block, .ref h_t_many, .ref h_t_stack, .int t_height, .ref h_t_written, .int t_length, .ref h_t_own, .ref h_t_levelAt, .ref h_t_itemAt, .ref h_t_times, .int t_at, .int t_ownLength, .int t_depth, .int t_deepest, .int t_letters, .int t_repeats, .int t_corrections, .int t_mostCorrections, .int t_place, .int t_reason])), (h_t_begun, .inl (cI, 30, .inl y_t_begun)), (h_t_s, .inl (cI, 30, .inl y_t_s)), (h_t_was, .inl (cI, 120, .inl y_t_was))]) A) args s 0 0 A = QQ
  obtain ⟨H, hH⟩ : ∃ H : Heap, H = s.heap := ⟨_, rfl⟩
  obtain ⟨locs, hlocs⟩ : ∃ locs : List Loc, locs = [] := ⟨_, rfl⟩
  rw [← hH] at hP
  have hS : va_S A s.heap H locs := by rw [hH, hlocs]; exact hS
  suffices hZ : W p l e (headSpec wsX11_cut ({ frames := 1, cells := 0, slots := 0, locals := 22 } : Room)).room s m args below meth c H locs 0 0 QQ (F0 m 0 ls []) by rw [hH, hlocs] at hZ; exact hZ
  clear hH hlocs
  rw [fMD_cut] at hres
  refine lv_iload_n hx hb dX11_cut_0 rfl (lv_at hl 1 rfl) ?_
  refine lv_iconst (v := (1 : Int32)) hx hb dX11_cut_1 (by decide) ?_
  refine lv_bipush (v := (24 : Int32)) hx hb dX11_cut_2 (by decide) ?_
  obtain ⟨o1, ho1, hres⟩ := bd_of hres
  have hPc := hP.sub (ws' := []) [] rfl
  have hDc := hD.sub (ws' := []) [] (by decide) rfl
  have hFc := va_free (wc := []) hD hS hA [] rfl
  refine va_calli (va_runS (As := [.int x1, .int (1 : Int32), .int (24 : Int32)]) (rest := []) ⟨hx, hb, hml, hown, hts⟩ (cMD_in l dC dI cI cJ cC cS H.size x1 (1 : Int32) (24 : Int32) o1 ho1) (va_cwS 3 hts gX11_cut_X11_in rfl rfl rfl (by decide +kernel) ⟨Nat.le_of_ble_eq_true rfl, Nat.le_of_ble_eq_true rfl⟩) ⟨fun a U g mk q => by obtain ⟨q0, q1, qP, qK, qN, qD⟩ := q; exact ⟨q0, q1, qP, va_K.moved (u := U) (U := U.calling g mk a) (Vm.Alike.refl U.vm) qK, nwS (u := U) (U := U.calling g mk a) rfl qN, qD⟩, fun U hU hW => ⟨rfl, by rw [hU], by rw [hU]; exact hPc, va_K.moved hW.alike hK, nwW hW hN, hDc.weaken (fun _ _ _ _ => trivial)⟩⟩ rfl rfl hl.1 rfl (lv_room (Nat.le_of_ble_eq_true rfl)) dX11_cut_4 ⟨Nat.zero_le _, Nat.zero_le _⟩) hS (fun q _ h => hFc q h) hFc (fun r9 u9 t H1 locs ht hvm hw hB hz1 hk1 hS => ?_)
  have hw := hw.symm
  subst hw
  obtain ⟨hP1, hK1, hD1⟩ := hB
  rw [ht] at hP1
  obtain ⟨hP, hD⟩ := va_join (wr := [(h_t, .inr (10, [.ref h_t_s, .ref h_t_was, .ref h_t_begun, .int t_states, .ref h_t_text, .int t_typed, .ref h_t_wrong, .ref h_t_cost, .ref h_t_first, .ref h_t_block, .ref h_t_many, .ref h_t_stack, .int t_height, .ref h_t_written, .int t_length, .ref h_t_own, .ref h_t_levelAt, .ref h_t_itemAt, .ref h_t_times, .int t_at, .int t_ownLength, .int t_depth, .int t_deepest, .int t_letters, .int t_repeats, .int t_corrections, .int t_mostCorrections, .int t_place, .int t_reason])), (h_t_begun, .inl (cI, 30, .inl t_begun)), (h_t_s, .inl (cI, 30, .inl t_s)), (h_t_was, .inl (cI, 120, .inl t_was))]) (w1 := []) hP hD [] [0, 1, 2, 3] rfl rfl (by decide) (by decide) hk1 hFc hP1 hD1
  generalize H1 = H at hP hS ⊢
  have hP : va_P (dC, dI) vwCl [(h_t, .inr (10, [.ref h_t_s, .ref h_t_was, .ref h_t_begun, .int t_states, .ref h_t_text, .int t_typed, .ref h_t_wrong, .ref h_t_cost, .ref h_t_first, .ref h_t_block, .ref h_t_many, .ref h_t_stack, .int t_height, .ref h_t_written, .int t_length, .ref h_t_own, .ref h_t_levelAt, .ref h_t_itemAt, .ref h_t_times, .int t_at, .int t_ownLength, .int t_depth, .int t_deepest, .int t_letters, .int t_repeats, .int t_corrections, .int t_mostCorrections, .int t_place, .int t_reason])), (h_t_begun, .inl (cI, 30, .inl t_begun)), (h_t_s, .inl (cI, 30, .inl t_s)), (h_t_was, .inl (cI, 120, .inl t_was))] H := hP
  have hD : va_D A [(h_t, .inr (10, [.ref h_t_s, .ref h_t_was, .ref h_t_begun, .int t_states, .ref h_t_text, .int t_typed, .ref h_t_wrong, .ref h_t_cost, .ref h_t_first, .ref h_t_block, .ref h_t_many, .ref h_t_stack, .int t_height, .ref h_t_written, .int t_length, .ref h_t_own, .ref h_t_levelAt, .ref h_t_itemAt, .ref h_t_times, .int t_at, .int t_ownLength, .int t_depth, .int t_deepest, .int t_letters, .int t_repeats, .int t_corrections, .int t_mostCorrections, .int t_place, .int t_reason])), (h_t_begun, .inl (cI, 30, .inl t_begun)), (h_t_s, .inl (cI, 30, .inl t_s)), (h_t_was, .inl (cI, 120, .inl t_was))] := hD
  refine lv_if_ne (tgt := 13) hx hb dX11_cut_7 (by decide) (fun c_2 => ?_) (fun c_2 => ?_)
  · have hres := ie_of hres c_2
    refine lv_iload_n hx hb dX11_cut_13 rfl (lv_at hl 1 rfl) ?_
    refine lv_aload_n hx hb dX11_cut_14 rfl (lv_at hl 0 rfl) ?_
    refine va_get (D := (dC, dI)) (ci := 10) (v := .ref h_t_s) (C := RX11) (T := TX11) (N := 29) hx hb hts iMD_cut_X11_cut_1 hown hK hP 0 rfl rfl 0 (by decide) (hts _ kMD_cut_X11_cut_0) (fun _ h9 => h9) rfl dX11_cut_15 ?_
    refine lv_iconst (v := (0 : Int32)) hx hb dX11_cut_18 (by decide) ?_
    refine va_iald hx hb hK hP 2 0 rfl rfl (vin (by decide)) dX11_cut_19 ?_
    refine lv_icmp_le (tgt := 26) hx hb dX11_cut_20 (by decide) (fun c_3 => ?_) (fun c_3 => ?_)
    · have hres := it_of hres c_3
      refine lv_aload_n hx hb dX11_cut_26 rfl (lv_at hl 0 rfl) ?_
      obtain ⟨o4, ho4, hres⟩ := bd_of hres
      have hPc := hP.sub (ws' := [(h_t, .inr (10, [.ref h_t_s, .ref h_t_was, .ref h_t_begun, .int t_states, .ref h_t_text, .int t_typed, .ref h_t_wrong, .ref h_t_cost, .ref h_t_first, .ref h_t_block, .ref h_t_many, .ref h_t_stack, .int t_height, .ref h_t_written, .int t_length, .ref h_t_own, .ref h_t_levelAt, .ref h_t_itemAt, .ref h_t_times, .int t_at, .int t_ownLength, .int t_depth, .int t_deepest, .int t_letters, .int t_repeats, .int t_corrections, .int t_mostCorrections, .int t_place, .int t_reason])), (h_t_begun, .inl (cI, 30, .inl t_begun)), (h_t_s, .inl (cI, 30, .inl t_s))]) [0, 1, 2] rfl
      have hDc := hD.sub (ws' := [(h_t, .inr (10, [.ref h_t_s, .ref h_t_was, .ref h_t_begun, .int t_states, .ref h_t_text, .int t_typed, .ref h_t_wrong, .ref h_t_cost, .ref h_t_first, .ref h_t_block, .ref h_t_many, .ref h_t_stack, .int t_height, .ref h_t_written, .int t_length, .ref h_t_own, .ref h_t_levelAt, .ref h_t_itemAt, .ref h_t_times, .int t_at, .int t_ownLength, .int t_depth, .int t_deepest, .int t_letters, .int t_repeats, .int t_corrections, .int t_mostCorrections, .int t_place, .int t_reason])), (h_t_begun, .inl (cI, 30, .inl t_begun)), (h_t_s, .inl (cI, 30, .inl t_s))]) [0, 1, 2] (by decide) rfl
      have hFc := va_free (wc := [(h_t, .inr (10, [.ref h_t_s, .ref h_t_was, .ref h_t_begun, .int t_states, .ref h_t_text, .int t_typed, .ref h_t_wrong, .ref h_t_cost, .ref h_t_first, .ref h_t_block, .ref h_t_many, .ref h_t_stack, .int t_height, .ref h_t_written, .int t_length, .ref h_t_own, .ref h_t_levelAt, .ref h_t_itemAt, .ref h_t_times, .int t_at, .int t_ownLength, .int t_depth, .int t_deepest, .int t_letters, .int t_repeats, .int t_corrections, .int t_mostCorrections, .int t_place, .int t_reason])), (h_t_begun, .inl (cI, 30, .inl t_begun)), (h_t_s, .inl (cI, 30, .inl t_s))]) hD hS hA [0, 1, 2] rfl
      refine va_callv (va_runV (As := []) (rest := []) ⟨hx, hb, hml, hown, hts⟩ (cMD_keeps l dC dI cI cJ cC cS h_t h_t_s h_t_was h_t_begun h_t_text h_t_wrong h_t_cost h_t_first h_t_block h_t_many h_t_stack h_t_written h_t_own h_t_levelAt h_t_itemAt h_t_times H.size t_states t_typed t_height t_length t_at t_ownLength t_depth t_deepest t_letters t_repeats t_corrections t_mostCorrections t_place t_reason t_begun t_s o4 ho4) (cwV 0 hts gX11_cut_X11_keeps rfl rfl rfl (by decide +kernel) ⟨Nat.le_of_ble_eq_true rfl, Nat.le_of_ble_eq_true rfl⟩) ⟨fun a U g mk q => by obtain ⟨q0, q1, qP, qK, qN, qD⟩ := q; exact ⟨q0, q1, qP, va_K.moved (u := U) (U := U.calling g mk a) (Vm.Alike.refl U.vm) qK, nwS (u := U) (U := U.calling g mk a) rfl qN, qD⟩, va_recv hK hPc (ci := 10) (q0 := 0) rfl rfl, fun U hU hW => ⟨rfl, by rw [hU], by rw [hU]; exact hPc, va_K.moved hW.alike hK, nwW hW hN, hDc.weaken (fun _ _ _ _ => trivial)⟩⟩ rfl rfl hl.1 rfl (lv_room (Nat.le_of_ble_eq_true rfl)) dX11_cut_27 ⟨Nat.zero_le _, Nat.zero_le _⟩) hS (fun q _ h => hFc q h) hFc (fun u9 t H1 locs ht hvm hw hB hz1 hk1 hS => ?_)
      obtain ⟨hP1, hK1, hD1⟩ := hB
      rw [ht] at hP1
      obtain ⟨hP, hD⟩ := va_join (wr := [(h_t_was, .inl (cI, 120, .inl t_was))]) (w1 := [(h_t, .inr (10, [.ref h_t_s, .ref h_t_was, .ref h_t_begun, .int t_states, .ref h_t_text, .int t_typed, .ref h_t_wrong, .ref h_t_cost, .ref h_t_first, .ref h_t_block, .ref h_t_many, .ref h_t_stack, .int t_height, .ref h_t_written, .int t_length, .ref h_t_own, .ref h_t_levelAt, .ref h_t_itemAt, .ref h_t_times, .int t_at, .int t_ownLength, .int t_depth, .int t_deepest, .int t_letters, .int t_repeats, .int t_corrections, .int t_mostCorrections, .int t_place, .int t_reason])), (h_t_begun, .inl (cI, 30, .inl o4)), (h_t_s, .inl (cI, 30, .inl t_s))]) hP hD [0, 1, 2] [3] rfl rfl (by decide) (by decide) hk1 hFc hP1 hD1
      generalize H1 = H at hP hS ⊢
      have hP : va_P (dC, dI) vwCl [(h_t_was, .inl (cI, 120, .inl t_was)), (h_t, .inr (10, [.ref h_t_s, .ref h_t_was, .ref h_t_begun, .int t_states, .ref h_t_text, .int t_typed, .ref h_t_wrong, .ref h_t_cost, .ref h_t_first, .ref h_t_block, .ref h_t_many, .ref h_t_stack, .int t_height, .ref h_t_written, .int t_length, .ref h_t_own, .ref h_t_levelAt, .ref h_t_itemAt, .ref h_t_times, .int t_at, .int t_ownLength, .int t_depth, .int t_deepest, .int t_letters, .int t_repeats, .int t_corrections, .int t_mostCorrections, .int t_place, .int t_reason])), (h_t_begun, .inl (cI, 30, .inl o4)), (h_t_s, .inl (cI, 30, .inl t_s))] H := hP
      have hD : va_D A [(h_t_was, .inl (cI, 120, .inl t_was)), (h_t, .inr (10, [.ref h_t_s, .ref h_t_was, .ref h_t_begun, .int t_states, .ref h_t_text, .int t_typed, .ref h_t_wrong, .ref h_t_cost, .ref h_t_first, .ref h_t_block, .ref h_t_many, .ref h_t_stack, .int t_height, .ref h_t_written, .int t_length, .ref h_t_own, .ref h_t_levelAt, .ref h_t_itemAt, .ref h_t_times, .int t_at, .int t_ownLength, .int t_depth, .int t_deepest, .int t_letters, .int t_repeats, .int t_corrections, .int t_mostCorrections, .int t_place, .int t_reason])), (h_t_begun, .inl (cI, 30, .inl o4)), (h_t_s, .inl (cI, 30, .inl t_s))] := hD
      refine lv_aload_n hx hb dX11_cut_30 rfl (lv_at hl 0 rfl) ?_
      refine va_get (D := (dC, dI)) (ci := 10) (v := .ref h_t_s) (C := RX11) (T := TX11) (N := 29) hx hb hts iMD_cut_X11_cut_1 hown hK hP 1 rfl rfl 0 (by decide) (hts _ kMD_cut_X11_cut_0) (fun _ h9 => h9) rfl dX11_cut_31 ?_
      refine lv_iconst (v := (0 : Int32)) hx hb dX11_cut_34 (by decide) ?_
      refine lv_dup2_11 hx hb dX11_cut_35 rfl rfl ?_
      refine va_iald hx hb hK hP 3 0 rfl rfl (vin (by decide)) dX11_cut_36 ?_
      refine lv_iload_n hx hb dX11_cut_37 rfl (lv_at hl 1 rfl) ?_
      refine lv_isub hx hb dX11_cut_38 ?_
      refine va_iast hx hb hK hP hD hS 3 0 rfl rfl (vin (by decide)) dX11_cut_39 (fun H locs hP hD hS => ?_)
      have hP : va_P (dC, dI) vwCl [(h_t_was, .inl (cI, 120, .inl t_was)), (h_t, .inr (10, [.ref h_t_s, .ref h_t_was, .ref h_t_begun, .int t_states, .ref h_t_text, .int t_typed, .ref h_t_wrong, .ref h_t_cost, .ref h_t_first, .ref h_t_block, .ref h_t_many, .ref h_t_stack, .int t_height, .ref h_t_written, .int t_length, .ref h_t_own, .ref h_t_levelAt, .ref h_t_itemAt, .ref h_t_times, .int t_at, .int t_ownLength, .int t_depth, .int t_deepest, .int t_letters, .int t_repeats, .int t_corrections, .int t_mostCorrections, .int t_place, .int t_reason])), (h_t_begun, .inl (cI, 30, .inl o4)), (h_t_s, .inl (cI, 30, .inl (wr t_s (0 : Int32) ((rd t_s (0 : Int32)) - x1))))] H := hP
      have hD : va_D A [(h_t_was, .inl (cI, 120, .inl t_was)), (h_t, .inr (10, [.ref h_t_s, .ref h_t_was, .ref h_t_begun, .int t_states, .ref h_t_text, .int t_typed, .ref h_t_wrong, .ref h_t_cost, .ref h_t_first, .ref h_t_block, .ref h_t_many, .ref h_t_stack, .int t_height, .ref h_t_written, .int t_length, .ref h_t_own, .ref h_t_levelAt, .ref h_t_itemAt, .ref h_t_times, .int t_at, .int t_ownLength, .int t_depth, .int t_deepest, .int t_letters, .int t_repeats, .int t_corrections, .int t_mostCorrections, .int t_place, .int t_reason])), (h_t_begun, .inl (cI, 30, .inl o4)), (h_t_s, .inl (cI, 30, .inl (wr t_s (0 : Int32) ((rd t_s (0 : Int32)) - x1))))] := hD
      refine lv_aload_n hx hb dX11_cut_40 rfl (lv_at hl 0 rfl) ?_
      refine lv_aload_n hx hb dX11_cut_41 rfl (lv_at hl 0 rfl) ?_
      refine va_get (D := (dC, dI)) (ci := 10) (v := .ref h_t_s) (C := RX11) (T := TX11) (N := 29) hx hb hts iMD_cut_X11_cut_1 hown hK hP 1 rfl rfl 0 (by decide) (hts _ kMD_cut_X11_cut_0) (fun _ h9 => h9) rfl dX11_cut_42 ?_
      refine lv_iconst (v := (0 : Int32)) hx hb dX11_cut_45 (by decide) ?_
      refine va_iald hx hb hK hP 3 0 rfl rfl (vin (by decide)) dX11_cut_46 ?_
      obtain ⟨o5, ho5, hres⟩ := bd_of hres
      have hPc := hP.sub (ws' := [(h_t, .inr (10, [.ref h_t_s, .ref h_t_was, .ref h_t_begun, .int t_states, .ref h_t_text, .int t_typed, .ref h_t_wrong, .ref h_t_cost, .ref h_t_first, .ref h_t_block, .ref h_t_many, .ref h_t_stack, .int t_height, .ref h_t_written, .int t_length, .ref h_t_own, .ref h_t_levelAt, .ref h_t_itemAt, .ref h_t_times, .int t_at, .int t_ownLength, .int t_depth, .int t_deepest, .int t_letters, .int t_repeats, .int t_corrections, .int t_mostCorrections, .int t_place, .int t_reason])), (h_t_begun, .inl (cI, 30, .inl o4)), (h_t_was, .inl (cI, 120, .inl t_was))]) [1, 2, 0] rfl
      have hDc := hD.sub (ws' := [(h_t, .inr (10, [.ref h_t_s, .ref h_t_was, .ref h_t_begun, .int t_states, .ref h_t_text, .int t_typed, .ref h_t_wrong, .ref h_t_cost, .ref h_t_first, .ref h_t_block, .ref h_t_many, .ref h_t_stack, .int t_height, .ref h_t_written, .int t_length, .ref h_t_own, .ref h_t_levelAt, .ref h_t_itemAt, .ref h_t_times, .int t_at, .int t_ownLength, .int t_depth, .int t_deepest, .int t_letters, .int t_repeats, .int t_corrections, .int t_mostCorrections, .int t_place, .int t_reason])), (h_t_begun, .inl (cI, 30, .inl o4)), (h_t_was, .inl (cI, 120, .inl t_was))]) [1, 2, 0] (by decide) rfl
      have hFc := va_free (wc := [(h_t, .inr (10, [.ref h_t_s, .ref h_t_was, .ref h_t_begun, .int t_states, .ref h_t_text, .int t_typed, .ref h_t_wrong, .ref h_t_cost, .ref h_t_first, .ref h_t_block, .ref h_t_many, .ref h_t_stack, .int t_height, .ref h_t_written, .int t_length, .ref h_t_own, .ref h_t_levelAt, .ref h_t_itemAt, .ref h_t_times, .int t_at, .int t_ownLength, .int t_depth, .int t_deepest, .int t_letters, .int t_repeats, .int t_corrections, .int t_mostCorrections, .int t_place, .int t_reason])), (h_t_begun, .inl (cI, 30, .inl o4)), (h_t_was, .inl (cI, 120, .inl t_was))]) hD hS hA [1, 2, 0] rfl
      refine va_calli (va_runV (As := [.int (rd (wr t_s (0 : Int32) ((rd t_s (0 : Int32)) - x1)) (0 : Int32))]) (rest := []) ⟨hx, hb, hml, hown, hts⟩ (cMD_acted l dC dI cI cJ cC cS h_t h_t_s h_t_was h_t_begun h_t_text h_t_wrong h_t_cost h_t_first h_t_block h_t_many h_t_stack h_t_written h_t_own h_t_levelAt h_t_itemAt h_t_times H.size t_states t_typed t_height t_length t_at t_ownLength t_depth t_deepest t_letters t_repeats t_corrections t_mostCorrections t_place t_reason o4 t_was (rd (wr t_s (0 : Int32) ((rd t_s (0 : Int32)) - x1)) (0 : Int32)) o5.1 o5.2.1 o5.2.2 ho5) (cwV 1 hts gX11_cut_X11_acted rfl rfl rfl (by decide +kernel) ⟨Nat.le_of_ble_eq_true rfl, Nat.le_of_ble_eq_true rfl⟩) ⟨fun a U g mk q => by obtain ⟨q0, q1, qP, qK, qN, qD⟩ := q; exact ⟨q0, q1, qP, va_K.moved (u := U) (U := U.calling g mk a) (Vm.Alike.refl U.vm) qK, nwS (u := U) (U := U.calling g mk a) rfl qN, qD⟩, va_recv hK hPc (ci := 10) (q0 := 0) rfl rfl, fun U hU hW => ⟨rfl, by rw [hU], by rw [hU]; exact hPc, va_K.moved hW.alike hK, nwW hW hN, hDc.weaken (fun _ _ _ _ => trivial)⟩⟩ rfl rfl hl.1 rfl (lv_room (Nat.le_of_ble_eq_true rfl)) dX11_cut_47 ⟨Nat.zero_le _, Nat.zero_le _⟩) hS (fun q _ h => hFc q h) hFc (fun r9 u9 t H1 locs ht hvm hw hB hz1 hk1 hS => ?_)
      have hw := hw.symm
      subst hw
      obtain ⟨hP1, hK1, hD1⟩ := hB
      rw [ht] at hP1
      obtain ⟨hP, hD⟩ := va_join (wr := [(h_t_s, .inl (cI, 30, .inl (wr t_s (0 : Int32) ((rd t_s (0 : Int32)) - x1))))]) (w1 := [(h_t, .inr (10, [.ref h_t_s, .ref h_t_was, .ref h_t_begun, .int o5.2.1, .ref h_t_text, .int t_typed, .ref h_t_wrong, .ref h_t_cost, .ref h_t_first, .ref h_t_block, .ref h_t_many, .ref h_t_stack, .int t_height, .ref h_t_written, .int t_length, .ref h_t_own, .ref h_t_levelAt, .ref h_t_itemAt, .ref h_t_times, .int t_at, .int t_ownLength, .int t_depth, .int t_deepest, .int t_letters, .int t_repeats, .int t_corrections, .int t_mostCorrections, .int t_place, .int t_reason])), (h_t_begun, .inl (cI, 30, .inl o4)), (h_t_was, .inl (cI, 120, .inl o5.2.2))]) hP hD [1, 2, 0] [3] rfl rfl (by decide) (by decide) hk1 hFc hP1 hD1
      generalize H1 = H at hP hS ⊢
      have hP : va_P (dC, dI) vwCl [(h_t_s, .inl (cI, 30, .inl (wr t_s (0 : Int32) ((rd t_s (0 : Int32)) - x1)))), (h_t, .inr (10, [.ref h_t_s, .ref h_t_was, .ref h_t_begun, .int o5.2.1, .ref h_t_text, .int t_typed, .ref h_t_wrong, .ref h_t_cost, .ref h_t_first, .ref h_t_block, .ref h_t_many, .ref h_t_stack, .int t_height, .ref h_t_written, .int t_length, .ref h_t_own, .ref h_t_levelAt, .ref h_t_itemAt, .ref h_t_times, .int t_at, .int t_ownLength, .int t_depth, .int t_deepest, .int t_letters, .int t_repeats, .int t_corrections, .int t_mostCorrections, .int t_place, .int t_reason])), (h_t_begun, .inl (cI, 30, .inl o4)), (h_t_was, .inl (cI, 120, .inl o5.2.2))] H := hP
      have hD : va_D A [(h_t_s, .inl (cI, 30, .inl (wr t_s (0 : Int32) ((rd t_s (0 : Int32)) - x1)))), (h_t, .inr (10, [.ref h_t_s, .ref h_t_was, .ref h_t_begun, .int o5.2.1, .ref h_t_text, .int t_typed, .ref h_t_wrong, .ref h_t_cost, .ref h_t_first, .ref h_t_block, .ref h_t_many, .ref h_t_stack, .int t_height, .ref h_t_written, .int t_length, .ref h_t_own, .ref h_t_levelAt, .ref h_t_itemAt, .ref h_t_times, .int t_at, .int t_ownLength, .int t_depth, .int t_deepest, .int t_letters, .int t_repeats, .int t_corrections, .int t_mostCorrections, .int t_place, .int t_reason])), (h_t_begun, .inl (cI, 30, .inl o4)), (h_t_was, .inl (cI, 120, .inl o5.2.2))] := hD
      obtain ⟨e9_0, e9_1, e9_2, e9_3, e9_4⟩ := tup5 hres
      subst e9_0
      subst e9_1
      subst e9_2
      subst e9_3
      subst e9_4
      rw [← hQQ]
      exact W.iret (v := o5.1) hx hb hr (fun t ht hW => ⟨⟨o5.1, (), rfl, rfl, by rw [ht]; exact hP.sub [1, 2, 0, 3] rfl, va_K.moved hW.alike hK, hD.sub [1, 2, 0, 3] (by decide) rfl⟩, hS.F ht⟩) hS.2.2 dX11_cut_50
    · have hres := ie_of hres c_3
      refine lv_ldc (v := (-1000002 : Int32)) hx hb hown (hts _ kMD_cut_X11_cut_2) dX11_cut_23 ?_
      obtain ⟨e9_0, e9_1, e9_2, e9_3, e9_4⟩ := tup5 hres
      subst e9_0
      subst e9_1
      subst e9_2
      subst e9_3
      subst e9_4
      rw [← hQQ]
      exact W.iret (v := (-1000002 : Int32)) hx hb hr (fun t ht hW => ⟨⟨(-1000002 : Int32), (), rfl, rfl, by rw [ht]; exact hP, va_K.moved hW.alike hK, hD⟩, hS.F ht⟩) hS.2.2 dX11_cut_25
  · have hres := it_of hres c_2
    refine lv_ldc (v := (-1000001 : Int32)) hx hb hown (hts _ kMD_cut_X11_cut_3) dX11_cut_10 ?_
    obtain ⟨e9_0, e9_1, e9_2, e9_3, e9_4⟩ := tup5 hres
    subst e9_0
    subst e9_1
    subst e9_2
    subst e9_3
    subst e9_4
    rw [← hQQ]
    exact W.iret (v := (-1000001 : Int32)) hx hb hr (fun t ht hW => ⟨⟨(-1000001 : Int32), (), rfl, rfl, by rw [ht]; exact hP, va_K.moved hW.alike hK, hD⟩, hS.F ht⟩) hS.2.2 dX11_cut_12

-- MD_descriptions
theorem kMD_descriptions_X11_descriptions_0 : Cond.fieldLink RX11 7 "RepeatNestsModel" "s" "[I" ∈ wsX11_descriptions := by decide +kernel
theorem iMD_descriptions_X11_descriptions_1 : ∀ w ∈ wsX110, w ∈ wsX11_descriptions := by decide +kernel
theorem kMD_descriptions_X11_descriptions_2 : Cond.fieldLink RX11 35 "RepeatNestsModel" "many" "[J" ∈ wsX11_descriptions := by decide +kernel
theorem kMD_descriptions_X11_descriptions_3 : Cond.constantLong RX11 143 (-1000001) ∈ wsX11_descriptions := by decide +kernel
set_option maxHeartbeats 4000000 in
set_option maxRecDepth 100000 in
theorem cMD_descriptions (l : Launch) (dC : Nat → ClassId) (dI : Nat → Nat → Nat) (cI cJ cC cS : ClassId) (h_t h_t_s h_t_was h_t_begun h_t_text h_t_wrong h_t_cost h_t_first h_t_block h_t_many h_t_stack h_t_written h_t_own h_t_levelAt h_t_itemAt h_t_times : Nat) (sz : Nat) (t_states : Int32) (t_typed : Int32) (t_height : Int32) (t_length : Int32) (t_at : Int32) (t_ownLength : Int32) (t_depth : Int32) (t_deepest : Int32) (t_letters : Int32) (t_repeats : Int32) (t_corrections : Int32) (t_mostCorrections : Int32) (t_place : Int32) (t_reason : Int32) (t_many : Nat → Int64) (t_s : Nat → Int32) (t_wrong : Nat → Int32) (x1 : Int32) (x2 : Int32) (r : Int64) (y_t_many : Nat → Int64) (y_t_wrong : Nat → Int32) (hres : fMD_descriptions t_s t_many t_wrong x1 x2 = some (r, y_t_many, y_t_wrong)) :
    Met l yX11_descriptions wsX11_descriptions ({ frames := 2, cells := 0, slots := 0, locals := 50 } : Room) (va_Pc [.ref h_t, .int x1, .int x2] (fun (U : State) => U.heap.size = sz ∧ va_P (dC, dI) vwCl [(h_t, .inr (10, [.ref h_t_s, .ref h_t_was, .ref h_t_begun, .int t_states, .ref h_t_text, .int t_typed, .ref h_t_wrong, .ref h_t_cost, .ref h_t_first, .ref h_t_block, .ref h_t_many, .ref h_t_stack, .int t_height, .ref h_t_written, .int t_length, .ref h_t_own, .ref h_t_levelAt, .ref h_t_itemAt, .ref h_t_times, .int t_at, .int t_ownLength, .int t_depth, .int t_deepest, .int t_letters, .int t_repeats, .int t_corrections, .int t_mostCorrections, .int t_place, .int t_reason])), (h_t_many, .inl (cJ, 3125, .inr (.inl t_many))), (h_t_s, .inl (cI, 30, .inl t_s)), (h_t_wrong, .inl (cI, 15625, .inl t_wrong))] U.heap ∧ va_K (dC, dI) vwCl (tyA cI cJ cC cS) U ∧ nwN U ∧ va_D (fun _ => True) [(h_t, .inr (10, [.ref h_t_s, .ref h_t_was, .ref h_t_begun, .int t_states, .ref h_t_text, .int t_typed, .ref h_t_wrong, .ref h_t_cost, .ref h_t_first, .ref h_t_block, .ref h_t_many, .ref h_t_stack, .int t_height, .ref h_t_written, .int t_length, .ref h_t_own, .ref h_t_levelAt, .ref h_t_itemAt, .ref h_t_times, .int t_at, .int t_ownLength, .int t_depth, .int t_deepest, .int t_letters, .int t_repeats, .int t_corrections, .int t_mostCorrections, .int t_place, .int t_reason])), (h_t_many, .inl (cJ, 3125, .inr (.inl t_many))), (h_t_s, .inl (cI, 30, .inl t_s)), (h_t_wrong, .inl (cI, 15625, .inl t_wrong))])) (va_Ql (fun (r9 : Int64) (_ : Unit) => r9 = r) (fun (_ : Unit) (t : State) => va_P (dC, dI) vwCl [(h_t, .inr (10, [.ref h_t_s, .ref h_t_was, .ref h_t_begun, .int t_states, .ref h_t_text, .int t_typed, .ref h_t_wrong, .ref h_t_cost, .ref h_t_first, .ref h_t_block, .ref h_t_many, .ref h_t_stack, .int t_height, .ref h_t_written, .int t_length, .ref h_t_own, .ref h_t_levelAt, .ref h_t_itemAt, .ref h_t_times, .int t_at, .int t_ownLength, .int t_depth, .int t_deepest, .int t_letters, .int t_repeats, .int t_corrections, .int t_mostCorrections, .int t_place, .int t_reason])), (h_t_many, .inl (cJ, 3125, .inr (.inl y_t_many))), (h_t_s, .inl (cI, 30, .inl t_s)), (h_t_wrong, .inl (cI, 15625, .inl y_t_wrong))] t.heap ∧ va_K (dC, dI) vwCl (tyA cI cJ cC cS) t ∧ va_D (va_A [(h_t, .inr (10, [.ref h_t_s, .ref h_t_was, .ref h_t_begun, .int t_states, .ref h_t_text, .int t_typed, .ref h_t_wrong, .ref h_t_cost, .ref h_t_first, .ref h_t_block, .ref h_t_many, .ref h_t_stack, .int t_height, .ref h_t_written, .int t_length, .ref h_t_own, .ref h_t_levelAt, .ref h_t_itemAt, .ref h_t_times, .int t_at, .int t_ownLength, .int t_depth, .int t_deepest, .int t_letters, .int t_repeats, .int t_corrections, .int t_mostCorrections, .int t_place, .int t_reason])), (h_t_many, .inl (cJ, 3125, .inr (.inl t_many))), (h_t_s, .inl (cI, 30, .inl t_s)), (h_t_wrong, .inl (cI, 15625, .inl t_wrong))] sz) [(h_t, .inr (10, [.ref h_t_s, .ref h_t_was, .ref h_t_begun, .int t_states, .ref h_t_text, .int t_typed, .ref h_t_wrong, .ref h_t_cost, .ref h_t_first, .ref h_t_block, .ref h_t_many, .ref h_t_stack, .int t_height, .ref h_t_written, .int t_length, .ref h_t_own, .ref h_t_levelAt, .ref h_t_itemAt, .ref h_t_times, .int t_at, .int t_ownLength, .int t_depth, .int t_deepest, .int t_letters, .int t_repeats, .int t_corrections, .int t_mostCorrections, .int t_place, .int t_reason])), (h_t_many, .inl (cJ, 3125, .inr (.inl y_t_many))), (h_t_s, .inl (cI, 30, .inl t_s)), (h_t_wrong, .inl (cI, 15625, .inl y_t_wrong))]) (va_A [(h_t, .inr (10, [.ref h_t_s, .ref h_t_was, .ref h_t_begun, .int t_states, .ref h_t_text, .int t_typed, .ref h_t_wrong, .ref h_t_cost, .ref h_t_first, .ref h_t_block, .ref h_t_many, .ref h_t_stack, .int t_height, .ref h_t_written, .int t_length, .ref h_t_own, .ref h_t_levelAt, .ref h_t_itemAt, .ref h_t_times, .int t_at, .int t_ownLength, .int t_depth, .int t_deepest, .int t_letters, .int t_repeats, .int t_corrections, .int t_mostCorrections, .int t_place, .int t_reason])), (h_t_many, .inl (cJ, 3125, .inr (.inl t_many))), (h_t_s, .inl (cI, 30, .inl t_s)), (h_t_wrong, .inl (cI, 15625, .inl t_wrong))] sz)) 0 0 (va_A [(h_t, .inr (10, [.ref h_t_s, .ref h_t_was, .ref h_t_begun, .int t_states, .ref h_t_text, .int t_typed, .ref h_t_wrong, .ref h_t_cost, .ref h_t_first, .ref h_t_block, .ref h_t_many, .ref h_t_stack, .int t_height, .ref h_t_written, .int t_length, .ref h_t_own, .ref h_t_levelAt, .ref h_t_itemAt, .ref h_t_times, .int t_at, .int t_ownLength, .int t_depth, .int t_deepest, .int t_letters, .int t_repeats, .int t_corrections, .int t_mostCorrections, .int t_place, .int t_reason])), (h_t_many, .inl (cJ, 3125, .inr (.inl t_many))), (h_t_s, .inl (cI, 30, .inl t_s)), (h_t_wrong, .inl (cI, 15625, .inl t_wrong))] sz) := by
  refine Met.ofW (cc := cX11_descriptions) (maxL := 6) (ret := (some .long)) (by decide) rfl ?_
  intro p e s m args below meth c s₁ B hml hv
  obtain ⟨hargs, hsz, hP, hK, hN, hD0⟩ := hv
  have hx := B.exec
  have hb := B.bytes
  have hr := B.returns
  have hts := atoms_spec (ws := wsX11_descriptions) B.pre
  have hown : s.vm.findClass RX11 = some m.cls := findClass_of_methodNamed B.named
  have hlocks := B.notSynchronized
  subst hsz
  have hD := hD0.self (sz := s.heap.size)
  generalize hAe : va_A [(h_t, .inr (10, [.ref h_t_s, .ref h_t_was, .ref h_t_begun, .int t_states, .ref h_t_text, .int t_typed, .ref h_t_wrong, .ref h_t_cost, .ref h_t_first, .ref h_t_block, .ref h_t_many, .ref h_t_stack, .int t_height, .ref h_t_written, .int t_length, .ref h_t_own, .ref h_t_levelAt, .ref h_t_itemAt, .ref h_t_times, .int t_at, .int t_ownLength, .int t_depth, .int t_deepest, .int t_letters, .int t_repeats, .int t_corrections, .int t_mostCorrections, .int t_place, .int t_reason])), (h_t_many, .inl (cJ, 3125, .inr (.inl t_many))), (h_t_s, .inl (cI, 30, .inl t_s)), (h_t_wrong, .inl (cI, 15625, .inl t_wrong))] s.heap.size = A at hD ⊢
  have hA : ∀ q : Nat, s.heap.size ≤ q → A q := fun q h => by rw [← hAe]; exact Or.inr h
  have hS : va_S A s.heap s.heap [] := va_S.rf
  have hP : va_P (dC, dI) vwCl [(h_t, .inr (10, [.ref h_t_s, .ref h_t_was, .ref h_t_begun, .int t_states, .ref h_t_text, .int t_typed, .ref h_t_wrong, .ref h_t_cost, .ref h_t_first, .ref h_t_block, .ref h_t_many, .ref h_t_stack, .int t_height, .ref h_t_written, .int t_length, .ref h_t_own, .ref h_t_levelAt, .ref h_t_itemAt, .ref h_t_times, .int t_at, .int t_ownLength, .int t_depth, .int t_deepest, .int t_letters, .int t_repeats, .int t_corrections, .int t_mostCorrections, .int t_place, .int t_reason])), (h_t_many, .inl (cJ, 3125, .inr (.inl t_many))), (h_t_s, .inl (cI, 30, .inl t_s)), (h_t_wrong, .inl (cI, 15625, .inl t_wrong))] s.heap := hP
  have hl := lv_entry [.ref h_t, .int x1, .int x2] (n := 6) (Nat.le_of_ble_eq_true rfl)
  rw [show entryFrame m args 6 = entryFrame m ([.ref h_t, .int x1, .int x2] : List Value).toArray 6 from by rw [hargs], lg_entry_eq]
  generalize (lg_sl [.ref h_t, .int x1, .int x2] ++ List.replicate (6 - (lg_sl [.ref h_t, .int x1, .int x2]).length) Slot.unset).toArray = ls at hl ⊢
  have hl : lv_has ls 6 [(0, .ref h_t), (1, .int x1), (2, .int x2)] := hl
  generalize hQQ : MQ below (va_Ql (fun (r9 : Int64) (_ : Unit) => r9 = r) (fun (_ : Unit) (t : State) => va_P (dC, dI) vwCl [(h_t, .inr (10, [.ref h_t_s, .ref h_t_was, .ref h_t_begun, .int t_states, .ref h_t_text, .int t_typed, .ref h_t_wrong, .ref h_t_cost, .ref h_t_first, .ref h_t_block, .ref h_t_many, .ref h_t_stack, .int t_height, .ref h_t_written, .int t_length, .ref h_t_own, .ref h_t_levelAt, .ref h_t_itemAt, .ref h_t_times, .int t_at, .int t_ownLength, .int t_depth, .int t_deepest, .int t_letters, .int t_repeats, .int t_corrections, .int t_mostCorrections, .int t_place, .int t_reason])), (h_t_many, .inl (cJ, 3125, .inr (.inl y_t_many))), (h_t_s, .inl (cI, 30, .inl t_s)), (h_t_wrong, .inl (cI, 15625, .inl y_t_wrong))] t.heap ∧ va_K (dC, dI) vwCl (tyA cI cJ cC cS) t ∧ va_D A [(h_t, .inr (10, [.ref h_t_s, .ref h_t_was, .ref h_t_begun, .int t_states, .ref h_t_text, .int t_typed, .ref h_t_wrong, .ref h_t_cost, .ref h_t_first, .ref h_t_block, .ref h_t_many, .ref h_t_stack, .int t_height, .ref h_t_written, .int t_length, .ref h_t_own, .ref h_t_levelAt, .ref h_t_itemAt, .ref h_t_times, .int t_at, .int t_ownLength, .int t_depth, .int t_deepest, .int t_letters, .int t_repeats, .int t_corrections, .int t_mostCorrections, .int t_place, .int t_reason])), (h_t_many, .inl (cJ, 3125, .inr (.inl y_t_many))), (h_t_s, .inl (cI, 30, .inl t_s)), (h_t_wrong, .inl (cI, 15625, .inl y_t_wrong))]) A) args s 0 0 A = QQ
  obtain ⟨H, hH⟩ : ∃ H : Heap, H = s.heap := ⟨_, rfl⟩
  obtain ⟨locs, hlocs⟩ : ∃ locs : List Loc, locs = [] := ⟨_, rfl⟩
  rw [← hH] at hP
  have hS : va_S A s.heap H locs := by rw [hH, hlocs]; exact hS
  suffices hZ : W p l e (headSpec wsX11_descriptions ({ frames := 2, cells := 0, slots := 0, locals := 50 } : Room)).room s m args below meth c H locs 0 0 QQ (F0 m 0 ls []) by rw [hH, hlocs] at hZ; exact hZ
  clear hH hlocs
  have hL19 : ∀ (n19 : Nat) , ∀ (x3 : Int32) (t_many : Nat → Int64) (t_wrong : Nat → Int32) (H : Heap) (locs : List Loc) (ls : Array Slot), fMD_descriptions_19 t_s x1 x2 n19 x3 t_many t_wrong = some (r, y_t_many, y_t_wrong) → va_P (dC, dI) vwCl [(h_t, .inr (10, [.ref h_t_s, .ref h_t_was, .ref h_t_begun, .int t_states, .ref h_t_text, .int t_typed, .ref h_t_wrong, .ref h_t_cost, .ref h_t_first, .ref h_t_block, .ref h_t_many, .ref h_t_stack, .int t_height, .ref h_t_written, .int t_length, .ref h_t_own, .ref h_t_levelAt, .ref h_t_itemAt, .ref h_t_times, .int t_at, .int t_ownLength, .int t_depth, .int t_deepest, .int t_letters, .int t_repeats, .int t_corrections, .int t_mostCorrections, .int t_place, .int t_reason])), (h_t_many, .inl (cJ, 3125, .inr (.inl t_many))), (h_t_s, .inl (cI, 30, .inl t_s)), (h_t_wrong, .inl (cI, 15625, .inl t_wrong))] H → va_D A [(h_t, .inr (10, [.ref h_t_s, .ref h_t_was, .ref h_t_begun, .int t_states, .ref h_t_text, .int t_typed, .ref h_t_wrong, .ref h_t_cost, .ref h_t_first, .ref h_t_block, .ref h_t_many, .ref h_t_stack, .int t_height, .ref h_t_written, .int t_length, .ref h_t_own, .ref h_t_levelAt, .ref h_t_itemAt, .ref h_t_times, .int t_at, .int t_ownLength, .int t_depth, .int t_deepest, .int t_letters, .int t_repeats, .int t_corrections, .int t_mostCorrections, .int t_place, .int t_reason])), (h_t_many, .inl (cJ, 3125, .inr (.inl t_many))), (h_t_s, .inl (cI, 30, .inl t_s)), (h_t_wrong, .inl (cI, 15625, .inl t_wrong))] → va_S A s.heap H locs → lv_has ls 6 [(0, .ref h_t), (1, .int x1), (2, .int x2), (3, .int x3)] → W p l e (headSpec wsX11_descriptions ({ frames := 2, cells := 0, slots := 0, locals := 50 } : Room)).room s m args below meth c H locs 0 0 QQ (F0 m 19 ls []) := by
    intro n19
    induction n19 with
    | zero =>
      intro x3 t_many t_wrong H locs ls hres
      rw [fMD_descriptions_19] at hres
      cases hres
    | succ n19 ih19 =>
      have hL37 : ∀ (n37 : Nat) , ∀ (x3 : Int32) (x4 : Int32) (t_many : Nat → Int64) (t_wrong : Nat → Int32) (H : Heap) (locs : List Loc) (ls : Array Slot), fMD_descriptions_37 t_s (fMD_descriptions_19 t_s x1 x2 n19) n37 x3 x4 t_many t_wrong = some (r, y_t_many, y_t_wrong) → va_P (dC, dI) vwCl [(h_t, .inr (10, [.ref h_t_s, .ref h_t_was, .ref h_t_begun, .int t_states, .ref h_t_text, .int t_typed, .ref h_t_wrong, .ref h_t_cost, .ref h_t_first, .ref h_t_block, .ref h_t_many, .ref h_t_stack, .int t_height, .ref h_t_written, .int t_length, .ref h_t_own, .ref h_t_levelAt, .ref h_t_itemAt, .ref h_t_times, .int t_at, .int t_ownLength, .int t_depth, .int t_deepest, .int t_letters, .int t_repeats, .int t_corrections, .int t_mostCorrections, .int t_place, .int t_reason])), (h_t_many, .inl (cJ, 3125, .inr (.inl t_many))), (h_t_s, .inl (cI, 30, .inl t_s)), (h_t_wrong, .inl (cI, 15625, .inl t_wrong))] H → va_D A [(h_t, .inr (10, [.ref h_t_s, .ref h_t_was, .ref h_t_begun, .int t_states, .ref h_t_text, .int t_typed, .ref h_t_wrong, .ref h_t_cost, .ref h_t_first, .ref h_t_block, .ref h_t_many, .ref h_t_stack, .int t_height, .ref h_t_written, .int t_length, .ref h_t_own, .ref h_t_levelAt, .ref h_t_itemAt, .ref h_t_times, .int t_at, .int t_ownLength, .int t_depth, .int t_deepest, .int t_letters, .int t_repeats, .int t_corrections, .int t_mostCorrections, .int t_place, .int t_reason])), (h_t_many, .inl (cJ, 3125, .inr (.inl t_many))), (h_t_s, .inl (cI, 30, .inl t_s)), (h_t_wrong, .inl (cI, 15625, .inl t_wrong))] → va_S A s.heap H locs → lv_has ls 6 [(0, .ref h_t), (1, .int x1), (2, .int x2), (3, .int x3), (4, .int x4)] → W p l e (headSpec wsX11_descriptions ({ frames := 2, cells := 0, slots := 0, locals := 50 } : Room)).room s m args below meth c H locs 0 0 QQ (F0 m 37 ls []) := by
        intro n37
        induction n37 with
        | zero =>
          intro x3 x4 t_many t_wrong H locs ls hres
          rw [fMD_descriptions_37] at hres
          cases hres
        | succ n37 ih37 =>
          have hL62 : ∀ (n62 : Nat) , ∀ (x3 : Int32) (x4 : Int32) (x5 : Int32) (t_many : Nat → Int64) (t_wrong : Nat → Int32) (H : Heap) (locs : List Loc) (ls : Array Slot), fMD_descriptions_62 t_s (fMD_descriptions_19 t_s x1 x2 n19) (fMD_descriptions_37 t_s (fMD_descriptions_19 t_s x1 x2 n19) n37) n62 x3 x4 x5 t_many t_wrong = some (r, y_t_many, y_t_wrong) → va_P (dC, dI) vwCl [(h_t, .inr (10, [.ref h_t_s, .ref h_t_was, .ref h_t_begun, .int t_states, .ref h_t_text, .int t_typed, .ref h_t_wrong, .ref h_t_cost, .ref h_t_first, .ref h_t_block, .ref h_t_many, .ref h_t_stack, .int t_height, .ref h_t_written, .int t_length, .ref h_t_own, .ref h_t_levelAt, .ref h_t_itemAt, .ref h_t_times, .int t_at, .int t_ownLength, .int t_depth, .int t_deepest, .int t_letters, .int t_repeats, .int t_corrections, .int t_mostCorrections, .int t_place, .int t_reason])), (h_t_many, .inl (cJ, 3125, .inr (.inl t_many))), (h_t_s, .inl (cI, 30, .inl t_s)), (h_t_wrong, .inl (cI, 15625, .inl t_wrong))] H → va_D A [(h_t, .inr (10, [.ref h_t_s, .ref h_t_was, .ref h_t_begun, .int t_states, .ref h_t_text, .int t_typed, .ref h_t_wrong, .ref h_t_cost, .ref h_t_first, .ref h_t_block, .ref h_t_many, .ref h_t_stack, .int t_height, .ref h_t_written, .int t_length, .ref h_t_own, .ref h_t_levelAt, .ref h_t_itemAt, .ref h_t_times, .int t_at, .int t_ownLength, .int t_depth, .int t_deepest, .int t_letters, .int t_repeats, .int t_corrections, .int t_mostCorrections, .int t_place, .int t_reason])), (h_t_many, .inl (cJ, 3125, .inr (.inl t_many))), (h_t_s, .inl (cI, 30, .inl t_s)), (h_t_wrong, .inl (cI, 15625, .inl t_wrong))] → va_S A s.heap H locs → lv_has ls 6 [(0, .ref h_t), (1, .int x1), (2, .int x2), (3, .int x3), (4, .int x4), (5, .int x5)] → W p l e (headSpec wsX11_descriptions ({ frames := 2, cells := 0, slots := 0, locals := 50 } : Room)).room s m args below meth c H locs 0 0 QQ (F0 m 62 ls []) := by
            intro n62
            induction n62 with
            | zero =>
              intro x3 x4 x5 t_many t_wrong H locs ls hres
              rw [fMD_descriptions_62] at hres
              cases hres
            | succ n62 ih62 =>
              intro x3 x4 x5 t_many t_wrong H locs ls hres hP hD hS hl
              rw [fMD_descriptions_62] at hres
              refine lv_iload hx hb dX11_descriptions_62 (lv_at hl 5 rfl) ?_
              refine lv_aload_n hx hb dX11_descriptions_64 rfl (lv_at hl 0 rfl) ?_
              refine va_get (D := (dC, dI)) (ci := 10) (v := .ref h_t_s) (C := RX11) (T := TX11) (N := 29) hx hb hts iMD_descriptions_X11_descriptions_1 hown hK hP 0 rfl rfl 0 (by decide) (hts _ kMD_descriptions_X11_descriptions_0) (fun _ h9 => h9) rfl dX11_descriptions_65 ?_
              refine lv_iconst (v := (0 : Int32)) hx hb dX11_descriptions_68 (by decide) ?_
              refine va_iald hx hb hK hP 2 0 rfl rfl (vin (by decide)) dX11_descriptions_69 ?_
              refine lv_icmp_gt (tgt := 88) hx hb dX11_descriptions_70 (by decide) (fun c_7 => ?_) (fun c_7 => ?_)
              · have hres := it_of hres c_7
                refine lv_iinc (v := (x4 + (-1))) (lv' := [(4, .int (x4 + (-1))), (0, .ref h_t), (1, .int x1), (2, .int x2), (3, .int x3), (5, .int x5)]) hx hb dX11_descriptions_88 hl (k := 4) rfl rfl (by decide) rfl (fun ls hl => ?_)
                refine lv_goto (tgt := 37) hx hb dX11_descriptions_91 (by decide) ?_
                exact ih37 x3 (x4 + (-1)) t_many t_wrong H locs ls hres hP hD hS (lv_sub hl [1, 2, 3, 4, 0] rfl)
              · have hres := ie_of hres c_7
                refine lv_aload_n hx hb dX11_descriptions_73 rfl (lv_at hl 0 rfl) ?_
                refine lv_iload_n hx hb dX11_descriptions_74 rfl (lv_at hl 3 rfl) ?_
                refine lv_iload hx hb dX11_descriptions_75 (lv_at hl 4 rfl) ?_
                refine lv_iload hx hb dX11_descriptions_77 (lv_at hl 5 rfl) ?_
                obtain ⟨o8, ho8, hres⟩ := bd_of hres
                have hPc := hP.sub (ws' := [(h_t, .inr (10, [.ref h_t_s, .ref h_t_was, .ref h_t_begun, .int t_states, .ref h_t_text, .int t_typed, .ref h_t_wrong, .ref h_t_cost, .ref h_t_first, .ref h_t_block, .ref h_t_many, .ref h_t_stack, .int t_height, .ref h_t_written, .int t_length, .ref h_t_own, .ref h_t_levelAt, .ref h_t_itemAt, .ref h_t_times, .int t_at, .int t_ownLength, .int t_depth, .int t_deepest, .int t_letters, .int t_repeats, .int t_corrections, .int t_mostCorrections, .int t_place, .int t_reason])), (h_t_many, .inl (cJ, 3125, .inr (.inl t_many))), (h_t_s, .inl (cI, 30, .inl t_s)), (h_t_wrong, .inl (cI, 15625, .inl t_wrong))]) [0, 1, 2, 3] rfl
                have hDc := hD.sub (ws' := [(h_t, .inr (10, [.ref h_t_s, .ref h_t_was, .ref h_t_begun, .int t_states, .ref h_t_text, .int t_typed, .ref h_t_wrong, .ref h_t_cost, .ref h_t_first, .ref h_t_block, .ref h_t_many, .ref h_t_stack, .int t_height, .ref h_t_written, .int t_length, .ref h_t_own, .ref h_t_levelAt, .ref h_t_itemAt, .ref h_t_times, .int t_at, .int t_ownLength, .int t_depth, .int t_deepest, .int t_letters, .int t_repeats, .int t_corrections, .int t_mostCorrections, .int t_place, .int t_reason])), (h_t_many, .inl (cJ, 3125, .inr (.inl t_many))), (h_t_s, .inl (cI, 30, .inl t_s)), (h_t_wrong, .inl (cI, 15625, .inl t_wrong))]) [0, 1, 2, 3] (by decide) rfl
                have hFc := va_free (wc := [(h_t, .inr (10, [.ref h_t_s, .ref h_t_was, .ref h_t_begun, .int t_states, .ref h_t_text, .int t_typed, .ref h_t_wrong, .ref h_t_cost, .ref h_t_first, .ref h_t_block, .ref h_t_many, .ref h_t_stack, .int t_height, .ref h_t_written, .int t_length, .ref h_t_own, .ref h_t_levelAt, .ref h_t_itemAt, .ref h_t_times, .int t_at, .int t_ownLength, .int t_depth, .int t_deepest, .int t_letters, .int t_repeats, .int t_corrections, .int t_mostCorrections, .int t_place, .int t_reason])), (h_t_many, .inl (cJ, 3125, .inr (.inl t_many))), (h_t_s, .inl (cI, 30, .inl t_s)), (h_t_wrong, .inl (cI, 15625, .inl t_wrong))]) hD hS hA [0, 1, 2, 3] rfl
                refine va_callv (va_runV (As := [.int x3, .int x4, .int x5]) (rest := []) ⟨hx, hb, hml, hown, hts⟩ (cMD_counts l dC dI cI cJ cC cS h_t h_t_s h_t_was h_t_begun h_t_text h_t_wrong h_t_cost h_t_first h_t_block h_t_many h_t_stack h_t_written h_t_own h_t_levelAt h_t_itemAt h_t_times H.size t_states t_typed t_height t_length t_at t_ownLength t_depth t_deepest t_letters t_repeats t_corrections t_mostCorrections t_place t_reason t_many t_s t_wrong x3 x4 x5 o8 ho8) (cwV 3 hts gX11_descriptions_X11_counts rfl rfl rfl (by decide +kernel) ⟨Nat.le_of_ble_eq_true rfl, Nat.le_of_ble_eq_true rfl⟩) ⟨fun a U g mk q => by obtain ⟨q0, q1, qP, qK, qN, qD⟩ := q; exact ⟨q0, q1, qP, va_K.moved (u := U) (U := U.calling g mk a) (Vm.Alike.refl U.vm) qK, nwS (u := U) (U := U.calling g mk a) rfl qN, qD⟩, va_recv hK hPc (ci := 10) (q0 := 0) rfl rfl, fun U hU hW => ⟨rfl, by rw [hU], by rw [hU]; exact hPc, va_K.moved hW.alike hK, nwW hW hN, hDc.weaken (fun _ _ _ _ => trivial)⟩⟩ rfl rfl hl.1 rfl (lv_room (Nat.le_of_ble_eq_true rfl)) dX11_descriptions_79 ⟨Nat.zero_le _, Nat.zero_le _⟩) hS (fun q _ h => hFc q h) hFc (fun u9 t H1 locs ht hvm hw hB hz1 hk1 hS => ?_)
                obtain ⟨hP1, hK1, hD1⟩ := hB
                rw [ht] at hP1
                obtain ⟨hP, hD⟩ := va_join (wr := []) (w1 := [(h_t, .inr (10, [.ref h_t_s, .ref h_t_was, .ref h_t_begun, .int t_states, .ref h_t_text, .int t_typed, .ref h_t_wrong, .ref h_t_cost, .ref h_t_first, .ref h_t_block, .ref h_t_many, .ref h_t_stack, .int t_height, .ref h_t_written, .int t_length, .ref h_t_own, .ref h_t_levelAt, .ref h_t_itemAt, .ref h_t_times, .int t_at, .int t_ownLength, .int t_depth, .int t_deepest, .int t_letters, .int t_repeats, .int t_corrections, .int t_mostCorrections, .int t_place, .int t_reason])), (h_t_many, .inl (cJ, 3125, .inr (.inl o8))), (h_t_s, .inl (cI, 30, .inl t_s)), (h_t_wrong, .inl (cI, 15625, .inl t_wrong))]) hP hD [0, 1, 2, 3] [] rfl rfl (by decide) (by decide) hk1 hFc hP1 hD1
                generalize H1 = H at hP hS ⊢
                have hP : va_P (dC, dI) vwCl [(h_t, .inr (10, [.ref h_t_s, .ref h_t_was, .ref h_t_begun, .int t_states, .ref h_t_text, .int t_typed, .ref h_t_wrong, .ref h_t_cost, .ref h_t_first, .ref h_t_block, .ref h_t_many, .ref h_t_stack, .int t_height, .ref h_t_written, .int t_length, .ref h_t_own, .ref h_t_levelAt, .ref h_t_itemAt, .ref h_t_times, .int t_at, .int t_ownLength, .int t_depth, .int t_deepest, .int t_letters, .int t_repeats, .int t_corrections, .int t_mostCorrections, .int t_place, .int t_reason])), (h_t_many, .inl (cJ, 3125, .inr (.inl o8))), (h_t_s, .inl (cI, 30, .inl t_s)), (h_t_wrong, .inl (cI, 15625, .inl t_wrong))] H := hP
                have hD : va_D A [(h_t, .inr (10, [.ref h_t_s, .ref h_t_was, .ref h_t_begun, .int t_states, .ref h_t_text, .int t_typed, .ref h_t_wrong, .ref h_t_cost, .ref h_t_first, .ref h_t_block, .ref h_t_many, .ref h_t_stack, .int t_height, .ref h_t_written, .int t_length, .ref h_t_own, .ref h_t_levelAt, .ref h_t_itemAt, .ref h_t_times, .int t_at, .int t_ownLength, .int t_depth, .int t_deepest, .int t_letters, .int t_repeats, .int t_corrections, .int t_mostCorrections, .int t_place, .int t_reason])), (h_t_many, .inl (cJ, 3125, .inr (.inl o8))), (h_t_s, .inl (cI, 30, .inl t_s)), (h_t_wrong, .inl (cI, 15625, .inl t_wrong))] := hD
                refine lv_iinc (v := (x5 + 1)) (lv' := [(5, .int (x5 + 1)), (0, .ref h_t), (1, .int x1), (2, .int x2), (3, .int x3), (4, .int x4)]) hx hb dX11_descriptions_82 hl (k := 5) rfl rfl (by decide) rfl (fun ls hl => ?_)
                refine lv_goto (tgt := 62) hx hb dX11_descriptions_85 (by decide) ?_
                exact ih62 x3 x4 (x5 + 1) o8 t_wrong H locs ls hres hP hD hS (lv_sub hl [1, 2, 3, 4, 5, 0] rfl)
          intro x3 x4 t_many t_wrong H locs ls hres hP hD hS hl
          rw [fMD_descriptions_37] at hres
          refine lv_iload hx hb dX11_descriptions_37 (lv_at hl 4 rfl) ?_
          refine lv_if_lt (tgt := 94) hx hb dX11_descriptions_39 (by decide) (fun c_4 => ?_) (fun c_4 => ?_)
          · have hres := it_of hres c_4
            refine lv_iinc (v := (x3 + 1)) (lv' := [(3, .int (x3 + 1)), (0, .ref h_t), (1, .int x1), (2, .int x2), (4, .int x4)]) hx hb dX11_descriptions_94 hl (k := 3) rfl rfl (by decide) rfl (fun ls hl => ?_)
            refine lv_goto (tgt := 19) hx hb dX11_descriptions_97 (by decide) ?_
            exact ih19 (x3 + 1) t_many t_wrong H locs ls hres hP hD hS (lv_sub hl [1, 2, 3, 0] rfl)
          · have hres := ie_of hres c_4
            refine lv_aload_n hx hb dX11_descriptions_42 rfl (lv_at hl 0 rfl) ?_
            refine va_get (D := (dC, dI)) (ci := 10) (v := .ref h_t_many) (C := RX11) (T := TX11) (N := 29) hx hb hts iMD_descriptions_X11_descriptions_1 hown hK hP 0 rfl rfl 10 (by decide) (hts _ kMD_descriptions_X11_descriptions_2) (fun _ h9 => h9) rfl dX11_descriptions_43 ?_
            refine lv_iload_n hx hb dX11_descriptions_46 rfl (lv_at hl 3 rfl) ?_
            refine lv_iload hx hb dX11_descriptions_47 (lv_at hl 4 rfl) ?_
            refine lv_iload hx hb dX11_descriptions_49 (lv_at hl 4 rfl) ?_
            obtain ⟨o5, ho5, hres⟩ := bd_of hres
            have hPc := hP.sub (ws' := []) [] rfl
            have hDc := hD.sub (ws' := []) [] (by decide) rfl
            have hFc := va_free (wc := []) hD hS hA [] rfl
            refine va_calli (va_runS (As := [.int x3, .int x4, .int x4]) (rest := [.ref h_t_many]) ⟨hx, hb, hml, hown, hts⟩ (cMD_part l dC dI cI cJ cC cS H.size x3 x4 x4 o5 ho5) (va_cwS 3 hts gX11_descriptions_X11_part rfl rfl rfl (by decide +kernel) ⟨Nat.le_of_ble_eq_true rfl, Nat.le_of_ble_eq_true rfl⟩) ⟨fun a U g mk q => by obtain ⟨q0, q1, qP, qK, qN, qD⟩ := q; exact ⟨q0, q1, qP, va_K.moved (u := U) (U := U.calling g mk a) (Vm.Alike.refl U.vm) qK, nwS (u := U) (U := U.calling g mk a) rfl qN, qD⟩, fun U hU hW => ⟨rfl, by rw [hU], by rw [hU]; exact hPc, va_K.moved hW.alike hK, nwW hW hN, hDc.weaken (fun _ _ _ _ => trivial)⟩⟩ rfl rfl hl.1 rfl (lv_room (Nat.le_of_ble_eq_true rfl)) dX11_descriptions_51 ⟨Nat.zero_le _, Nat.zero_le _⟩) hS (fun q _ h => hFc q h) hFc (fun r9 u9 t H1 locs ht hvm hw hB hz1 hk1 hS => ?_)
            have hw := hw.symm
            subst hw
            obtain ⟨hP1, hK1, hD1⟩ := hB
            rw [ht] at hP1
            obtain ⟨hP, hD⟩ := va_join (wr := [(h_t, .inr (10, [.ref h_t_s, .ref h_t_was, .ref h_t_begun, .int t_states, .ref h_t_text, .int t_typed, .ref h_t_wrong, .ref h_t_cost, .ref h_t_first, .ref h_t_block, .ref h_t_many, .ref h_t_stack, .int t_height, .ref h_t_written, .int t_length, .ref h_t_own, .ref h_t_levelAt, .ref h_t_itemAt, .ref h_t_times, .int t_at, .int t_ownLength, .int t_depth, .int t_deepest, .int t_letters, .int t_repeats, .int t_corrections, .int t_mostCorrections, .int t_place, .int t_reason])), (h_t_many, .inl (cJ, 3125, .inr (.inl t_many))), (h_t_s, .inl (cI, 30, .inl t_s)), (h_t_wrong, .inl (cI, 15625, .inl t_wrong))]) (w1 := []) hP hD [] [0, 1, 2, 3] rfl rfl (by decide) (by decide) hk1 hFc hP1 hD1
            generalize H1 = H at hP hS ⊢
            have hP : va_P (dC, dI) vwCl [(h_t, .inr (10, [.ref h_t_s, .ref h_t_was, .ref h_t_begun, .int t_states, .ref h_t_text, .int t_typed, .ref h_t_wrong, .ref h_t_cost, .ref h_t_first, .ref h_t_block, .ref h_t_many, .ref h_t_stack, .int t_height, .ref h_t_written, .int t_length, .ref h_t_own, .ref h_t_levelAt, .ref h_t_itemAt, .ref h_t_times, .int t_at, .int t_ownLength, .int t_depth, .int t_deepest, .int t_letters, .int t_repeats, .int t_corrections, .int t_mostCorrections, .int t_place, .int t_reason])), (h_t_many, .inl (cJ, 3125, .inr (.inl t_many))), (h_t_s, .inl (cI, 30, .inl t_s)), (h_t_wrong, .inl (cI, 15625, .inl t_wrong))] H := hP
            have hD : va_D A [(h_t, .inr (10, [.ref h_t_s, .ref h_t_was, .ref h_t_begun, .int t_states, .ref h_t_text, .int t_typed, .ref h_t_wrong, .ref h_t_cost, .ref h_t_first, .ref h_t_block, .ref h_t_many, .ref h_t_stack, .int t_height, .ref h_t_written, .int t_length, .ref h_t_own, .ref h_t_levelAt, .ref h_t_itemAt, .ref h_t_times, .int t_at, .int t_ownLength, .int t_depth, .int t_deepest, .int t_letters, .int t_repeats, .int t_corrections, .int t_mostCorrections, .int t_place, .int t_reason])), (h_t_many, .inl (cJ, 3125, .inr (.inl t_many))), (h_t_s, .inl (cI, 30, .inl t_s)), (h_t_wrong, .inl (cI, 15625, .inl t_wrong))] := hD
            refine lv_lconst (v := (1 : Int64)) hx hb dX11_descriptions_54 (by decide) ?_
            obtain ⟨c_6, hres⟩ := ck_of hres
            refine va_last hx hb hK hP hD hS 1 1 rfl rfl c_6 dX11_descriptions_55 (fun H locs hP hD hS => ?_)
            have hP : va_P (dC, dI) vwCl [(h_t, .inr (10, [.ref h_t_s, .ref h_t_was, .ref h_t_begun, .int t_states, .ref h_t_text, .int t_typed, .ref h_t_wrong, .ref h_t_cost, .ref h_t_first, .ref h_t_block, .ref h_t_many, .ref h_t_stack, .int t_height, .ref h_t_written, .int t_length, .ref h_t_own, .ref h_t_levelAt, .ref h_t_itemAt, .ref h_t_times, .int t_at, .int t_ownLength, .int t_depth, .int t_deepest, .int t_letters, .int t_repeats, .int t_corrections, .int t_mostCorrections, .int t_place, .int t_reason])), (h_t_many, .inl (cJ, 3125, .inr (.inl (wrL t_many o5 (1 : Int64))))), (h_t_s, .inl (cI, 30, .inl t_s)), (h_t_wrong, .inl (cI, 15625, .inl t_wrong))] H := hP
            have hD : va_D A [(h_t, .inr (10, [.ref h_t_s, .ref h_t_was, .ref h_t_begun, .int t_states, .ref h_t_text, .int t_typed, .ref h_t_wrong, .ref h_t_cost, .ref h_t_first, .ref h_t_block, .ref h_t_many, .ref h_t_stack, .int t_height, .ref h_t_written, .int t_length, .ref h_t_own, .ref h_t_levelAt, .ref h_t_itemAt, .ref h_t_times, .int t_at, .int t_ownLength, .int t_depth, .int t_deepest, .int t_letters, .int t_repeats, .int t_corrections, .int t_mostCorrections, .int t_place, .int t_reason])), (h_t_many, .inl (cJ, 3125, .inr (.inl (wrL t_many o5 (1 : Int64))))), (h_t_s, .inl (cI, 30, .inl t_s)), (h_t_wrong, .inl (cI, 15625, .inl t_wrong))] := hD
            refine lv_iload hx hb dX11_descriptions_56 (lv_at hl 4 rfl) ?_
            refine lv_iconst (v := (1 : Int32)) hx hb dX11_descriptions_58 (by decide) ?_
            refine lv_iadd hx hb dX11_descriptions_59 ?_
            refine lv_istore (lv' := [(5, .int (x4 + (1 : Int32))), (0, .ref h_t), (1, .int x1), (2, .int x2), (3, .int x3), (4, .int x4)]) hx hb dX11_descriptions_60 hl (by decide) rfl (fun ls hl => ?_)
            exact hL62 FU x3 x4 (x4 + (1 : Int32)) (wrL t_many o5 (1 : Int64)) t_wrong H locs ls hres hP hD hS (lv_sub hl [1, 2, 3, 4, 5, 0] rfl)
      intro x3 t_many t_wrong H locs ls hres hP hD hS hl
      rw [fMD_descriptions_19] at hres
      refine lv_iload_n hx hb dX11_descriptions_19 rfl (lv_at hl 3 rfl) ?_
      refine lv_aload_n hx hb dX11_descriptions_20 rfl (lv_at hl 0 rfl) ?_
      refine va_get (D := (dC, dI)) (ci := 10) (v := .ref h_t_s) (C := RX11) (T := TX11) (N := 29) hx hb hts iMD_descriptions_X11_descriptions_1 hown hK hP 0 rfl rfl 0 (by decide) (hts _ kMD_descriptions_X11_descriptions_0) (fun _ h9 => h9) rfl dX11_descriptions_21 ?_
      refine lv_iconst (v := (5 : Int32)) hx hb dX11_descriptions_24 (by decide) ?_
      refine va_iald hx hb hK hP 2 0 rfl rfl (vin (by decide)) dX11_descriptions_25 ?_
      refine lv_icmp_gt (tgt := 100) hx hb dX11_descriptions_26 (by decide) (fun c_1 => ?_) (fun c_1 => ?_)
      · have hres := it_of hres c_1
        refine lv_aload_n hx hb dX11_descriptions_100 rfl (lv_at hl 0 rfl) ?_
        refine va_get (D := (dC, dI)) (ci := 10) (v := .ref h_t_many) (C := RX11) (T := TX11) (N := 29) hx hb hts iMD_descriptions_X11_descriptions_1 hown hK hP 0 rfl rfl 10 (by decide) (hts _ kMD_descriptions_X11_descriptions_2) (fun _ h9 => h9) rfl dX11_descriptions_101 ?_
        refine lv_aload_n hx hb dX11_descriptions_104 rfl (lv_at hl 0 rfl) ?_
        refine va_get (D := (dC, dI)) (ci := 10) (v := .ref h_t_s) (C := RX11) (T := TX11) (N := 29) hx hb hts iMD_descriptions_X11_descriptions_1 hown hK hP 0 rfl rfl 0 (by decide) (hts _ kMD_descriptions_X11_descriptions_0) (fun _ h9 => h9) rfl dX11_descriptions_105 ?_
        refine lv_iconst (v := (5 : Int32)) hx hb dX11_descriptions_108 (by decide) ?_
        refine va_iald hx hb hK hP 2 0 rfl rfl (vin (by decide)) dX11_descriptions_109 ?_
        refine lv_iload_n hx hb dX11_descriptions_110 rfl (lv_at hl 1 rfl) ?_
        refine lv_iload_n hx hb dX11_descriptions_111 rfl (lv_at hl 2 rfl) ?_
        obtain ⟨o2, ho2, hres⟩ := bd_of hres
        have hPc := hP.sub (ws' := []) [] rfl
        have hDc := hD.sub (ws' := []) [] (by decide) rfl
        have hFc := va_free (wc := []) hD hS hA [] rfl
        refine va_calli (va_runS (As := [.int (rd t_s (5 : Int32)), .int x1, .int x2]) (rest := [.ref h_t_many]) ⟨hx, hb, hml, hown, hts⟩ (cMD_part l dC dI cI cJ cC cS H.size (rd t_s (5 : Int32)) x1 x2 o2 ho2) (va_cwS 3 hts gX11_descriptions_X11_part rfl rfl rfl (by decide +kernel) ⟨Nat.le_of_ble_eq_true rfl, Nat.le_of_ble_eq_true rfl⟩) ⟨fun a U g mk q => by obtain ⟨q0, q1, qP, qK, qN, qD⟩ := q; exact ⟨q0, q1, qP, va_K.moved (u := U) (U := U.calling g mk a) (Vm.Alike.refl U.vm) qK, nwS (u := U) (U := U.calling g mk a) rfl qN, qD⟩, fun U hU hW => ⟨rfl, by rw [hU], by rw [hU]; exact hPc, va_K.moved hW.alike hK, nwW hW hN, hDc.weaken (fun _ _ _ _ => trivial)⟩⟩ rfl rfl hl.1 rfl (lv_room (Nat.le_of_ble_eq_true rfl)) dX11_descriptions_112 ⟨Nat.zero_le _, Nat.zero_le _⟩) hS (fun q _ h => hFc q h) hFc (fun r9 u9 t H1 locs ht hvm hw hB hz1 hk1 hS => ?_)
        have hw := hw.symm
        subst hw
        obtain ⟨hP1, hK1, hD1⟩ := hB
        rw [ht] at hP1
        obtain ⟨hP, hD⟩ := va_join (wr := [(h_t, .inr (10, [.ref h_t_s, .ref h_t_was, .ref h_t_begun, .int t_states, .ref h_t_text, .int t_typed, .ref h_t_wrong, .ref h_t_cost, .ref h_t_first, .ref h_t_block, .ref h_t_many, .ref h_t_stack, .int t_height, .ref h_t_written, .int t_length, .ref h_t_own, .ref h_t_levelAt, .ref h_t_itemAt, .ref h_t_times, .int t_at, .int t_ownLength, .int t_depth, .int t_deepest, .int t_letters, .int t_repeats, .int t_corrections, .int t_mostCorrections, .int t_place, .int t_reason])), (h_t_many, .inl (cJ, 3125, .inr (.inl t_many))), (h_t_s, .inl (cI, 30, .inl t_s)), (h_t_wrong, .inl (cI, 15625, .inl t_wrong))]) (w1 := []) hP hD [] [0, 1, 2, 3] rfl rfl (by decide) (by decide) hk1 hFc hP1 hD1
        generalize H1 = H at hP hS ⊢
        have hP : va_P (dC, dI) vwCl [(h_t, .inr (10, [.ref h_t_s, .ref h_t_was, .ref h_t_begun, .int t_states, .ref h_t_text, .int t_typed, .ref h_t_wrong, .ref h_t_cost, .ref h_t_first, .ref h_t_block, .ref h_t_many, .ref h_t_stack, .int t_height, .ref h_t_written, .int t_length, .ref h_t_own, .ref h_t_levelAt, .ref h_t_itemAt, .ref h_t_times, .int t_at, .int t_ownLength, .int t_depth, .int t_deepest, .int t_letters, .int t_repeats, .int t_corrections, .int t_mostCorrections, .int t_place, .int t_reason])), (h_t_many, .inl (cJ, 3125, .inr (.inl t_many))), (h_t_s, .inl (cI, 30, .inl t_s)), (h_t_wrong, .inl (cI, 15625, .inl t_wrong))] H := hP
        have hD : va_D A [(h_t, .inr (10, [.ref h_t_s, .ref h_t_was, .ref h_t_begun, .int t_states, .ref h_t_text, .int t_typed, .ref h_t_wrong, .ref h_t_cost, .ref h_t_first, .ref h_t_block, .ref h_t_many, .ref h_t_stack, .int t_height, .ref h_t_written, .int t_length, .ref h_t_own, .ref h_t_levelAt, .ref h_t_itemAt, .ref h_t_times, .int t_at, .int t_ownLength, .int t_depth, .int t_deepest, .int t_letters, .int t_repeats, .int t_corrections, .int t_mostCorrections, .int t_place, .int t_reason])), (h_t_many, .inl (cJ, 3125, .inr (.inl t_many))), (h_t_s, .inl (cI, 30, .inl t_s)), (h_t_wrong, .inl (cI, 15625, .inl t_wrong))] := hD
        obtain ⟨c_3, hres⟩ := ck_of hres
        refine va_lald hx hb hK hP 1 1 rfl rfl c_3 dX11_descriptions_115 ?_
        obtain ⟨e9_0, e9_1, e9_2⟩ := tup3 hres
        subst e9_0
        subst e9_1
        subst e9_2
        rw [← hQQ]
        exact W.lret (v := (rdL t_many o2)) hx hb hr (fun t ht hW => ⟨⟨(rdL t_many o2), (), rfl, rfl, by rw [ht]; exact hP, va_K.moved hW.alike hK, hD⟩, hS.F ht⟩) hS.2.2 dX11_descriptions_116
      · have hres := ie_of hres c_1
        refine lv_aload_n hx hb dX11_descriptions_29 rfl (lv_at hl 0 rfl) ?_
        refine va_get (D := (dC, dI)) (ci := 10) (v := .ref h_t_s) (C := RX11) (T := TX11) (N := 29) hx hb hts iMD_descriptions_X11_descriptions_1 hown hK hP 0 rfl rfl 0 (by decide) (hts _ kMD_descriptions_X11_descriptions_0) (fun _ h9 => h9) rfl dX11_descriptions_30 ?_
        refine lv_iconst (v := (0 : Int32)) hx hb dX11_descriptions_33 (by decide) ?_
        refine va_iald hx hb hK hP 2 0 rfl rfl (vin (by decide)) dX11_descriptions_34 ?_
        refine lv_istore (lv' := [(4, .int (rd t_s (0 : Int32))), (0, .ref h_t), (1, .int x1), (2, .int x2), (3, .int x3)]) hx hb dX11_descriptions_35 hl (by decide) rfl (fun ls hl => ?_)
        exact hL37 FU x3 (rd t_s (0 : Int32)) t_many t_wrong H locs ls hres hP hD hS (lv_sub hl [1, 2, 3, 4, 0] rfl)
  rw [fMD_descriptions] at hres
  refine lv_aload_n hx hb dX11_descriptions_0 rfl (lv_at hl 0 rfl) ?_
  refine lv_iload_n hx hb dX11_descriptions_1 rfl (lv_at hl 1 rfl) ?_
  refine lv_iload_n hx hb dX11_descriptions_2 rfl (lv_at hl 2 rfl) ?_
  obtain ⟨o9, ho9, hres⟩ := bd_of hres
  have hPc := hP.sub (ws' := [(h_t, .inr (10, [.ref h_t_s, .ref h_t_was, .ref h_t_begun, .int t_states, .ref h_t_text, .int t_typed, .ref h_t_wrong, .ref h_t_cost, .ref h_t_first, .ref h_t_block, .ref h_t_many, .ref h_t_stack, .int t_height, .ref h_t_written, .int t_length, .ref h_t_own, .ref h_t_levelAt, .ref h_t_itemAt, .ref h_t_times, .int t_at, .int t_ownLength, .int t_depth, .int t_deepest, .int t_letters, .int t_repeats, .int t_corrections, .int t_mostCorrections, .int t_place, .int t_reason])), (h_t_s, .inl (cI, 30, .inl t_s))]) [0, 2] rfl
  have hDc := hD.sub (ws' := [(h_t, .inr (10, [.ref h_t_s, .ref h_t_was, .ref h_t_begun, .int t_states, .ref h_t_text, .int t_typed, .ref h_t_wrong, .ref h_t_cost, .ref h_t_first, .ref h_t_block, .ref h_t_many, .ref h_t_stack, .int t_height, .ref h_t_written, .int t_length, .ref h_t_own, .ref h_t_levelAt, .ref h_t_itemAt, .ref h_t_times, .int t_at, .int t_ownLength, .int t_depth, .int t_deepest, .int t_letters, .int t_repeats, .int t_corrections, .int t_mostCorrections, .int t_place, .int t_reason])), (h_t_s, .inl (cI, 30, .inl t_s))]) [0, 2] (by decide) rfl
  have hFc := va_free (wc := [(h_t, .inr (10, [.ref h_t_s, .ref h_t_was, .ref h_t_begun, .int t_states, .ref h_t_text, .int t_typed, .ref h_t_wrong, .ref h_t_cost, .ref h_t_first, .ref h_t_block, .ref h_t_many, .ref h_t_stack, .int t_height, .ref h_t_written, .int t_length, .ref h_t_own, .ref h_t_levelAt, .ref h_t_itemAt, .ref h_t_times, .int t_at, .int t_ownLength, .int t_depth, .int t_deepest, .int t_letters, .int t_repeats, .int t_corrections, .int t_mostCorrections, .int t_place, .int t_reason])), (h_t_s, .inl (cI, 30, .inl t_s))]) hD hS hA [0, 2] rfl
  refine va_calli (va_runV (As := [.int x1, .int x2]) (rest := []) ⟨hx, hb, hml, hown, hts⟩ (cMD_isPart l dC dI cI cJ cC cS h_t h_t_s h_t_was h_t_begun h_t_text h_t_wrong h_t_cost h_t_first h_t_block h_t_many h_t_stack h_t_written h_t_own h_t_levelAt h_t_itemAt h_t_times H.size t_states t_typed t_height t_length t_at t_ownLength t_depth t_deepest t_letters t_repeats t_corrections t_mostCorrections t_place t_reason t_s x1 x2 o9 ho9) (cwV 2 hts gX11_descriptions_X11_isPart rfl rfl rfl (by decide +kernel) ⟨Nat.le_of_ble_eq_true rfl, Nat.le_of_ble_eq_true rfl⟩) ⟨fun a U g mk q => by obtain ⟨q0, q1, qP, qK, qN, qD⟩ := q; exact ⟨q0, q1, qP, va_K.moved (u := U) (U := U.calling g mk a) (Vm.Alike.refl U.vm) qK, nwS (u := U) (U := U.calling g mk a) rfl qN, qD⟩, va_recv hK hPc (ci := 10) (q0 := 0) rfl rfl, fun U hU hW => ⟨rfl, by rw [hU], by rw [hU]; exact hPc, va_K.moved hW.alike hK, nwW hW hN, hDc.weaken (fun _ _ _ _ => trivial)⟩⟩ rfl rfl hl.1 rfl (lv_room (Nat.le_of_ble_eq_true rfl)) dX11_descriptions_3 ⟨Nat.zero_le _, Nat.zero_le _⟩) hS (fun q _ h => hFc q h) hFc (fun r9 u9 t H1 locs ht hvm hw hB hz1 hk1 hS => ?_)
  have hw := hw.symm
  subst hw
  obtain ⟨hP1, hK1, hD1⟩ := hB
  rw [ht] at hP1
  obtain ⟨hP, hD⟩ := va_join (wr := [(h_t_many, .inl (cJ, 3125, .inr (.inl t_many))), (h_t_wrong, .inl (cI, 15625, .inl t_wrong))]) (w1 := [(h_t, .inr (10, [.ref h_t_s, .ref h_t_was, .ref h_t_begun, .int t_states, .ref h_t_text, .int t_typed, .ref h_t_wrong, .ref h_t_cost, .ref h_t_first, .ref h_t_block, .ref h_t_many, .ref h_t_stack, .int t_height, .ref h_t_written, .int t_length, .ref h_t_own, .ref h_t_levelAt, .ref h_t_itemAt, .ref h_t_times, .int t_at, .int t_ownLength, .int t_depth, .int t_deepest, .int t_letters, .int t_repeats, .int t_corrections, .int t_mostCorrections, .int t_place, .int t_reason])), (h_t_s, .inl (cI, 30, .inl t_s))]) hP hD [0, 2] [1, 3] rfl rfl (by decide) (by decide) hk1 hFc hP1 hD1
  generalize H1 = H at hP hS ⊢
  have hP : va_P (dC, dI) vwCl [(h_t_many, .inl (cJ, 3125, .inr (.inl t_many))), (h_t_wrong, .inl (cI, 15625, .inl t_wrong)), (h_t, .inr (10, [.ref h_t_s, .ref h_t_was, .ref h_t_begun, .int t_states, .ref h_t_text, .int t_typed, .ref h_t_wrong, .ref h_t_cost, .ref h_t_first, .ref h_t_block, .ref h_t_many, .ref h_t_stack, .int t_height, .ref h_t_written, .int t_length, .ref h_t_own, .ref h_t_levelAt, .ref h_t_itemAt, .ref h_t_times, .int t_at, .int t_ownLength, .int t_depth, .int t_deepest, .int t_letters, .int t_repeats, .int t_corrections, .int t_mostCorrections, .int t_place, .int t_reason])), (h_t_s, .inl (cI, 30, .inl t_s))] H := hP
  have hD : va_D A [(h_t_many, .inl (cJ, 3125, .inr (.inl t_many))), (h_t_wrong, .inl (cI, 15625, .inl t_wrong)), (h_t, .inr (10, [.ref h_t_s, .ref h_t_was, .ref h_t_begun, .int t_states, .ref h_t_text, .int t_typed, .ref h_t_wrong, .ref h_t_cost, .ref h_t_first, .ref h_t_block, .ref h_t_many, .ref h_t_stack, .int t_height, .ref h_t_written, .int t_length, .ref h_t_own, .ref h_t_levelAt, .ref h_t_itemAt, .ref h_t_times, .int t_at, .int t_ownLength, .int t_depth, .int t_deepest, .int t_letters, .int t_repeats, .int t_corrections, .int t_mostCorrections, .int t_place, .int t_reason])), (h_t_s, .inl (cI, 30, .inl t_s))] := hD
  refine lv_if_ne (tgt := 13) hx hb dX11_descriptions_6 (by decide) (fun c_10 => ?_) (fun c_10 => ?_)
  · have hres := ie_of hres c_10
    refine lv_aload_n hx hb dX11_descriptions_13 rfl (lv_at hl 0 rfl) ?_
    obtain ⟨o11, ho11, hres⟩ := bd_of hres
    have hPc := hP.sub (ws' := [(h_t, .inr (10, [.ref h_t_s, .ref h_t_was, .ref h_t_begun, .int t_states, .ref h_t_text, .int t_typed, .ref h_t_wrong, .ref h_t_cost, .ref h_t_first, .ref h_t_block, .ref h_t_many, .ref h_t_stack, .int t_height, .ref h_t_written, .int t_length, .ref h_t_own, .ref h_t_levelAt, .ref h_t_itemAt, .ref h_t_times, .int t_at, .int t_ownLength, .int t_depth, .int t_deepest, .int t_letters, .int t_repeats, .int t_corrections, .int t_mostCorrections, .int t_place, .int t_reason])), (h_t_s, .inl (cI, 30, .inl t_s)), (h_t_wrong, .inl (cI, 15625, .inl t_wrong))]) [2, 3, 1] rfl
    have hDc := hD.sub (ws' := [(h_t, .inr (10, [.ref h_t_s, .ref h_t_was, .ref h_t_begun, .int t_states, .ref h_t_text, .int t_typed, .ref h_t_wrong, .ref h_t_cost, .ref h_t_first, .ref h_t_block, .ref h_t_many, .ref h_t_stack, .int t_height, .ref h_t_written, .int t_length, .ref h_t_own, .ref h_t_levelAt, .ref h_t_itemAt, .ref h_t_times, .int t_at, .int t_ownLength, .int t_depth, .int t_deepest, .int t_letters, .int t_repeats, .int t_corrections, .int t_mostCorrections, .int t_place, .int t_reason])), (h_t_s, .inl (cI, 30, .inl t_s)), (h_t_wrong, .inl (cI, 15625, .inl t_wrong))]) [2, 3, 1] (by decide) rfl
    have hFc := va_free (wc := [(h_t, .inr (10, [.ref h_t_s, .ref h_t_was, .ref h_t_begun, .int t_states, .ref h_t_text, .int t_typed, .ref h_t_wrong, .ref h_t_cost, .ref h_t_first, .ref h_t_block, .ref h_t_many, .ref h_t_stack, .int t_height, .ref h_t_written, .int t_length, .ref h_t_own, .ref h_t_levelAt, .ref h_t_itemAt, .ref h_t_times, .int t_at, .int t_ownLength, .int t_depth, .int t_deepest, .int t_letters, .int t_repeats, .int t_corrections, .int t_mostCorrections, .int t_place, .int t_reason])), (h_t_s, .inl (cI, 30, .inl t_s)), (h_t_wrong, .inl (cI, 15625, .inl t_wrong))]) hD hS hA [2, 3, 1] rfl
    refine va_callv (va_runV (As := []) (rest := []) ⟨hx, hb, hml, hown, hts⟩ (cMD_corrects l dC dI cI cJ cC cS h_t h_t_s h_t_was h_t_begun h_t_text h_t_wrong h_t_cost h_t_first h_t_block h_t_many h_t_stack h_t_written h_t_own h_t_levelAt h_t_itemAt h_t_times H.size t_states t_typed t_height t_length t_at t_ownLength t_depth t_deepest t_letters t_repeats t_corrections t_mostCorrections t_place t_reason t_s t_wrong o11 ho11) (cwV 0 hts gX11_descriptions_X11_corrects rfl rfl rfl (by decide +kernel) ⟨Nat.le_of_ble_eq_true rfl, Nat.le_of_ble_eq_true rfl⟩) ⟨fun a U g mk q => by obtain ⟨q0, q1, qP, qK, qN, qD⟩ := q; exact ⟨q0, q1, qP, va_K.moved (u := U) (U := U.calling g mk a) (Vm.Alike.refl U.vm) qK, nwS (u := U) (U := U.calling g mk a) rfl qN, qD⟩, va_recv hK hPc (ci := 10) (q0 := 0) rfl rfl, fun U hU hW => ⟨rfl, by rw [hU], by rw [hU]; exact hPc, va_K.moved hW.alike hK, nwW hW hN, hDc.weaken (fun _ _ _ _ => trivial)⟩⟩ rfl rfl hl.1 rfl (lv_room (Nat.le_of_ble_eq_true rfl)) dX11_descriptions_14 ⟨Nat.zero_le _, Nat.zero_le _⟩) hS (fun q _ h => hFc q h) hFc (fun u9 t H1 locs ht hvm hw hB hz1 hk1 hS => ?_)
    obtain ⟨hP1, hK1, hD1⟩ := hB
    rw [ht] at hP1
    obtain ⟨hP, hD⟩ := va_join (wr := [(h_t_many, .inl (cJ, 3125, .inr (.inl t_many)))]) (w1 := [(h_t, .inr (10, [.ref h_t_s, .ref h_t_was, .ref h_t_begun, .int t_states, .ref h_t_text, .int t_typed, .ref h_t_wrong, .ref h_t_cost, .ref h_t_first, .ref h_t_block, .ref h_t_many, .ref h_t_stack, .int t_height, .ref h_t_written, .int t_length, .ref h_t_own, .ref h_t_levelAt, .ref h_t_itemAt, .ref h_t_times, .int t_at, .int t_ownLength, .int t_depth, .int t_deepest, .int t_letters, .int t_repeats, .int t_corrections, .int t_mostCorrections, .int t_place, .int t_reason])), (h_t_s, .inl (cI, 30, .inl t_s)), (h_t_wrong, .inl (cI, 15625, .inl o11))]) hP hD [2, 3, 1] [0] rfl rfl (by decide) (by decide) hk1 hFc hP1 hD1
    generalize H1 = H at hP hS ⊢
    have hP : va_P (dC, dI) vwCl [(h_t_many, .inl (cJ, 3125, .inr (.inl t_many))), (h_t, .inr (10, [.ref h_t_s, .ref h_t_was, .ref h_t_begun, .int t_states, .ref h_t_text, .int t_typed, .ref h_t_wrong, .ref h_t_cost, .ref h_t_first, .ref h_t_block, .ref h_t_many, .ref h_t_stack, .int t_height, .ref h_t_written, .int t_length, .ref h_t_own, .ref h_t_levelAt, .ref h_t_itemAt, .ref h_t_times, .int t_at, .int t_ownLength, .int t_depth, .int t_deepest, .int t_letters, .int t_repeats, .int t_corrections, .int t_mostCorrections, .int t_place, .int t_reason])), (h_t_s, .inl (cI, 30, .inl t_s)), (h_t_wrong, .inl (cI, 15625, .inl o11))] H := hP
    have hD : va_D A [(h_t_many, .inl (cJ, 3125, .inr (.inl t_many))), (h_t, .inr (10, [.ref h_t_s, .ref h_t_was, .ref h_t_begun, .int t_states, .ref h_t_text, .int t_typed, .ref h_t_wrong, .ref h_t_cost, .ref h_t_first, .ref h_t_block, .ref h_t_many, .ref h_t_stack, .int t_height, .ref h_t_written, .int t_length, .ref h_t_own, .ref h_t_levelAt, .ref h_t_itemAt, .ref h_t_times, .int t_at, .int t_ownLength, .int t_depth, .int t_deepest, .int t_letters, .int t_repeats, .int t_corrections, .int t_mostCorrections, .int t_place, .int t_reason])), (h_t_s, .inl (cI, 30, .inl t_s)), (h_t_wrong, .inl (cI, 15625, .inl o11))] := hD
    refine lv_iconst (v := (0 : Int32)) hx hb dX11_descriptions_17 (by decide) ?_
    refine lv_istore_n (lv' := [(3, .int (0 : Int32)), (0, .ref h_t), (1, .int x1), (2, .int x2)]) hx hb dX11_descriptions_18 rfl hl (by decide) rfl (fun ls hl => ?_)
    exact hL19 FU (0 : Int32) t_many o11 H locs ls hres (hP.sub [1, 0, 2, 3] rfl) (hD.sub [1, 0, 2, 3] (by decide) rfl) hS (lv_sub hl [1, 2, 3, 0] rfl)
  · have hres := it_of hres c_10
    refine lv_ldc2 (v := (-1000001 : Int64)) hx hb hown (hts _ kMD_descriptions_X11_descriptions_3) dX11_descriptions_9 ?_
    obtain ⟨e9_0, e9_1, e9_2⟩ := tup3 hres
    subst e9_0
    subst e9_1
    subst e9_2
    rw [← hQQ]
    exact W.lret (v := (-1000001 : Int64)) hx hb hr (fun t ht hW => ⟨⟨(-1000001 : Int64), (), rfl, rfl, by rw [ht]; exact hP.sub [2, 0, 3, 1] rfl, va_K.moved hW.alike hK, hD.sub [2, 0, 3, 1] (by decide) rfl⟩, hS.F ht⟩) hS.2.2 dX11_descriptions_12

-- MD_fault
theorem kMD_fault_X11_fault_0 : Cond.fieldLink RX11 164 "RepeatNestsModel" "reason" "I" ∈ wsX11_fault := by decide +kernel
theorem iMD_fault_X11_fault_1 : ∀ w ∈ wsX110, w ∈ wsX11_fault := by decide +kernel
theorem kMD_fault_X11_fault_2 : Cond.fieldLink RX11 161 "RepeatNestsModel" "place" "I" ∈ wsX11_fault := by decide +kernel
theorem kMD_fault_X11_fault_3 : Cond.constant RX11 79 (-1000004) ∈ wsX11_fault := by decide +kernel
theorem kMD_fault_X11_fault_4 : Cond.constant RX11 57 (-1000001) ∈ wsX11_fault := by decide +kernel
set_option maxHeartbeats 4000000 in
set_option maxRecDepth 100000 in
theorem cMD_fault (l : Launch) (dC : Nat → ClassId) (dI : Nat → Nat → Nat) (cI cJ cC cS : ClassId) (h_t h_t_s h_t_was h_t_begun h_t_text h_t_wrong h_t_cost h_t_first h_t_block h_t_many h_t_stack h_t_written h_t_own h_t_levelAt h_t_itemAt h_t_times : Nat) (sz : Nat) (t_states : Int32) (t_typed : Int32) (t_height : Int32) (t_length : Int32) (t_at : Int32) (t_ownLength : Int32) (t_depth : Int32) (t_deepest : Int32) (t_letters : Int32) (t_repeats : Int32) (t_corrections : Int32) (t_mostCorrections : Int32) (t_place : Int32) (t_reason : Int32) (t_itemAt : Nat → Int32) (t_levelAt : Nat → Int32) (t_own : Nat → Int32) (t_text : Nat → Int32) (t_times : Nat → Int32) (x1 : Int32) (r : Int32) (y_t_at : Int32) (y_t_ownLength : Int32) (y_t_depth : Int32) (y_t_deepest : Int32) (y_t_letters : Int32) (y_t_repeats : Int32) (y_t_corrections : Int32) (y_t_mostCorrections : Int32) (y_t_place : Int32) (y_t_reason : Int32) (y_t_itemAt : Nat → Int32) (y_t_levelAt : Nat → Int32) (y_t_own : Nat → Int32) (y_t_times : Nat → Int32) (hres : fMD_fault t_typed t_text t_at t_ownLength t_depth t_deepest t_letters t_repeats t_corrections t_mostCorrections t_place t_reason t_itemAt t_levelAt t_own t_times x1 = some (r, y_t_at, y_t_ownLength, y_t_depth, y_t_deepest, y_t_letters, y_t_repeats, y_t_corrections, y_t_mostCorrections, y_t_place, y_t_reason, y_t_itemAt, y_t_levelAt, y_t_own, y_t_times)) :
    Met l yX11_fault wsX11_fault ({ frames := 5, cells := 0, slots := 0, locals := 120 } : Room) (va_Pc [.ref h_t, .int x1] (fun (U : State) => U.heap.size = sz ∧ va_P (dC, dI) vwCl [(h_t, .inr (10, [.ref h_t_s, .ref h_t_was, .ref h_t_begun, .int t_states, .ref h_t_text, .int t_typed, .ref h_t_wrong, .ref h_t_cost, .ref h_t_first, .ref h_t_block, .ref h_t_many, .ref h_t_stack, .int t_height, .ref h_t_written, .int t_length, .ref h_t_own, .ref h_t_levelAt, .ref h_t_itemAt, .ref h_t_times, .int t_at, .int t_ownLength, .int t_depth, .int t_deepest, .int t_letters, .int t_repeats, .int t_corrections, .int t_mostCorrections, .int t_place, .int t_reason])), (h_t_itemAt, .inl (cI, 62, .inl t_itemAt)), (h_t_levelAt, .inl (cI, 62, .inl t_levelAt)), (h_t_own, .inl (cI, 1500, .inl t_own)), (h_t_text, .inl (cC, 60, .inl t_text)), (h_t_times, .inl (cI, 62, .inl t_times))] U.heap ∧ va_K (dC, dI) vwCl (tyA cI cJ cC cS) U ∧ nwN U ∧ va_D (fun _ => True) [(h_t, .inr (10, [.ref h_t_s, .ref h_t_was, .ref h_t_begun, .int t_states, .ref h_t_text, .int t_typed, .ref h_t_wrong, .ref h_t_cost, .ref h_t_first, .ref h_t_block, .ref h_t_many, .ref h_t_stack, .int t_height, .ref h_t_written, .int t_length, .ref h_t_own, .ref h_t_levelAt, .ref h_t_itemAt, .ref h_t_times, .int t_at, .int t_ownLength, .int t_depth, .int t_deepest, .int t_letters, .int t_repeats, .int t_corrections, .int t_mostCorrections, .int t_place, .int t_reason])), (h_t_itemAt, .inl (cI, 62, .inl t_itemAt)), (h_t_levelAt, .inl (cI, 62, .inl t_levelAt)), (h_t_own, .inl (cI, 1500, .inl t_own)), (h_t_text, .inl (cC, 60, .inl t_text)), (h_t_times, .inl (cI, 62, .inl t_times))])) (va_Qi (fun (r9 : Int32) (_ : Unit) => r9 = r) (fun (_ : Unit) (t : State) => va_P (dC, dI) vwCl [(h_t, .inr (10, [.ref h_t_s, .ref h_t_was, .ref h_t_begun, .int t_states, .ref h_t_text, .int t_typed, .ref h_t_wrong, .ref h_t_cost, .ref h_t_first, .ref h_t_block, .ref h_t_many, .ref h_t_stack, .int t_height, .ref h_t_written, .int t_length, .ref h_t_own, .ref h_t_levelAt, .ref h_t_itemAt, .ref h_t_times, .int y_t_at, .int y_t_ownLength, .int y_t_depth, .int y_t_deepest, .int y_t_letters, .int y_t_repeats, .int y_t_corrections, .int y_t_mostCorrections, .int y_t_place, .int y_t_reason])), (h_t_itemAt, .inl (cI, 62, .inl y_t_itemAt)), (h_t_levelAt, .inl (cI, 62, .inl y_t_levelAt)), (h_t_own, .inl (cI, 1500, .inl y_t_own)), (h_t_text, .inl (cC, 60, .inl t_text)), (h_t_times, .inl (cI, 62, .inl y_t_times))] t.heap ∧ va_K (dC, dI) vwCl (tyA cI cJ cC cS) t ∧ va_D (va_A [(h_t, .inr (10, [.ref h_t_s, .ref h_t_was, .ref h_t_begun, .int t_states, .ref h_t_text, .int t_typed, .ref h_t_wrong, .ref h_t_cost, .ref h_t_first, .ref h_t_block, .ref h_t_many, .ref h_t_stack, .int t_height, .ref h_t_written, .int t_length, .ref h_t_own, .ref h_t_levelAt, .ref h_t_itemAt, .ref h_t_times, .int t_at, .int t_ownLength, .int t_depth, .int t_deepest, .int t_letters, .int t_repeats, .int t_corrections, .int t_mostCorrections, .int t_place, .int t_reason])), (h_t_itemAt, .inl (cI, 62, .inl t_itemAt)), (h_t_levelAt, .inl (cI, 62, .inl t_levelAt)), (h_t_own, .inl (cI, 1500, .inl t_own)), (h_t_text, .inl (cC, 60, .inl t_text)), (h_t_times, .inl (cI, 62, .inl t_times))] sz) [(h_t, .inr (10, [.ref h_t_s, .ref h_t_was, .ref h_t_begun, .int t_states, .ref h_t_text, .int t_typed, .ref h_t_wrong, .ref h_t_cost, .ref h_t_first, .ref h_t_block, .ref h_t_many, .ref h_t_stack, .int t_height, .ref h_t_written, .int t_length, .ref h_t_own, .ref h_t_levelAt, .ref h_t_itemAt, .ref h_t_times, .int y_t_at, .int y_t_ownLength, .int y_t_depth, .int y_t_deepest, .int y_t_letters, .int y_t_repeats, .int y_t_corrections, .int y_t_mostCorrections, .int y_t_place, .int y_t_reason])), (h_t_itemAt, .inl (cI, 62, .inl y_t_itemAt)), (h_t_levelAt, .inl (cI, 62, .inl y_t_levelAt)), (h_t_own, .inl (cI, 1500, .inl y_t_own)), (h_t_text, .inl (cC, 60, .inl t_text)), (h_t_times, .inl (cI, 62, .inl y_t_times))]) (va_A [(h_t, .inr (10, [.ref h_t_s, .ref h_t_was, .ref h_t_begun, .int t_states, .ref h_t_text, .int t_typed, .ref h_t_wrong, .ref h_t_cost, .ref h_t_first, .ref h_t_block, .ref h_t_many, .ref h_t_stack, .int t_height, .ref h_t_written, .int t_length, .ref h_t_own, .ref h_t_levelAt, .ref h_t_itemAt, .ref h_t_times, .int t_at, .int t_ownLength, .int t_depth, .int t_deepest, .int t_letters, .int t_repeats, .int t_corrections, .int t_mostCorrections, .int t_place, .int t_reason])), (h_t_itemAt, .inl (cI, 62, .inl t_itemAt)), (h_t_levelAt, .inl (cI, 62, .inl t_levelAt)), (h_t_own, .inl (cI, 1500, .inl t_own)), (h_t_text, .inl (cC, 60, .inl t_text)), (h_t_times, .inl (cI, 62, .inl t_times))] sz)) 0 0 (va_A [(h_t, .inr (10, [.ref h_t_s, .ref h_t_was, .ref h_t_begun, .int t_states, .ref h_t_text, .int t_typed, .ref h_t_wrong, .ref h_t_cost, .ref h_t_first, .ref h_t_block, .ref h_t_many, .ref h_t_stack, .int t_height, .ref h_t_written, .int t_length, .ref h_t_own, .ref h_t_levelAt, .ref h_t_itemAt, .ref h_t_times, .int t_at, .int t_ownLength, .int t_depth, .int t_deepest, .int t_letters, .int t_repeats, .int t_corrections, .int t_mostCorrections, .int t_place, .int t_reason])), (h_t_itemAt, .inl (cI, 62, .inl t_itemAt)), (h_t_levelAt, .inl (cI, 62, .inl t_levelAt)), (h_t_own, .inl (cI, 1500, .inl t_own)), (h_t_text, .inl (cC, 60, .inl t_text)), (h_t_times, .inl (cI, 62, .inl t_times))] sz) := by
  refine Met.ofW (cc := cX11_fault) (maxL := 2) (ret := (some .int)) (by decide) rfl ?_
  intro p e s m args below meth c s₁ B hml hv
  obtain ⟨hargs, hsz, hP, hK, hN, hD0⟩ := hv
  have hx := B.exec
  have hb := B.bytes
  have hr := B.returns
  have hts := atoms_spec (ws := wsX11_fault) B.pre
  have hown : s.vm.findClass RX11 = some m.cls := findClass_of_methodNamed B.named
  have hlocks := B.notSynchronized
  subst hsz
  have hD := hD0.self (sz := s.heap.size)
  generalize hAe : va_A [(h_t, .inr (10, [.ref h_t_s, .ref h_t_was, .ref h_t_begun, .int t_states, .ref h_t_text, .int t_typed, .ref h_t_wrong, .ref h_t_cost, .ref h_t_first, .ref h_t_block, .ref h_t_many, .ref h_t_stack, .int t_height, .ref h_t_written, .int t_length, .ref h_t_own, .ref h_t_levelAt, .ref h_t_itemAt, .ref h_t_times, .int t_at, .int t_ownLength, .int t_depth, .int t_deepest, .int t_letters, .int t_repeats, .int t_corrections, .int t_mostCorrections, .int t_place, .int t_reason])), (h_t_itemAt, .inl (cI, 62, .inl t_itemAt)), (h_t_levelAt, .inl (cI, 62, .inl t_levelAt)), (h_t_own, .inl (cI, 1500, .inl t_own)), (h_t_text, .inl (cC, 60, .inl t_text)), (h_t_times, .inl (cI, 62, .inl t_times))] s.heap.size = A at hD ⊢
  have hA : ∀ q : Nat, s.heap.size ≤ q → A q := fun q h => by rw [← hAe]; exact Or.inr h
  have hS : va_S A s.heap s.heap [] := va_S.rf
  have hP : va_P (dC, dI) vwCl [(h_t, .inr (10, [.ref h_t_s, .ref h_t_was, .ref h_t_begun, .int t_states, .ref h_t_text, .int t_typed, .ref h_t_wrong, .ref h_t_cost, .ref h_t_first, .ref h_t_block, .ref h_t_many, .ref h_t_stack, .int t_height, .ref h_t_written, .int t_length, .ref h_t_own, .ref h_t_levelAt, .ref h_t_itemAt, .ref h_t_times, .int t_at, .int t_ownLength, .int t_depth, .int t_deepest, .int t_letters, .int t_repeats, .int t_corrections, .int t_mostCorrections, .int t_place, .int t_reason])), (h_t_itemAt, .inl (cI, 62, .inl t_itemAt)), (h_t_levelAt, .inl (cI, 62, .inl t_levelAt)), (h_t_own, .inl (cI, 1500, .inl t_own)), (h_t_text, .inl (cC, 60, .inl t_text)), (h_t_times, .inl (cI, 62, .inl t_times))] s.heap := hP
  have hl := lv_entry [.ref h_t, .int x1] (n := 2) (Nat.le_of_ble_eq_true rfl)
  rw [show entryFrame m args 2 = entryFrame m ([.ref h_t, .int x1] : List Value).toArray 2 from by rw [hargs], lg_entry_eq]
  generalize (lg_sl [.ref h_t, .int x1] ++ List.replicate (2 - (lg_sl [.ref h_t, .int x1]).length) Slot.unset).toArray = ls at hl ⊢
  have hl : lv_has ls 2 [(0, .ref h_t), (1, .int x1)] := hl
  generalize hQQ : MQ below (va_Qi (fun (r9 : Int32) (_ : Unit) => r9 = r) (fun (_ : Unit) (t : State) => va_P (dC, dI) vwCl [(h_t, .inr (10, [.ref h_t_s, .ref h_t_was, .ref h_t_begun, .int t_states, .ref h_t_text, .int t_typed, .ref h_t_wrong, .ref h_t_cost, .ref h_t_first, .ref h_t_block, .ref h_t_many, .ref h_t_stack, .int t_height, .ref h_t_written, .int t_length, .ref h_t_own, .ref h_t_levelAt, .ref h_t_itemAt, .ref h_t_times, .int y_t_at, .int y_t_ownLength, .int y_t_depth, .int y_t_deepest, .int y_t_letters, .int y_t_repeats, .int y_t_corrections, .int y_t_mostCorrections, .int y_t_place, .int y_t_reason])), (h_t_itemAt, .inl (cI, 62, .inl y_t_itemAt)), (h_t_levelAt, .inl (cI, 62, .inl y_t_levelAt)), (h_t_own, .inl (cI, 1500, .inl y_t_own)), (h_t_text, .inl (cC, 60, .inl t_text)), (h_t_times, .inl (cI, 62, .inl y_t_times))] t.heap ∧ va_K (dC, dI) vwCl (tyA cI cJ cC cS) t ∧ va_D A [(h_t, .inr (10, [.ref h_t_s, .ref h_t_was, .ref h_t_begun, .int t_states, .ref h_t_text, .int t_typed, .ref h_t_wrong, .ref h_t_cost, .ref h_t_first, .ref h_t_block, .ref h_t_many, .ref h_t_stack, .int t_height, .ref h_t_written, .int t_length, .ref h_t_own, .ref h_t_levelAt, .ref h_t_itemAt, .ref h_t_times, .int y_t_at, .int y_t_ownLength, .int y_t_depth, .int y_t_deepest, .int y_t_letters, .int y_t_repeats, .int y_t_corrections, .int y_t_mostCorrections, .int y_t_place, .int y_t_reason])), (h_t_itemAt, .inl (cI, 62, .inl y_t_itemAt)), (h_t_levelAt, .inl (cI, 62, .inl y_t_levelAt)), (h_t_own, .inl (cI, 1500, .inl y_t_own)), (h_t_text, .inl (cC, 60, .inl t_text)), (h_t_times, .inl (cI, 62, .inl y_t_times))]) A) args s 0 0 A = QQ
  obtain ⟨H, hH⟩ : ∃ H : Heap, H = s.heap := ⟨_, rfl⟩
  obtain ⟨locs, hlocs⟩ : ∃ locs : List Loc, locs = [] := ⟨_, rfl⟩
  rw [← hH] at hP
  have hS : va_S A s.heap H locs := by rw [hH, hlocs]; exact hS
  suffices hZ : W p l e (headSpec wsX11_fault ({ frames := 5, cells := 0, slots := 0, locals := 120 } : Room)).room s m args below meth c H locs 0 0 QQ (F0 m 0 ls []) by rw [hH, hlocs] at hZ; exact hZ
  clear hH hlocs
  rw [fMD_fault] at hres
  refine lv_iload_n hx hb dX11_fault_0 rfl (lv_at hl 1 rfl) ?_
  refine lv_iconst (v := (0 : Int32)) hx hb dX11_fault_1 (by decide) ?_
  refine lv_iconst (v := (1 : Int32)) hx hb dX11_fault_2 (by decide) ?_
  obtain ⟨o1, ho1, hres⟩ := bd_of hres
  have hPc := hP.sub (ws' := []) [] rfl
  have hDc := hD.sub (ws' := []) [] (by decide) rfl
  have hFc := va_free (wc := []) hD hS hA [] rfl
  refine va_calli (va_runS (As := [.int x1, .int (0 : Int32), .int (1 : Int32)]) (rest := []) ⟨hx, hb, hml, hown, hts⟩ (cMD_in l dC dI cI cJ cC cS H.size x1 (0 : Int32) (1 : Int32) o1 ho1) (va_cwS 3 hts gX11_fault_X11_in rfl rfl rfl (by decide +kernel) ⟨Nat.le_of_ble_eq_true rfl, Nat.le_of_ble_eq_true rfl⟩) ⟨fun a U g mk q => by obtain ⟨q0, q1, qP, qK, qN, qD⟩ := q; exact ⟨q0, q1, qP, va_K.moved (u := U) (U := U.calling g mk a) (Vm.Alike.refl U.vm) qK, nwS (u := U) (U := U.calling g mk a) rfl qN, qD⟩, fun U hU hW => ⟨rfl, by rw [hU], by rw [hU]; exact hPc, va_K.moved hW.alike hK, nwW hW hN, hDc.weaken (fun _ _ _ _ => trivial)⟩⟩ rfl rfl hl.1 rfl (lv_room (Nat.le_of_ble_eq_true rfl)) dX11_fault_3 ⟨Nat.zero_le _, Nat.zero_le _⟩) hS (fun q _ h => hFc q h) hFc (fun r9 u9 t H1 locs ht hvm hw hB hz1 hk1 hS => ?_)
  have hw := hw.symm
  subst hw
  obtain ⟨hP1, hK1, hD1⟩ := hB
  rw [ht] at hP1
  obtain ⟨hP, hD⟩ := va_join (wr := [(h_t, .inr (10, [.ref h_t_s, .ref h_t_was, .ref h_t_begun, .int t_states, .ref h_t_text, .int t_typed, .ref h_t_wrong, .ref h_t_cost, .ref h_t_first, .ref h_t_block, .ref h_t_many, .ref h_t_stack, .int t_height, .ref h_t_written, .int t_length, .ref h_t_own, .ref h_t_levelAt, .ref h_t_itemAt, .ref h_t_times, .int t_at, .int t_ownLength, .int t_depth, .int t_deepest, .int t_letters, .int t_repeats, .int t_corrections, .int t_mostCorrections, .int t_place, .int t_reason])), (h_t_itemAt, .inl (cI, 62, .inl t_itemAt)), (h_t_levelAt, .inl (cI, 62, .inl t_levelAt)), (h_t_own, .inl (cI, 1500, .inl t_own)), (h_t_text, .inl (cC, 60, .inl t_text)), (h_t_times, .inl (cI, 62, .inl t_times))]) (w1 := []) hP hD [] [0, 1, 2, 3, 4, 5] rfl rfl (by decide) (by decide) hk1 hFc hP1 hD1
  generalize H1 = H at hP hS ⊢
  have hP : va_P (dC, dI) vwCl [(h_t, .inr (10, [.ref h_t_s, .ref h_t_was, .ref h_t_begun, .int t_states, .ref h_t_text, .int t_typed, .ref h_t_wrong, .ref h_t_cost, .ref h_t_first, .ref h_t_block, .ref h_t_many, .ref h_t_stack, .int t_height, .ref h_t_written, .int t_length, .ref h_t_own, .ref h_t_levelAt, .ref h_t_itemAt, .ref h_t_times, .int t_at, .int t_ownLength, .int t_depth, .int t_deepest, .int t_letters, .int t_repeats, .int t_corrections, .int t_mostCorrections, .int t_place, .int t_reason])), (h_t_itemAt, .inl (cI, 62, .inl t_itemAt)), (h_t_levelAt, .inl (cI, 62, .inl t_levelAt)), (h_t_own, .inl (cI, 1500, .inl t_own)), (h_t_text, .inl (cC, 60, .inl t_text)), (h_t_times, .inl (cI, 62, .inl t_times))] H := hP
  have hD : va_D A [(h_t, .inr (10, [.ref h_t_s, .ref h_t_was, .ref h_t_begun, .int t_states, .ref h_t_text, .int t_typed, .ref h_t_wrong, .ref h_t_cost, .ref h_t_first, .ref h_t_block, .ref h_t_many, .ref h_t_stack, .int t_height, .ref h_t_written, .int t_length, .ref h_t_own, .ref h_t_levelAt, .ref h_t_itemAt, .ref h_t_times, .int t_at, .int t_ownLength, .int t_depth, .int t_deepest, .int t_letters, .int t_repeats, .int t_corrections, .int t_mostCorrections, .int t_place, .int t_reason])), (h_t_itemAt, .inl (cI, 62, .inl t_itemAt)), (h_t_levelAt, .inl (cI, 62, .inl t_levelAt)), (h_t_own, .inl (cI, 1500, .inl t_own)), (h_t_text, .inl (cC, 60, .inl t_text)), (h_t_times, .inl (cI, 62, .inl t_times))] := hD
  refine lv_if_ne (tgt := 12) hx hb dX11_fault_6 (by decide) (fun c_2 => ?_) (fun c_2 => ?_)
  · have hres := ie_of hres c_2
    refine lv_aload_n hx hb dX11_fault_12 rfl (lv_at hl 0 rfl) ?_
    obtain ⟨o3, ho3, hres⟩ := bd_of hres
    have hPc := hP.sub (ws' := [(h_t, .inr (10, [.ref h_t_s, .ref h_t_was, .ref h_t_begun, .int t_states, .ref h_t_text, .int t_typed, .ref h_t_wrong, .ref h_t_cost, .ref h_t_first, .ref h_t_block, .ref h_t_many, .ref h_t_stack, .int t_height, .ref h_t_written, .int t_length, .ref h_t_own, .ref h_t_levelAt, .ref h_t_itemAt, .ref h_t_times, .int t_at, .int t_ownLength, .int t_depth, .int t_deepest, .int t_letters, .int t_repeats, .int t_corrections, .int t_mostCorrections, .int t_place, .int t_reason])), (h_t_itemAt, .inl (cI, 62, .inl t_itemAt)), (h_t_levelAt, .inl (cI, 62, .inl t_levelAt)), (h_t_own, .inl (cI, 1500, .inl t_own)), (h_t_text, .inl (cC, 60, .inl t_text)), (h_t_times, .inl (cI, 62, .inl t_times))]) [0, 1, 2, 3, 4, 5] rfl
    have hDc := hD.sub (ws' := [(h_t, .inr (10, [.ref h_t_s, .ref h_t_was, .ref h_t_begun, .int t_states, .ref h_t_text, .int t_typed, .ref h_t_wrong, .ref h_t_cost, .ref h_t_first, .ref h_t_block, .ref h_t_many, .ref h_t_stack, .int t_height, .ref h_t_written, .int t_length, .ref h_t_own, .ref h_t_levelAt, .ref h_t_itemAt, .ref h_t_times, .int t_at, .int t_ownLength, .int t_depth, .int t_deepest, .int t_letters, .int t_repeats, .int t_corrections, .int t_mostCorrections, .int t_place, .int t_reason])), (h_t_itemAt, .inl (cI, 62, .inl t_itemAt)), (h_t_levelAt, .inl (cI, 62, .inl t_levelAt)), (h_t_own, .inl (cI, 1500, .inl t_own)), (h_t_text, .inl (cC, 60, .inl t_text)), (h_t_times, .inl (cI, 62, .inl t_times))]) [0, 1, 2, 3, 4, 5] (by decide) rfl
    have hFc := va_free (wc := [(h_t, .inr (10, [.ref h_t_s, .ref h_t_was, .ref h_t_begun, .int t_states, .ref h_t_text, .int t_typed, .ref h_t_wrong, .ref h_t_cost, .ref h_t_first, .ref h_t_block, .ref h_t_many, .ref h_t_stack, .int t_height, .ref h_t_written, .int t_length, .ref h_t_own, .ref h_t_levelAt, .ref h_t_itemAt, .ref h_t_times, .int t_at, .int t_ownLength, .int t_depth, .int t_deepest, .int t_letters, .int t_repeats, .int t_corrections, .int t_mostCorrections, .int t_place, .int t_reason])), (h_t_itemAt, .inl (cI, 62, .inl t_itemAt)), (h_t_levelAt, .inl (cI, 62, .inl t_levelAt)), (h_t_own, .inl (cI, 1500, .inl t_own)), (h_t_text, .inl (cC, 60, .inl t_text)), (h_t_times, .inl (cI, 62, .inl t_times))]) hD hS hA [0, 1, 2, 3, 4, 5] rfl
    refine va_calli (va_runV (As := []) (rest := []) ⟨hx, hb, hml, hown, hts⟩ (cMD_reads l dC dI cI cJ cC cS h_t h_t_s h_t_was h_t_begun h_t_text h_t_wrong h_t_cost h_t_first h_t_block h_t_many h_t_stack h_t_written h_t_own h_t_levelAt h_t_itemAt h_t_times H.size t_states t_typed t_height t_length t_at t_ownLength t_depth t_deepest t_letters t_repeats t_corrections t_mostCorrections t_place t_reason t_itemAt t_levelAt t_own t_text t_times o3.1 o3.2.1 o3.2.2.1 o3.2.2.2.1 o3.2.2.2.2.1 o3.2.2.2.2.2.1 o3.2.2.2.2.2.2.1 o3.2.2.2.2.2.2.2.1 o3.2.2.2.2.2.2.2.2.1 o3.2.2.2.2.2.2.2.2.2.1 o3.2.2.2.2.2.2.2.2.2.2.1 o3.2.2.2.2.2.2.2.2.2.2.2.1 o3.2.2.2.2.2.2.2.2.2.2.2.2.1 o3.2.2.2.2.2.2.2.2.2.2.2.2.2.1 o3.2.2.2.2.2.2.2.2.2.2.2.2.2.2 ho3) (cwV 0 hts gX11_fault_X11_reads rfl rfl rfl (by decide +kernel) ⟨Nat.le_of_ble_eq_true rfl, Nat.le_of_ble_eq_true rfl⟩) ⟨fun a U g mk q => by obtain ⟨q0, q1, qP, qK, qN, qD⟩ := q; exact ⟨q0, q1, qP, va_K.moved (u := U) (U := U.calling g mk a) (Vm.Alike.refl U.vm) qK, nwS (u := U) (U := U.calling g mk a) rfl qN, qD⟩, va_recv hK hPc (ci := 10) (q0 := 0) rfl rfl, fun U hU hW => ⟨rfl, by rw [hU], by rw [hU]; exact hPc, va_K.moved hW.alike hK, nwW hW hN, hDc.weaken (fun _ _ _ _ => trivial)⟩⟩ rfl rfl hl.1 rfl (lv_room (Nat.le_of_ble_eq_true rfl)) dX11_fault_13 ⟨Nat.zero_le _, Nat.zero_le _⟩) hS (fun q _ h => hFc q h) hFc (fun r9 u9 t H1 locs ht hvm hw hB hz1 hk1 hS => ?_)
    have hw := hw.symm
    subst hw
    obtain ⟨hP1, hK1, hD1⟩ := hB
    rw [ht] at hP1
    obtain ⟨hP, hD⟩ := va_join (wr := []) (w1 := [(h_t, .inr (10, [.ref h_t_s, .ref h_t_was, .ref h_t_begun, .int t_states, .ref h_t_text, .int t_typed, .ref h_t_wrong, .ref h_t_cost, .ref h_t_first, .ref h_t_block, .ref h_t_many, .ref h_t_stack, .int t_height, .ref h_t_written, .int t_length, .ref h_t_own, .ref h_t_levelAt, .ref h_t_itemAt, .ref h_t_times, .int o3.2.1, .int o3.2.2.1, .int o3.2.2.2.1, .int o3.2.2.2.2.1, .int o3.2.2.2.2.2.1, .int o3.2.2.2.2.2.2.1, .int o3.2.2.2.2.2.2.2.1, .int o3.2.2.2.2.2.2.2.2.1, .int o3.2.2.2.2.2.2.2.2.2.1, .int o3.2.2.2.2.2.2.2.2.2.2.1])), (h_t_itemAt, .inl (cI, 62, .inl o3.2.2.2.2.2.2.2.2.2.2.2.1)), (h_t_levelAt, .inl (cI, 62, .inl o3.2.2.2.2.2.2.2.2.2.2.2.2.1)), (h_t_own, .inl (cI, 1500, .inl o3.2.2.2.2.2.2.2.2.2.2.2.2.2.1)), (h_t_text, .inl (cC, 60, .inl t_text)), (h_t_times, .inl (cI, 62, .inl o3.2.2.2.2.2.2.2.2.2.2.2.2.2.2))]) hP hD [0, 1, 2, 3, 4, 5] [] rfl rfl (by decide) (by decide) hk1 hFc hP1 hD1
    generalize H1 = H at hP hS ⊢
    have hP : va_P (dC, dI) vwCl [(h_t, .inr (10, [.ref h_t_s, .ref h_t_was, .ref h_t_begun, .int t_states, .ref h_t_text, .int t_typed, .ref h_t_wrong, .ref h_t_cost, .ref h_t_first, .ref h_t_block, .ref h_t_many, .ref h_t_stack, .int t_height, .ref h_t_written, .int t_length, .ref h_t_own, .ref h_t_levelAt, .ref h_t_itemAt, .ref h_t_times, .int o3.2.1, .int o3.2.2.1, .int o3.2.2.2.1, .int o3.2.2.2.2.1, .int o3.2.2.2.2.2.1, .int o3.2.2.2.2.2.2.1, .int o3.2.2.2.2.2.2.2.1, .int o3.2.2.2.2.2.2.2.2.1, .int o3.2.2.2.2.2.2.2.2.2.1, .int o3.2.2.2.2.2.2.2.2.2.2.1])), (h_t_itemAt, .inl (cI, 62, .inl o3.2.2.2.2.2.2.2.2.2.2.2.1)), (h_t_levelAt, .inl (cI, 62, .inl o3.2.2.2.2.2.2.2.2.2.2.2.2.1)), (h_t_own, .inl (cI, 1500, .inl o3.2.2.2.2.2.2.2.2.2.2.2.2.2.1)), (h_t_text, .inl (cC, 60, .inl t_text)), (h_t_times, .inl (cI, 62, .inl o3.2.2.2.2.2.2.2.2.2.2.2.2.2.2))] H := hP
    have hD : va_D A [(h_t, .inr (10, [.ref h_t_s, .ref h_t_was, .ref h_t_begun, .int t_states, .ref h_t_text, .int t_typed, .ref h_t_wrong, .ref h_t_cost, .ref h_t_first, .ref h_t_block, .ref h_t_many, .ref h_t_stack, .int t_height, .ref h_t_written, .int t_length, .ref h_t_own, .ref h_t_levelAt, .ref h_t_itemAt, .ref h_t_times, .int o3.2.1, .int o3.2.2.1, .int o3.2.2.2.1, .int o3.2.2.2.2.1, .int o3.2.2.2.2.2.1, .int o3.2.2.2.2.2.2.1, .int o3.2.2.2.2.2.2.2.1, .int o3.2.2.2.2.2.2.2.2.1, .int o3.2.2.2.2.2.2.2.2.2.1, .int o3.2.2.2.2.2.2.2.2.2.2.1])), (h_t_itemAt, .inl (cI, 62, .inl o3.2.2.2.2.2.2.2.2.2.2.2.1)), (h_t_levelAt, .inl (cI, 62, .inl o3.2.2.2.2.2.2.2.2.2.2.2.2.1)), (h_t_own, .inl (cI, 1500, .inl o3.2.2.2.2.2.2.2.2.2.2.2.2.2.1)), (h_t_text, .inl (cC, 60, .inl t_text)), (h_t_times, .inl (cI, 62, .inl o3.2.2.2.2.2.2.2.2.2.2.2.2.2.2))] := hD
    refine lv_if_eq (tgt := 24) hx hb dX11_fault_16 (by decide) (fun c_4 => ?_) (fun c_4 => ?_)
    · have hres := it_of hres c_4
      refine lv_iload_n hx hb dX11_fault_24 rfl (lv_at hl 1 rfl) ?_
      refine lv_if_ne (tgt := 35) hx hb dX11_fault_25 (by decide) (fun c_5 => ?_) (fun c_5 => ?_)
      · have hres := ie_of hres c_5
        refine lv_aload_n hx hb dX11_fault_35 rfl (lv_at hl 0 rfl) ?_
        refine va_get (D := (dC, dI)) (ci := 10) (v := .int o3.2.2.2.2.2.2.2.2.2.2.1) (C := RX11) (T := TX11) (N := 29) hx hb hts iMD_fault_X11_fault_1 hown hK hP 0 rfl rfl 28 (by decide) (hts _ kMD_fault_X11_fault_0) (fun _ h9 => h9) rfl dX11_fault_36 ?_
        obtain ⟨e9_0, e9_1, e9_2, e9_3, e9_4, e9_5, e9_6, e9_7, e9_8, e9_9, e9_10, e9_11, e9_12, e9_13, e9_14⟩ := tup15 hres
        subst e9_0
        subst e9_1
        subst e9_2
        subst e9_3
        subst e9_4
        subst e9_5
        subst e9_6
        subst e9_7
        subst e9_8
        subst e9_9
        subst e9_10
        subst e9_11
        subst e9_12
        subst e9_13
        subst e9_14
        rw [← hQQ]
        exact W.iret (v := o3.2.2.2.2.2.2.2.2.2.2.1) hx hb hr (fun t ht hW => ⟨⟨o3.2.2.2.2.2.2.2.2.2.2.1, (), rfl, rfl, by rw [ht]; exact hP, va_K.moved hW.alike hK, hD⟩, hS.F ht⟩) hS.2.2 dX11_fault_39
      · have hres := it_of hres c_5
        refine lv_aload_n hx hb dX11_fault_28 rfl (lv_at hl 0 rfl) ?_
        refine va_get (D := (dC, dI)) (ci := 10) (v := .int o3.2.2.2.2.2.2.2.2.2.1) (C := RX11) (T := TX11) (N := 29) hx hb hts iMD_fault_X11_fault_1 hown hK hP 0 rfl rfl 27 (by decide) (hts _ kMD_fault_X11_fault_2) (fun _ h9 => h9) rfl dX11_fault_29 ?_
        refine lv_goto (tgt := 39) hx hb dX11_fault_32 (by decide) ?_
        obtain ⟨e9_0, e9_1, e9_2, e9_3, e9_4, e9_5, e9_6, e9_7, e9_8, e9_9, e9_10, e9_11, e9_12, e9_13, e9_14⟩ := tup15 hres
        subst e9_0
        subst e9_1
        subst e9_2
        subst e9_3
        subst e9_4
        subst e9_5
        subst e9_6
        subst e9_7
        subst e9_8
        subst e9_9
        subst e9_10
        subst e9_11
        subst e9_12
        subst e9_13
        subst e9_14
        rw [← hQQ]
        exact W.iret (v := o3.2.2.2.2.2.2.2.2.2.1) hx hb hr (fun t ht hW => ⟨⟨o3.2.2.2.2.2.2.2.2.2.1, (), rfl, rfl, by rw [ht]; exact hP, va_K.moved hW.alike hK, hD⟩, hS.F ht⟩) hS.2.2 dX11_fault_39
    · have hres := ie_of hres c_4
      refine lv_ldc (v := (-1000004 : Int32)) hx hb hown (hts _ kMD_fault_X11_fault_3) dX11_fault_19 ?_
      refine lv_goto (tgt := 39) hx hb dX11_fault_21 (by decide) ?_
      obtain ⟨e9_0, e9_1, e9_2, e9_3, e9_4, e9_5, e9_6, e9_7, e9_8, e9_9, e9_10, e9_11, e9_12, e9_13, e9_14⟩ := tup15 hres
      subst e9_0
      subst e9_1
      subst e9_2
      subst e9_3
      subst e9_4
      subst e9_5
      subst e9_6
      subst e9_7
      subst e9_8
      subst e9_9
      subst e9_10
      subst e9_11
      subst e9_12
      subst e9_13
      subst e9_14
      rw [← hQQ]
      exact W.iret (v := (-1000004 : Int32)) hx hb hr (fun t ht hW => ⟨⟨(-1000004 : Int32), (), rfl, rfl, by rw [ht]; exact hP, va_K.moved hW.alike hK, hD⟩, hS.F ht⟩) hS.2.2 dX11_fault_39
  · have hres := it_of hres c_2
    refine lv_ldc (v := (-1000001 : Int32)) hx hb hown (hts _ kMD_fault_X11_fault_4) dX11_fault_9 ?_
    obtain ⟨e9_0, e9_1, e9_2, e9_3, e9_4, e9_5, e9_6, e9_7, e9_8, e9_9, e9_10, e9_11, e9_12, e9_13, e9_14⟩ := tup15 hres
    subst e9_0
    subst e9_1
    subst e9_2
    subst e9_3
    subst e9_4
    subst e9_5
    subst e9_6
    subst e9_7
    subst e9_8
    subst e9_9
    subst e9_10
    subst e9_11
    subst e9_12
    subst e9_13
    subst e9_14
    rw [← hQQ]
    exact W.iret (v := (-1000001 : Int32)) hx hb hr (fun t ht hW => ⟨⟨(-1000001 : Int32), (), rfl, rfl, by rw [ht]; exact hP, va_K.moved hW.alike hK, hD⟩, hS.F ht⟩) hS.2.2 dX11_fault_11

-- MD_isRow
theorem kMD_isRow_X11_isRow_0 : Cond.fieldLink RX11 7 "RepeatNestsModel" "s" "[I" ∈ wsX11_isRow := by decide +kernel
theorem iMD_isRow_X11_isRow_1 : ∀ w ∈ wsX110, w ∈ wsX11_isRow := by decide +kernel
theorem kMD_isRow_X11_isRow_2 : Cond.fieldLink RX11 45 "RepeatNestsModel" "own" "[I" ∈ wsX11_isRow := by decide +kernel
theorem kMD_isRow_X11_isRow_3 : Cond.fieldLink RX11 173 "RepeatNestsModel" "ownLength" "I" ∈ wsX11_isRow := by decide +kernel
set_option maxHeartbeats 4000000 in
set_option maxRecDepth 100000 in
theorem cMD_isRow (l : Launch) (dC : Nat → ClassId) (dI : Nat → Nat → Nat) (cI cJ cC cS : ClassId) (h_t h_t_s h_t_was h_t_begun h_t_text h_t_wrong h_t_cost h_t_first h_t_block h_t_many h_t_stack h_t_written h_t_own h_t_levelAt h_t_itemAt h_t_times : Nat) (sz : Nat) (t_states : Int32) (t_typed : Int32) (t_height : Int32) (t_length : Int32) (t_at : Int32) (t_ownLength : Int32) (t_depth : Int32) (t_deepest : Int32) (t_letters : Int32) (t_repeats : Int32) (t_corrections : Int32) (t_mostCorrections : Int32) (t_place : Int32) (t_reason : Int32) (t_own : Nat → Int32) (t_s : Nat → Int32) (r : Int32) (hres : fMD_isRow t_ownLength t_own t_s = some r) :
    Met l yX11_isRow wsX11_isRow ({ frames := 0, cells := 0, slots := 0, locals := 0 } : Room) (va_Pc [.ref h_t] (fun (U : State) => U.heap.size = sz ∧ va_P (dC, dI) vwCl [(h_t, .inr (10, [.ref h_t_s, .ref h_t_was, .ref h_t_begun, .int t_states, .ref h_t_text, .int t_typed, .ref h_t_wrong, .ref h_t_cost, .ref h_t_first, .ref h_t_block, .ref h_t_many, .ref h_t_stack, .int t_height, .ref h_t_written, .int t_length, .ref h_t_own, .ref h_t_levelAt, .ref h_t_itemAt, .ref h_t_times, .int t_at, .int t_ownLength, .int t_depth, .int t_deepest, .int t_letters, .int t_repeats, .int t_corrections, .int t_mostCorrections, .int t_place, .int t_reason])), (h_t_own, .inl (cI, 1500, .inl t_own)), (h_t_s, .inl (cI, 30, .inl t_s))] U.heap ∧ va_K (dC, dI) vwCl (tyA cI cJ cC cS) U ∧ nwN U ∧ va_D (fun _ => True) [(h_t, .inr (10, [.ref h_t_s, .ref h_t_was, .ref h_t_begun, .int t_states, .ref h_t_text, .int t_typed, .ref h_t_wrong, .ref h_t_cost, .ref h_t_first, .ref h_t_block, .ref h_t_many, .ref h_t_stack, .int t_height, .ref h_t_written, .int t_length, .ref h_t_own, .ref h_t_levelAt, .ref h_t_itemAt, .ref h_t_times, .int t_at, .int t_ownLength, .int t_depth, .int t_deepest, .int t_letters, .int t_repeats, .int t_corrections, .int t_mostCorrections, .int t_place, .int t_reason])), (h_t_own, .inl (cI, 1500, .inl t_own)), (h_t_s, .inl (cI, 30, .inl t_s))])) (va_Qi (fun (r9 : Int32) (_ : Unit) => r9 = r) (fun (_ : Unit) (t : State) => va_P (dC, dI) vwCl [(h_t, .inr (10, [.ref h_t_s, .ref h_t_was, .ref h_t_begun, .int t_states, .ref h_t_text, .int t_typed, .ref h_t_wrong, .ref h_t_cost, .ref h_t_first, .ref h_t_block, .ref h_t_many, .ref h_t_stack, .int t_height, .ref h_t_written, .int t_length, .ref h_t_own, .ref h_t_levelAt, .ref h_t_itemAt, .ref h_t_times, .int t_at, .int t_ownLength, .int t_depth, .int t_deepest, .int t_letters, .int t_repeats, .int t_corrections, .int t_mostCorrections, .int t_place, .int t_reason])), (h_t_own, .inl (cI, 1500, .inl t_own)), (h_t_s, .inl (cI, 30, .inl t_s))] t.heap ∧ va_K (dC, dI) vwCl (tyA cI cJ cC cS) t ∧ va_D (va_A [(h_t, .inr (10, [.ref h_t_s, .ref h_t_was, .ref h_t_begun, .int t_states, .ref h_t_text, .int t_typed, .ref h_t_wrong, .ref h_t_cost, .ref h_t_first, .ref h_t_block, .ref h_t_many, .ref h_t_stack, .int t_height, .ref h_t_written, .int t_length, .ref h_t_own, .ref h_t_levelAt, .ref h_t_itemAt, .ref h_t_times, .int t_at, .int t_ownLength, .int t_depth, .int t_deepest, .int t_letters, .int t_repeats, .int t_corrections, .int t_mostCorrections, .int t_place, .int t_reason])), (h_t_own, .inl (cI, 1500, .inl t_own)), (h_t_s, .inl (cI, 30, .inl t_s))] sz) [(h_t, .inr (10, [.ref h_t_s, .ref h_t_was, .ref h_t_begun, .int t_states, .ref h_t_text, .int t_typed, .ref h_t_wrong, .ref h_t_cost, .ref h_t_first, .ref h_t_block, .ref h_t_many, .ref h_t_stack, .int t_height, .ref h_t_written, .int t_length, .ref h_t_own, .ref h_t_levelAt, .ref h_t_itemAt, .ref h_t_times, .int t_at, .int t_ownLength, .int t_depth, .int t_deepest, .int t_letters, .int t_repeats, .int t_corrections, .int t_mostCorrections, .int t_place, .int t_reason])), (h_t_own, .inl (cI, 1500, .inl t_own)), (h_t_s, .inl (cI, 30, .inl t_s))]) (va_A [(h_t, .inr (10, [.ref h_t_s, .ref h_t_was, .ref h_t_begun, .int t_states, .ref h_t_text, .int t_typed, .ref h_t_wrong, .ref h_t_cost, .ref h_t_first, .ref h_t_block, .ref h_t_many, .ref h_t_stack, .int t_height, .ref h_t_written, .int t_length, .ref h_t_own, .ref h_t_levelAt, .ref h_t_itemAt, .ref h_t_times, .int t_at, .int t_ownLength, .int t_depth, .int t_deepest, .int t_letters, .int t_repeats, .int t_corrections, .int t_mostCorrections, .int t_place, .int t_reason])), (h_t_own, .inl (cI, 1500, .inl t_own)), (h_t_s, .inl (cI, 30, .inl t_s))] sz)) 0 0 (va_A [(h_t, .inr (10, [.ref h_t_s, .ref h_t_was, .ref h_t_begun, .int t_states, .ref h_t_text, .int t_typed, .ref h_t_wrong, .ref h_t_cost, .ref h_t_first, .ref h_t_block, .ref h_t_many, .ref h_t_stack, .int t_height, .ref h_t_written, .int t_length, .ref h_t_own, .ref h_t_levelAt, .ref h_t_itemAt, .ref h_t_times, .int t_at, .int t_ownLength, .int t_depth, .int t_deepest, .int t_letters, .int t_repeats, .int t_corrections, .int t_mostCorrections, .int t_place, .int t_reason])), (h_t_own, .inl (cI, 1500, .inl t_own)), (h_t_s, .inl (cI, 30, .inl t_s))] sz) := by
  refine Met.ofW (cc := cX11_isRow) (maxL := 3) (ret := (some .boolean)) (by decide) rfl ?_
  intro p e s m args below meth c s₁ B hml hv
  obtain ⟨hargs, hsz, hP, hK, hN, hD0⟩ := hv
  have hx := B.exec
  have hb := B.bytes
  have hr := B.returns
  have hts := atoms_spec (ws := wsX11_isRow) B.pre
  have hown : s.vm.findClass RX11 = some m.cls := findClass_of_methodNamed B.named
  have hlocks := B.notSynchronized
  subst hsz
  have hD := hD0.self (sz := s.heap.size)
  generalize hAe : va_A [(h_t, .inr (10, [.ref h_t_s, .ref h_t_was, .ref h_t_begun, .int t_states, .ref h_t_text, .int t_typed, .ref h_t_wrong, .ref h_t_cost, .ref h_t_first, .ref h_t_block, .ref h_t_many, .ref h_t_stack, .int t_height, .ref h_t_written, .int t_length, .ref h_t_own, .ref h_t_levelAt, .ref h_t_itemAt, .ref h_t_times, .int t_at, .int t_ownLength, .int t_depth, .int t_deepest, .int t_letters, .int t_repeats, .int t_corrections, .int t_mostCorrections, .int t_place, .int t_reason])), (h_t_own, .inl (cI, 1500, .inl t_own)), (h_t_s, .inl (cI, 30, .inl t_s))] s.heap.size = A at hD ⊢
  have hA : ∀ q : Nat, s.heap.size ≤ q → A q := fun q h => by rw [← hAe]; exact Or.inr h
  have hS : va_S A s.heap s.heap [] := va_S.rf
  have hP : va_P (dC, dI) vwCl [(h_t, .inr (10, [.ref h_t_s, .ref h_t_was, .ref h_t_begun, .int t_states, .ref h_t_text, .int t_typed, .ref h_t_wrong, .ref h_t_cost, .ref h_t_first, .ref h_t_block, .ref h_t_many, .ref h_t_stack, .int t_height, .ref h_t_written, .int t_length, .ref h_t_own, .ref h_t_levelAt, .ref h_t_itemAt, .ref h_t_times, .int t_at, .int t_ownLength, .int t_depth, .int t_deepest, .int t_letters, .int t_repeats, .int t_corrections, .int t_mostCorrections, .int t_place, .int t_reason])), (h_t_own, .inl (cI, 1500, .inl t_own)), (h_t_s, .inl (cI, 30, .inl t_s))] s.heap := hP
  have hl := lv_entry [.ref h_t] (n := 3) (Nat.le_of_ble_eq_true rfl)
  rw [show entryFrame m args 3 = entryFrame m ([.ref h_t] : List Value).toArray 3 from by rw [hargs], lg_entry_eq]
  generalize (lg_sl [.ref h_t] ++ List.replicate (3 - (lg_sl [.ref h_t]).length) Slot.unset).toArray = ls at hl ⊢
  have hl : lv_has ls 3 [(0, .ref h_t)] := hl
  generalize hQQ : MQ below (va_Qi (fun (r9 : Int32) (_ : Unit) => r9 = r) (fun (_ : Unit) (t : State) => va_P (dC, dI) vwCl [(h_t, .inr (10, [.ref h_t_s, .ref h_t_was, .ref h_t_begun, .int t_states, .ref h_t_text, .int t_typed, .ref h_t_wrong, .ref h_t_cost, .ref h_t_first, .ref h_t_block, .ref h_t_many, .ref h_t_stack, .int t_height, .ref h_t_written, .int t_length, .ref h_t_own, .ref h_t_levelAt, .ref h_t_itemAt, .ref h_t_times, .int t_at, .int t_ownLength, .int t_depth, .int t_deepest, .int t_letters, .int t_repeats, .int t_corrections, .int t_mostCorrections, .int t_place, .int t_reason])), (h_t_own, .inl (cI, 1500, .inl t_own)), (h_t_s, .inl (cI, 30, .inl t_s))] t.heap ∧ va_K (dC, dI) vwCl (tyA cI cJ cC cS) t ∧ va_D A [(h_t, .inr (10, [.ref h_t_s, .ref h_t_was, .ref h_t_begun, .int t_states, .ref h_t_text, .int t_typed, .ref h_t_wrong, .ref h_t_cost, .ref h_t_first, .ref h_t_block, .ref h_t_many, .ref h_t_stack, .int t_height, .ref h_t_written, .int t_length, .ref h_t_own, .ref h_t_levelAt, .ref h_t_itemAt, .ref h_t_times, .int t_at, .int t_ownLength, .int t_depth, .int t_deepest, .int t_letters, .int t_repeats, .int t_corrections, .int t_mostCorrections, .int t_place, .int t_reason])), (h_t_own, .inl (cI, 1500, .inl t_own)), (h_t_s, .inl (cI, 30, .inl t_s))]) A) args s 0 0 A = QQ
  obtain ⟨H, hH⟩ : ∃ H : Heap, H = s.heap := ⟨_, rfl⟩
  obtain ⟨locs, hlocs⟩ : ∃ locs : List Loc, locs = [] := ⟨_, rfl⟩
  rw [← hH] at hP
  have hS : va_S A s.heap H locs := by rw [hH, hlocs]; exact hS
  suffices hZ : W p l e (headSpec wsX11_isRow ({ frames := 0, cells := 0, slots := 0, locals := 0 } : Room)).room s m args below meth c H locs 0 0 QQ (F0 m 0 ls []) by rw [hH, hlocs] at hZ; exact hZ
  clear hH hlocs
  have hL21 : ∀ (n21 : Nat) , ∀ (x1 : Int32) (x2 : Int32) (H : Heap) (locs : List Loc) (ls : Array Slot), fMD_isRow_21 t_own t_s n21 x1 x2 = some r → va_P (dC, dI) vwCl [(h_t, .inr (10, [.ref h_t_s, .ref h_t_was, .ref h_t_begun, .int t_states, .ref h_t_text, .int t_typed, .ref h_t_wrong, .ref h_t_cost, .ref h_t_first, .ref h_t_block, .ref h_t_many, .ref h_t_stack, .int t_height, .ref h_t_written, .int t_length, .ref h_t_own, .ref h_t_levelAt, .ref h_t_itemAt, .ref h_t_times, .int t_at, .int t_ownLength, .int t_depth, .int t_deepest, .int t_letters, .int t_repeats, .int t_corrections, .int t_mostCorrections, .int t_place, .int t_reason])), (h_t_own, .inl (cI, 1500, .inl t_own)), (h_t_s, .inl (cI, 30, .inl t_s))] H → va_D A [(h_t, .inr (10, [.ref h_t_s, .ref h_t_was, .ref h_t_begun, .int t_states, .ref h_t_text, .int t_typed, .ref h_t_wrong, .ref h_t_cost, .ref h_t_first, .ref h_t_block, .ref h_t_many, .ref h_t_stack, .int t_height, .ref h_t_written, .int t_length, .ref h_t_own, .ref h_t_levelAt, .ref h_t_itemAt, .ref h_t_times, .int t_at, .int t_ownLength, .int t_depth, .int t_deepest, .int t_letters, .int t_repeats, .int t_corrections, .int t_mostCorrections, .int t_place, .int t_reason])), (h_t_own, .inl (cI, 1500, .inl t_own)), (h_t_s, .inl (cI, 30, .inl t_s))] → va_S A s.heap H locs → lv_has ls 3 [(0, .ref h_t), (1, .int x1), (2, .int x2)] → W p l e (headSpec wsX11_isRow ({ frames := 0, cells := 0, slots := 0, locals := 0 } : Room)).room s m args below meth c H locs 0 0 QQ (F0 m 21 ls []) := by
    intro n21
    induction n21 with
    | zero =>
      intro x1 x2 H locs ls hres
      rw [fMD_isRow_21] at hres
      cases hres
    | succ n21 ih21 =>
      intro x1 x2 H locs ls hres hP hD hS hl
      rw [fMD_isRow_21] at hres
      refine lv_iload_n hx hb dX11_isRow_21 rfl (lv_at hl 2 rfl) ?_
      refine lv_aload_n hx hb dX11_isRow_22 rfl (lv_at hl 0 rfl) ?_
      refine va_get (D := (dC, dI)) (ci := 10) (v := .ref h_t_s) (C := RX11) (T := TX11) (N := 29) hx hb hts iMD_isRow_X11_isRow_1 hown hK hP 0 rfl rfl 0 (by decide) (hts _ kMD_isRow_X11_isRow_0) (fun _ h9 => h9) rfl dX11_isRow_23 ?_
      refine lv_iconst (v := (0 : Int32)) hx hb dX11_isRow_26 (by decide) ?_
      refine va_iald hx hb hK hP 2 0 rfl rfl (vin (by decide)) dX11_isRow_27 ?_
      refine lv_icmp_ge (tgt := 65) hx hb dX11_isRow_28 (by decide) (fun c_1 => ?_) (fun c_1 => ?_)
      · have hres := it_of hres c_1
        refine lv_iload_n hx hb dX11_isRow_65 rfl (lv_at hl 1 rfl) ?_
        obtain ⟨c_2, hres⟩ := nb_of hres
        have e9_0 := Option.some.inj hres
        subst e9_0
        rw [← hQQ]
        exact W.zret (v := x1) hx hb hr (nb_na c_2) (fun t ht hW => ⟨⟨x1, (), rfl, rfl, by rw [ht]; exact hP, va_K.moved hW.alike hK, hD⟩, hS.F ht⟩) hS.2.2 dX11_isRow_66
      · have hres := ie_of hres c_1
        refine lv_iload_n hx hb dX11_isRow_31 rfl (lv_at hl 1 rfl) ?_
        refine lv_if_eq (tgt := 65) hx hb dX11_isRow_32 (by decide) (fun c_3 => ?_) (fun c_3 => ?_)
        · have hres := it_of hres c_3
          refine lv_iload_n hx hb dX11_isRow_65 rfl (lv_at hl 1 rfl) ?_
          obtain ⟨c_4, hres⟩ := nb_of hres
          have e9_0 := Option.some.inj hres
          subst e9_0
          rw [← hQQ]
          exact W.zret (v := x1) hx hb hr (nb_na c_4) (fun t ht hW => ⟨⟨x1, (), rfl, rfl, by rw [ht]; exact hP, va_K.moved hW.alike hK, hD⟩, hS.F ht⟩) hS.2.2 dX11_isRow_66
        · have hres := ie_of hres c_3
          refine lv_aload_n hx hb dX11_isRow_35 rfl (lv_at hl 0 rfl) ?_
          refine va_get (D := (dC, dI)) (ci := 10) (v := .ref h_t_own) (C := RX11) (T := TX11) (N := 29) hx hb hts iMD_isRow_X11_isRow_1 hown hK hP 0 rfl rfl 15 (by decide) (hts _ kMD_isRow_X11_isRow_2) (fun _ h9 => h9) rfl dX11_isRow_36 ?_
          refine lv_iload_n hx hb dX11_isRow_39 rfl (lv_at hl 2 rfl) ?_
          obtain ⟨c_5, hres⟩ := ck_of hres
          refine va_iald hx hb hK hP 1 0 rfl rfl c_5 dX11_isRow_40 ?_
          refine lv_aload_n hx hb dX11_isRow_41 rfl (lv_at hl 0 rfl) ?_
          refine va_get (D := (dC, dI)) (ci := 10) (v := .ref h_t_s) (C := RX11) (T := TX11) (N := 29) hx hb hts iMD_isRow_X11_isRow_1 hown hK hP 0 rfl rfl 0 (by decide) (hts _ kMD_isRow_X11_isRow_0) (fun _ h9 => h9) rfl dX11_isRow_42 ?_
          refine lv_bipush (v := (6 : Int32)) hx hb dX11_isRow_45 (by decide) ?_
          refine lv_iload_n hx hb dX11_isRow_47 rfl (lv_at hl 2 rfl) ?_
          refine lv_iadd hx hb dX11_isRow_48 ?_
          obtain ⟨c_6, hres⟩ := ck_of hres
          refine va_iald hx hb hK hP 2 0 rfl rfl c_6 dX11_isRow_49 ?_
          refine lv_icmp_ne (tgt := 57) hx hb dX11_isRow_50 (by decide) (fun c_7 => ?_) (fun c_7 => ?_)
          · have hres := ie_of hres c_7
            refine lv_iconst (v := (0 : Int32)) hx hb dX11_isRow_57 (by decide) ?_
            refine lv_istore_n (lv' := [(1, .int (0 : Int32)), (0, .ref h_t), (2, .int x2)]) hx hb dX11_isRow_58 rfl hl (by decide) rfl (fun ls hl => ?_)
            refine lv_iinc (v := (x2 + 1)) (lv' := [(2, .int (x2 + 1)), (1, .int (0 : Int32)), (0, .ref h_t)]) hx hb dX11_isRow_59 hl (k := 2) rfl rfl (by decide) rfl (fun ls hl => ?_)
            refine lv_goto (tgt := 21) hx hb dX11_isRow_62 (by decide) ?_
            exact ih21 (0 : Int32) (x2 + 1) H locs ls hres hP hD hS (lv_sub hl [2, 1, 0] rfl)
          · have hres := it_of hres c_7
            refine lv_iconst (v := (1 : Int32)) hx hb dX11_isRow_53 (by decide) ?_
            refine lv_goto (tgt := 58) hx hb dX11_isRow_54 (by decide) ?_
            refine lv_istore_n (lv' := [(1, .int (1 : Int32)), (0, .ref h_t), (2, .int x2)]) hx hb dX11_isRow_58 rfl hl (by decide) rfl (fun ls hl => ?_)
            refine lv_iinc (v := (x2 + 1)) (lv' := [(2, .int (x2 + 1)), (1, .int (1 : Int32)), (0, .ref h_t)]) hx hb dX11_isRow_59 hl (k := 2) rfl rfl (by decide) rfl (fun ls hl => ?_)
            refine lv_goto (tgt := 21) hx hb dX11_isRow_62 (by decide) ?_
            exact ih21 (1 : Int32) (x2 + 1) H locs ls hres hP hD hS (lv_sub hl [2, 1, 0] rfl)
  rw [fMD_isRow] at hres
  refine lv_aload_n hx hb dX11_isRow_0 rfl (lv_at hl 0 rfl) ?_
  refine va_get (D := (dC, dI)) (ci := 10) (v := .int t_ownLength) (C := RX11) (T := TX11) (N := 29) hx hb hts iMD_isRow_X11_isRow_1 hown hK hP 0 rfl rfl 20 (by decide) (hts _ kMD_isRow_X11_isRow_3) (fun _ h9 => h9) rfl dX11_isRow_1 ?_
  refine lv_aload_n hx hb dX11_isRow_4 rfl (lv_at hl 0 rfl) ?_
  refine va_get (D := (dC, dI)) (ci := 10) (v := .ref h_t_s) (C := RX11) (T := TX11) (N := 29) hx hb hts iMD_isRow_X11_isRow_1 hown hK hP 0 rfl rfl 0 (by decide) (hts _ kMD_isRow_X11_isRow_0) (fun _ h9 => h9) rfl dX11_isRow_5 ?_
  refine lv_iconst (v := (0 : Int32)) hx hb dX11_isRow_8 (by decide) ?_
  refine va_iald hx hb hK hP 2 0 rfl rfl (vin (by decide)) dX11_isRow_9 ?_
  refine lv_icmp_ne (tgt := 17) hx hb dX11_isRow_10 (by decide) (fun c_8 => ?_) (fun c_8 => ?_)
  · have hres := ie_of hres c_8
    refine lv_iconst (v := (0 : Int32)) hx hb dX11_isRow_17 (by decide) ?_
    refine lv_istore_n (lv' := [(1, .int (0 : Int32)), (0, .ref h_t)]) hx hb dX11_isRow_18 rfl hl (by decide) rfl (fun ls hl => ?_)
    refine lv_iconst (v := (0 : Int32)) hx hb dX11_isRow_19 (by decide) ?_
    refine lv_istore_n (lv' := [(2, .int (0 : Int32)), (1, .int (0 : Int32)), (0, .ref h_t)]) hx hb dX11_isRow_20 rfl hl (by decide) rfl (fun ls hl => ?_)
    exact hL21 FU (0 : Int32) (0 : Int32) H locs ls hres hP hD hS (lv_sub hl [2, 1, 0] rfl)
  · have hres := it_of hres c_8
    refine lv_iconst (v := (1 : Int32)) hx hb dX11_isRow_13 (by decide) ?_
    refine lv_goto (tgt := 18) hx hb dX11_isRow_14 (by decide) ?_
    refine lv_istore_n (lv' := [(1, .int (1 : Int32)), (0, .ref h_t)]) hx hb dX11_isRow_18 rfl hl (by decide) rfl (fun ls hl => ?_)
    refine lv_iconst (v := (0 : Int32)) hx hb dX11_isRow_19 (by decide) ?_
    refine lv_istore_n (lv' := [(2, .int (0 : Int32)), (1, .int (1 : Int32)), (0, .ref h_t)]) hx hb dX11_isRow_20 rfl hl (by decide) rfl (fun ls hl => ?_)
    exact hL21 FU (1 : Int32) (0 : Int32) H locs ls hres hP hD hS (lv_sub hl [2, 1, 0] rfl)

-- MD_isSetting
set_option maxHeartbeats 4000000 in
set_option maxRecDepth 100000 in
theorem cMD_isSetting (l : Launch) (dC : Nat → ClassId) (dI : Nat → Nat → Nat) (cI cJ cC cS : ClassId) (sz : Nat) (x0 : Int32) (x1 : Int32) (r : Int32) (hres : fMD_isSetting x0 x1 = some r) :
    Met l yX11_isSetting wsX11_isSetting ({ frames := 1, cells := 0, slots := 0, locals := 22 } : Room) (va_Pc [.int x0, .int x1] (fun (U : State) => U.heap.size = sz ∧ va_P (dC, dI) vwCl [] U.heap ∧ va_K (dC, dI) vwCl (tyA cI cJ cC cS) U ∧ nwN U ∧ va_D (fun _ => True) [])) (va_Qi (fun (r9 : Int32) (_ : Unit) => r9 = r) (fun (_ : Unit) (t : State) => va_P (dC, dI) vwCl [] t.heap ∧ va_K (dC, dI) vwCl (tyA cI cJ cC cS) t ∧ va_D (va_A [] sz) []) (va_A [] sz)) 0 0 (va_A [] sz) := by
  refine Met.ofW (cc := cX11_isSetting) (maxL := 2) (ret := (some .boolean)) (by decide) rfl ?_
  intro p e s m args below meth c s₁ B hml hv
  obtain ⟨hargs, hsz, hP, hK, hN, hD0⟩ := hv
  have hx := B.exec
  have hb := B.bytes
  have hr := B.returns
  have hts := atoms_spec (ws := wsX11_isSetting) B.pre
  have hown : s.vm.findClass RX11 = some m.cls := findClass_of_methodNamed B.named
  have hlocks := B.notSynchronized
  subst hsz
  have hD := hD0.self (sz := s.heap.size)
  generalize hAe : va_A [] s.heap.size = A at hD ⊢
  have hA : ∀ q : Nat, s.heap.size ≤ q → A q := fun q h => by rw [← hAe]; exact Or.inr h
  have hS : va_S A s.heap s.heap [] := va_S.rf
  have hP : va_P (dC, dI) vwCl [] s.heap := hP
  have hl := lv_entry [.int x0, .int x1] (n := 2) (Nat.le_of_ble_eq_true rfl)
  rw [show entryFrame m args 2 = entryFrame m ([.int x0, .int x1] : List Value).toArray 2 from by rw [hargs], lg_entry_eq]
  generalize (lg_sl [.int x0, .int x1] ++ List.replicate (2 - (lg_sl [.int x0, .int x1]).length) Slot.unset).toArray = ls at hl ⊢
  have hl : lv_has ls 2 [(0, .int x0), (1, .int x1)] := hl
  generalize hQQ : MQ below (va_Qi (fun (r9 : Int32) (_ : Unit) => r9 = r) (fun (_ : Unit) (t : State) => va_P (dC, dI) vwCl [] t.heap ∧ va_K (dC, dI) vwCl (tyA cI cJ cC cS) t ∧ va_D A []) A) args s 0 0 A = QQ
  obtain ⟨H, hH⟩ : ∃ H : Heap, H = s.heap := ⟨_, rfl⟩
  obtain ⟨locs, hlocs⟩ : ∃ locs : List Loc, locs = [] := ⟨_, rfl⟩
  rw [← hH] at hP
  have hS : va_S A s.heap H locs := by rw [hH, hlocs]; exact hS
  suffices hZ : W p l e (headSpec wsX11_isSetting ({ frames := 1, cells := 0, slots := 0, locals := 22 } : Room)).room s m args below meth c H locs 0 0 QQ (F0 m 0 ls []) by rw [hH, hlocs] at hZ; exact hZ
  clear hH hlocs
  rw [fMD_isSetting] at hres
  refine lv_iload_n hx hb dX11_isSetting_0 rfl (lv_at hl 0 rfl) ?_
  by_cases c_1 : x0 = (0 : Int32)
  · have hres := it_of hres c_1
    refine lv_tableIn (off := 35) (tgt := 36) hx hb dX11_isSetting_1 (by rw [c_1]; decide) (by rw [c_1]; decide) (by rw [c_1]; rfl) (by decide) ?_
    refine lv_iload_n hx hb dX11_isSetting_36 rfl (lv_at hl 1 rfl) ?_
    refine lv_iconst (v := (1 : Int32)) hx hb dX11_isSetting_37 (by decide) ?_
    refine lv_bipush (v := (9 : Int32)) hx hb dX11_isSetting_38 (by decide) ?_
    obtain ⟨o2, ho2, hres⟩ := bd_of hres
    have hPc := hP.sub (ws' := []) [] rfl
    have hDc := hD.sub (ws' := []) [] (by decide) rfl
    have hFc := va_free (wc := []) hD hS hA [] rfl
    refine va_calli (va_runS (As := [.int x1, .int (1 : Int32), .int (9 : Int32)]) (rest := []) ⟨hx, hb, hml, hown, hts⟩ (cMD_in l dC dI cI cJ cC cS H.size x1 (1 : Int32) (9 : Int32) o2 ho2) (va_cwS 3 hts gX11_isSetting_X11_in rfl rfl rfl (by decide +kernel) ⟨Nat.le_of_ble_eq_true rfl, Nat.le_of_ble_eq_true rfl⟩) ⟨fun a U g mk q => by obtain ⟨q0, q1, qP, qK, qN, qD⟩ := q; exact ⟨q0, q1, qP, va_K.moved (u := U) (U := U.calling g mk a) (Vm.Alike.refl U.vm) qK, nwS (u := U) (U := U.calling g mk a) rfl qN, qD⟩, fun U hU hW => ⟨rfl, by rw [hU], by rw [hU]; exact hPc, va_K.moved hW.alike hK, nwW hW hN, hDc.weaken (fun _ _ _ _ => trivial)⟩⟩ rfl rfl hl.1 rfl (lv_room (Nat.le_of_ble_eq_true rfl)) dX11_isSetting_40 ⟨Nat.zero_le _, Nat.zero_le _⟩) hS (fun q _ h => hFc q h) hFc (fun r9 u9 t H1 locs ht hvm hw hB hz1 hk1 hS => ?_)
    have hw := hw.symm
    subst hw
    obtain ⟨hP1, hK1, hD1⟩ := hB
    rw [ht] at hP1
    obtain ⟨hP, hD⟩ := va_join (wr := []) (w1 := []) hP hD [] [] rfl rfl (by decide) (by decide) hk1 hFc hP1 hD1
    generalize H1 = H at hP hS ⊢
    have hP : va_P (dC, dI) vwCl [] H := hP
    have hD : va_D A [] := hD
    obtain ⟨c_3, hres⟩ := nb_of hres
    have e9_0 := Option.some.inj hres
    subst e9_0
    rw [← hQQ]
    exact W.zret (v := o2) hx hb hr (nb_na c_3) (fun t ht hW => ⟨⟨o2, (), rfl, rfl, by rw [ht]; exact hP, va_K.moved hW.alike hK, hD⟩, hS.F ht⟩) hS.2.2 dX11_isSetting_43
  · have hres := ie_of hres c_1
    by_cases c_4 : x0 = (1 : Int32)
    · have hres := it_of hres c_4
      refine lv_tableIn (off := 43) (tgt := 44) hx hb dX11_isSetting_1 (by rw [c_4]; decide) (by rw [c_4]; decide) (by rw [c_4]; rfl) (by decide) ?_
      refine lv_iload_n hx hb dX11_isSetting_44 rfl (lv_at hl 1 rfl) ?_
      refine lv_iconst (v := (0 : Int32)) hx hb dX11_isSetting_45 (by decide) ?_
      refine lv_bipush (v := (20 : Int32)) hx hb dX11_isSetting_46 (by decide) ?_
      obtain ⟨o5, ho5, hres⟩ := bd_of hres
      have hPc := hP.sub (ws' := []) [] rfl
      have hDc := hD.sub (ws' := []) [] (by decide) rfl
      have hFc := va_free (wc := []) hD hS hA [] rfl
      refine va_calli (va_runS (As := [.int x1, .int (0 : Int32), .int (20 : Int32)]) (rest := []) ⟨hx, hb, hml, hown, hts⟩ (cMD_in l dC dI cI cJ cC cS H.size x1 (0 : Int32) (20 : Int32) o5 ho5) (va_cwS 3 hts gX11_isSetting_X11_in rfl rfl rfl (by decide +kernel) ⟨Nat.le_of_ble_eq_true rfl, Nat.le_of_ble_eq_true rfl⟩) ⟨fun a U g mk q => by obtain ⟨q0, q1, qP, qK, qN, qD⟩ := q; exact ⟨q0, q1, qP, va_K.moved (u := U) (U := U.calling g mk a) (Vm.Alike.refl U.vm) qK, nwS (u := U) (U := U.calling g mk a) rfl qN, qD⟩, fun U hU hW => ⟨rfl, by rw [hU], by rw [hU]; exact hPc, va_K.moved hW.alike hK, nwW hW hN, hDc.weaken (fun _ _ _ _ => trivial)⟩⟩ rfl rfl hl.1 rfl (lv_room (Nat.le_of_ble_eq_true rfl)) dX11_isSetting_48 ⟨Nat.zero_le _, Nat.zero_le _⟩) hS (fun q _ h => hFc q h) hFc (fun r9 u9 t H1 locs ht hvm hw hB hz1 hk1 hS => ?_)
      have hw := hw.symm
      subst hw
      obtain ⟨hP1, hK1, hD1⟩ := hB
      rw [ht] at hP1
      obtain ⟨hP, hD⟩ := va_join (wr := []) (w1 := []) hP hD [] [] rfl rfl (by decide) (by decide) hk1 hFc hP1 hD1
      generalize H1 = H at hP hS ⊢
      have hP : va_P (dC, dI) vwCl [] H := hP
      have hD : va_D A [] := hD
      obtain ⟨c_6, hres⟩ := nb_of hres
      have e9_0 := Option.some.inj hres
      subst e9_0
      rw [← hQQ]
      exact W.zret (v := o5) hx hb hr (nb_na c_6) (fun t ht hW => ⟨⟨o5, (), rfl, rfl, by rw [ht]; exact hP, va_K.moved hW.alike hK, hD⟩, hS.F ht⟩) hS.2.2 dX11_isSetting_51
    · have hres := ie_of hres c_4
      by_cases c_7 : x0 = (2 : Int32)
      · have hres := it_of hres c_7
        refine lv_tableIn (off := 43) (tgt := 44) hx hb dX11_isSetting_1 (by rw [c_7]; decide) (by rw [c_7]; decide) (by rw [c_7]; rfl) (by decide) ?_
        refine lv_iload_n hx hb dX11_isSetting_44 rfl (lv_at hl 1 rfl) ?_
        refine lv_iconst (v := (0 : Int32)) hx hb dX11_isSetting_45 (by decide) ?_
        refine lv_bipush (v := (20 : Int32)) hx hb dX11_isSetting_46 (by decide) ?_
        obtain ⟨o8, ho8, hres⟩ := bd_of hres
        have hPc := hP.sub (ws' := []) [] rfl
        have hDc := hD.sub (ws' := []) [] (by decide) rfl
        have hFc := va_free (wc := []) hD hS hA [] rfl
        refine va_calli (va_runS (As := [.int x1, .int (0 : Int32), .int (20 : Int32)]) (rest := []) ⟨hx, hb, hml, hown, hts⟩ (cMD_in l dC dI cI cJ cC cS H.size x1 (0 : Int32) (20 : Int32) o8 ho8) (va_cwS 3 hts gX11_isSetting_X11_in rfl rfl rfl (by decide +kernel) ⟨Nat.le_of_ble_eq_true rfl, Nat.le_of_ble_eq_true rfl⟩) ⟨fun a U g mk q => by obtain ⟨q0, q1, qP, qK, qN, qD⟩ := q; exact ⟨q0, q1, qP, va_K.moved (u := U) (U := U.calling g mk a) (Vm.Alike.refl U.vm) qK, nwS (u := U) (U := U.calling g mk a) rfl qN, qD⟩, fun U hU hW => ⟨rfl, by rw [hU], by rw [hU]; exact hPc, va_K.moved hW.alike hK, nwW hW hN, hDc.weaken (fun _ _ _ _ => trivial)⟩⟩ rfl rfl hl.1 rfl (lv_room (Nat.le_of_ble_eq_true rfl)) dX11_isSetting_48 ⟨Nat.zero_le _, Nat.zero_le _⟩) hS (fun q _ h => hFc q h) hFc (fun r9 u9 t H1 locs ht hvm hw hB hz1 hk1 hS => ?_)
        have hw := hw.symm
        subst hw
        obtain ⟨hP1, hK1, hD1⟩ := hB
        rw [ht] at hP1
        obtain ⟨hP, hD⟩ := va_join (wr := []) (w1 := []) hP hD [] [] rfl rfl (by decide) (by decide) hk1 hFc hP1 hD1
        generalize H1 = H at hP hS ⊢
        have hP : va_P (dC, dI) vwCl [] H := hP
        have hD : va_D A [] := hD
        obtain ⟨c_9, hres⟩ := nb_of hres
        have e9_0 := Option.some.inj hres
        subst e9_0
        rw [← hQQ]
        exact W.zret (v := o8) hx hb hr (nb_na c_9) (fun t ht hW => ⟨⟨o8, (), rfl, rfl, by rw [ht]; exact hP, va_K.moved hW.alike hK, hD⟩, hS.F ht⟩) hS.2.2 dX11_isSetting_51
      · have hres := ie_of hres c_7
        by_cases c_10 : x0 = (3 : Int32)
        · have hres := it_of hres c_10
          refine lv_tableIn (off := 51) (tgt := 52) hx hb dX11_isSetting_1 (by rw [c_10]; decide) (by rw [c_10]; decide) (by rw [c_10]; rfl) (by decide) ?_
          refine lv_iload_n hx hb dX11_isSetting_52 rfl (lv_at hl 1 rfl) ?_
          refine lv_iconst (v := (0 : Int32)) hx hb dX11_isSetting_53 (by decide) ?_
          refine lv_bipush (v := (6 : Int32)) hx hb dX11_isSetting_54 (by decide) ?_
          obtain ⟨o11, ho11, hres⟩ := bd_of hres
          have hPc := hP.sub (ws' := []) [] rfl
          have hDc := hD.sub (ws' := []) [] (by decide) rfl
          have hFc := va_free (wc := []) hD hS hA [] rfl
          refine va_calli (va_runS (As := [.int x1, .int (0 : Int32), .int (6 : Int32)]) (rest := []) ⟨hx, hb, hml, hown, hts⟩ (cMD_in l dC dI cI cJ cC cS H.size x1 (0 : Int32) (6 : Int32) o11 ho11) (va_cwS 3 hts gX11_isSetting_X11_in rfl rfl rfl (by decide +kernel) ⟨Nat.le_of_ble_eq_true rfl, Nat.le_of_ble_eq_true rfl⟩) ⟨fun a U g mk q => by obtain ⟨q0, q1, qP, qK, qN, qD⟩ := q; exact ⟨q0, q1, qP, va_K.moved (u := U) (U := U.calling g mk a) (Vm.Alike.refl U.vm) qK, nwS (u := U) (U := U.calling g mk a) rfl qN, qD⟩, fun U hU hW => ⟨rfl, by rw [hU], by rw [hU]; exact hPc, va_K.moved hW.alike hK, nwW hW hN, hDc.weaken (fun _ _ _ _ => trivial)⟩⟩ rfl rfl hl.1 rfl (lv_room (Nat.le_of_ble_eq_true rfl)) dX11_isSetting_56 ⟨Nat.zero_le _, Nat.zero_le _⟩) hS (fun q _ h => hFc q h) hFc (fun r9 u9 t H1 locs ht hvm hw hB hz1 hk1 hS => ?_)
          have hw := hw.symm
          subst hw
          obtain ⟨hP1, hK1, hD1⟩ := hB
          rw [ht] at hP1
          obtain ⟨hP, hD⟩ := va_join (wr := []) (w1 := []) hP hD [] [] rfl rfl (by decide) (by decide) hk1 hFc hP1 hD1
          generalize H1 = H at hP hS ⊢
          have hP : va_P (dC, dI) vwCl [] H := hP
          have hD : va_D A [] := hD
          obtain ⟨c_12, hres⟩ := nb_of hres
          have e9_0 := Option.some.inj hres
          subst e9_0
          rw [← hQQ]
          exact W.zret (v := o11) hx hb hr (nb_na c_12) (fun t ht hW => ⟨⟨o11, (), rfl, rfl, by rw [ht]; exact hP, va_K.moved hW.alike hK, hD⟩, hS.F ht⟩) hS.2.2 dX11_isSetting_59
        · have hres := ie_of hres c_10
          by_cases c_13 : x0 = (4 : Int32)
          · have hres := it_of hres c_13
            refine lv_tableIn (off := 59) (tgt := 60) hx hb dX11_isSetting_1 (by rw [c_13]; decide) (by rw [c_13]; decide) (by rw [c_13]; rfl) (by decide) ?_
            refine lv_iload_n hx hb dX11_isSetting_60 rfl (lv_at hl 1 rfl) ?_
            refine lv_iconst (v := (0 : Int32)) hx hb dX11_isSetting_61 (by decide) ?_
            refine lv_iconst (v := (4 : Int32)) hx hb dX11_isSetting_62 (by decide) ?_
            obtain ⟨o14, ho14, hres⟩ := bd_of hres
            have hPc := hP.sub (ws' := []) [] rfl
            have hDc := hD.sub (ws' := []) [] (by decide) rfl
            have hFc := va_free (wc := []) hD hS hA [] rfl
            refine va_calli (va_runS (As := [.int x1, .int (0 : Int32), .int (4 : Int32)]) (rest := []) ⟨hx, hb, hml, hown, hts⟩ (cMD_in l dC dI cI cJ cC cS H.size x1 (0 : Int32) (4 : Int32) o14 ho14) (va_cwS 3 hts gX11_isSetting_X11_in rfl rfl rfl (by decide +kernel) ⟨Nat.le_of_ble_eq_true rfl, Nat.le_of_ble_eq_true rfl⟩) ⟨fun a U g mk q => by obtain ⟨q0, q1, qP, qK, qN, qD⟩ := q; exact ⟨q0, q1, qP, va_K.moved (u := U) (U := U.calling g mk a) (Vm.Alike.refl U.vm) qK, nwS (u := U) (U := U.calling g mk a) rfl qN, qD⟩, fun U hU hW => ⟨rfl, by rw [hU], by rw [hU]; exact hPc, va_K.moved hW.alike hK, nwW hW hN, hDc.weaken (fun _ _ _ _ => trivial)⟩⟩ rfl rfl hl.1 rfl (lv_room (Nat.le_of_ble_eq_true rfl)) dX11_isSetting_63 ⟨Nat.zero_le _, Nat.zero_le _⟩) hS (fun q _ h => hFc q h) hFc (fun r9 u9 t H1 locs ht hvm hw hB hz1 hk1 hS => ?_)
            have hw := hw.symm
            subst hw
            obtain ⟨hP1, hK1, hD1⟩ := hB
            rw [ht] at hP1
            obtain ⟨hP, hD⟩ := va_join (wr := []) (w1 := []) hP hD [] [] rfl rfl (by decide) (by decide) hk1 hFc hP1 hD1
            generalize H1 = H at hP hS ⊢
            have hP : va_P (dC, dI) vwCl [] H := hP
            have hD : va_D A [] := hD
            obtain ⟨c_15, hres⟩ := nb_of hres
            have e9_0 := Option.some.inj hres
            subst e9_0
            rw [← hQQ]
            exact W.zret (v := o14) hx hb hr (nb_na c_15) (fun t ht hW => ⟨⟨o14, (), rfl, rfl, by rw [ht]; exact hP, va_K.moved hW.alike hK, hD⟩, hS.F ht⟩) hS.2.2 dX11_isSetting_66
          · have hres := ie_of hres c_13
            refine lv_tableOut (tgt := 67) hx hb dX11_isSetting_1 (tab_out (lo := 0) (hi := 4) (fun k h1 h2 => by rcases (show k = 0 ∨ k = 1 ∨ k = 2 ∨ k = 3 ∨ k = 4 by omega) with rfl | rfl | rfl | rfl | rfl <;> assumption)) (by decide) ?_
            refine lv_iconst (v := (0 : Int32)) hx hb dX11_isSetting_67 (by decide) ?_
            have e9_0 := Option.some.inj hres
            subst e9_0
            rw [← hQQ]
            exact W.zret (v := (0 : Int32)) hx hb hr rfl (fun t ht hW => ⟨⟨(0 : Int32), (), rfl, rfl, by rw [ht]; exact hP, va_K.moved hW.alike hK, hD⟩, hS.F ht⟩) hS.2.2 dX11_isSetting_68
